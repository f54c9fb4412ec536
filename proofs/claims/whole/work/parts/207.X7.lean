def k_X7_init_15s  (x0 : Nat)  (rec15 : Hp → Int32 → Option (Hp)) (A : Hp) (x1 : Int32) : Option (Hp) := (if (6 : Int32) ≤ x1 then if (hsh A x0).1 = 6 then some (hsI A 321 x0 0 (0 : Int32)) else none else if (hsh A x0).1 = 6 then if (hsh (hmk A 5 0) (hsz A)).1 = 5 then ((f_X6_init (hmk A 5 0) (hsz A) (30 : Int32)).bind fun A6 => if (hsh A6 (hgR A 320 x0 0)).1 = 15 then if (hsh A6 (hsz A)).1 = 5 then if wix x1 (hsh A6 (hgR A 320 x0 0)).2 then rec15 (hsR A6 1039 (hgR A 320 x0 0) x1.toNatClampNeg (hsz A)) (x1 + (1 : Int32)) else none else none else none) else none else none)
def k_X7_init_15  (x0 : Nat)  : Nat → Hp → Int32 → Option (Hp)
  | 0 => fun _ _ => none
  | fu + 1 => k_X7_init_15s x0  (k_X7_init_15 x0  fu)
set_option maxRecDepth 100000 in
theorem s_X7_init_15 {κ : KT} {B : Hp}  {x0 : Nat}  (K : Cx κ cX7_init 2 RX7 2 44 17 262) (E : Ed κ none "<init>" (.inl none) B 17 262)  : ∀ (fu : Nat) (c n : Nat) (A : Hp) (x1 : Int32), c + fu * 2 ≤ 15 → n + fu * 32 ≤ 230 → k_X7_init_15 x0  fu A x1 = some B → Vw κ A c n 15 [(0, .inr (.inr x0)), (1, .inl x1)] [] := by
  intro fu
  induction fu with
  | zero => intro c n A x1 hc9 hn9 h; cases h
  | succ fu hr15 =>
    intro c n A x1 hc9 hn9 h
    have h : k_X7_init_15s x0  (k_X7_init_15 x0  fu) A x1 = some B := h
    unfold k_X7_init_15s at h
    refine Vw.iload_n (pc := 15) (x := x1) K dX7_init_15 rfl ?_
    refine Vw.bipush (pc := 16) (v := (6 : Int32)) K (by decide) dX7_init_16 ?_
    refine Vw.icmp_ge (pc := 18) (tgt := 42) K dX7_init_18 (by decide) (fun c1 => ?_) (fun c1 => ?_)
    · have h := wpos c1 h
      refine Vw.wid (c' := 15) (n' := 230) (by omega) (by omega) ?_
      refine Vw.aload_n (pc := 42) (x := x0) K dX7_init_42 rfl ?_
      refine Vw.iconst (pc := 43) (v := (0 : Int32)) K (by decide) dX7_init_43 ?_
      obtain ⟨g2, h⟩ := wgd h
      refine Vw.putI (pc := 44) (k := 1) (f := 321) K cls5 rfl rfl u_1_208 g2 (Or.inl rfl) rfl rfl dX7_init_44 ?_
      exact Vw.vretE (pc := 47) K (Option.some.inj h) E (by decide) (by decide) dX7_init_47
    · have h := wneg c1 h
      refine Vw.aload_n (pc := 21) (x := x0) K dX7_init_21 rfl ?_
      obtain ⟨g3, h⟩ := wgd h
      refine Vw.getR (pc := 22) (k := 0) (f := 320) K cls5 rfl rfl u_1_207 g3 dX7_init_22 ?_
      refine Vw.iload_n (pc := 25) (x := x1) K dX7_init_25 rfl ?_
      refine Vw.newc (pc := 26) (c := c) (n := n) (c' := c + 1) (n' := n + 2) K cls4 clsd4 u_1_204 (by omega) (by omega) dX7_init_26 rfl rfl ?_
      refine Vw.dup (pc := 29) K rfl dX7_init_29 ?_
      refine Vw.bipush (pc := 30) (v := (30 : Int32)) K (by decide) dX7_init_30 ?_
      obtain ⟨g4, h⟩ := wgd h
      obtain ⟨A6, e5, h⟩ := wbd h
      refine Vw.cI0K (pc := 32) (c' := c + 2) (n' := n + 32) K (s_X6_init (ms := 30) (by decide) K.tr e5) cal_X6_init u_1_206 g4 rfl ⟨by decide, by decide⟩ ⟨by omega, by omega⟩ rfl (Nat.le_of_ble_eq_true rfl) dX7_init_32 rfl rfl ?_
      obtain ⟨g7, h⟩ := wgd h
      obtain ⟨g8, h⟩ := wgd h
      obtain ⟨g9, h⟩ := wgd h
      refine Vw.aastoreR (pc := 35) K g7 g8 g9 dX7_init_35 ?_
      refine Vw.iinc (pc := 36) (x := x1) (v := (1 : Int32)) K dX7_init_36 rfl (by decide) (by decide) ?_
      refine Vw.goto (pc := 39) (tgt := 15) K dX7_init_39 (by decide) ?_
      exact Vw.loc rfl (hr15 _ _ _ _ (by omega) (by omega) h)
def f_X7_init (A : Hp) (x0 : Nat) : Option (Hp) := if (hsh A x0).1 = 6 then if (hsh (hmk A 15 6) x0).1 = 6 then k_X7_init_15 x0 7 (hsR (hmk A 15 6) 320 x0 0 (hsz A)) (0 : Int32) else none else none
set_option maxRecDepth 100000 in
theorem s_X7_init {l : Launch} {g : GT} (hl : l.stackTraces = false) {A : Hp} {x0 : Nat} {B : Hp} (h : f_X7_init A x0 = some B) : MetV l g yX7_init (.code yX7_init cX7_init 2 none) [.inr (.inr x0)] A (.inl none) B 2 44 17 262 := by
  refine MetV.ofV hl (by decide +kernel) (Nat.le_of_ble_eq_true rfl) (fun κ K E => ?_)
  have K : Cx κ cX7_init 2 RX7 2 44 17 262 := K
  have E : Ed κ none "<init>" (.inl none) B 17 262 := E
  unfold f_X7_init at h
  change Vw κ A 0 0 0 [(0, .inr (.inr x0))] []
  refine Vw.aload_n (pc := 0) (x := x0) K dX7_init_0 rfl ?_
  obtain ⟨g10, h⟩ := wgd h
  refine Vw.objInitK (pc := 1) K u_1_203 u_1_30 u_1_31 g10 (by decide) (Nat.le_of_ble_eq_true rfl) dX7_init_1 ?_
  refine Vw.aload_n (pc := 4) (x := x0) K dX7_init_4 rfl ?_
  refine Vw.bipush (pc := 5) (v := (6 : Int32)) K (by decide) dX7_init_5 ?_
  refine Vw.newqR_ (pc := 7) (c := 0) (n := 0) (c' := 1) (n' := 6) (N := 6) K u_1_204 (by decide) (by decide) (by decide) (by decide) (by decide) dX7_init_7 rfl rfl ?_
  obtain ⟨g11, h⟩ := wgd h
  refine Vw.putR (pc := 10) (k := 0) (f := 320) K cls5 rfl rfl u_1_207 g11 (Or.inr ⟨rfl, E.2.2.1, rfl⟩) (wAn _ _) (wAf _ _) dX7_init_10 ?_
  refine Vw.iconst (pc := 13) (v := (0 : Int32)) K (by decide) dX7_init_13 ?_
  refine Vw.istore_n (pc := 14) K dX7_init_14 (by decide) ?_
  exact Vw.loc rfl (s_X7_init_15 K E _ _ _ _ _ (by decide) (by decide) h)
theorem cal_X7_init : wCalI yX7_init (.code yX7_init cX7_init 2 none) 0 := ⟨by decide +kernel, u_1_201, u_1_7, u_1_202, rfl⟩
def k_X7_publicStart_51 (rec11 : Int32 → Int32 → Option (Int32)) (A : Hp) (x0 : Nat) (x1 : Nat) (x2 : Int32) (x3 : Int32)  : Option (Int32) := rec11 x2 (x3 + (1 : Int32))
set_option maxRecDepth 100000 in
theorem s_X7_publicStart_51 {κ : KT} {r : Int32} {A : Hp} {x0 : Nat} {x1 : Nat} {x2 : Int32} {x3 : Int32}  {rec11 : Int32 → Int32 → Option (Int32)} (K : Cx κ cX7_publicStart 4 RX7 2 44 0 0) (E : Ed κ (some .int) "publicStart" (.inl (some (.inl r))) A 0 0) (hr11 : ∀ (x2 : Int32) (x3 : Int32), rec11 x2 x3 = some r → Vw κ A 0 0 11 [(0, .inr (.inr x0)), (1, .inr (.inr x1)), (2, .inl x2), (3, .inl x3)] []) (h : k_X7_publicStart_51 rec11 A x0 x1 x2 x3  = some r) : Vw κ A 0 0 51 [(0, .inr (.inr x0)), (1, .inr (.inr x1)), (2, .inl x2), (3, .inl x3)] [] := by
  unfold k_X7_publicStart_51 at h
  refine Vw.iinc (pc := 51) (x := x3) (v := (1 : Int32)) K dX7_publicStart_51 rfl (by decide) (by decide) ?_
  refine Vw.goto (pc := 54) (tgt := 11) K dX7_publicStart_54 (by decide) ?_
  exact Vw.loc rfl (hr11 _ _ h)
def k_X7_publicStart_11s (A : Hp) (x0 : Nat) (x1 : Nat)  (rec11 : Int32 → Int32 → Option (Int32))  (x2 : Int32) (x3 : Int32) : Option (Int32) := if (hsh A x0).1 = 6 then (if (hgI A 321 x0 0) ≤ x3 then some x2 else if (hsh A (hgR A 320 x0 0)).1 = 15 then if wix x3 (hsh A (hgR A 320 x0 0)).2 then if (hsh A x1).1 = 5 then ((f_X6_domainMatches A x1 (hgR A 1039 (hgR A 320 x0 0) x3.toNatClampNeg)).bind fun v7 => (if v7 = (0 : Int32) then k_X7_publicStart_51 rec11 A x0 x1 x2 x3 else if (hsh A (hgR A 1039 (hgR A 320 x0 0) x3.toNatClampNeg)).1 = 5 then k_X7_publicStart_51 rec11 A x0 x1 (if ((hgI A 257 x1 0) - (hgI A 257 (hgR A 1039 (hgR A 320 x0 0) x3.toNatClampNeg) 0)) < x2 then ((hgI A 257 x1 0) - (hgI A 257 (hgR A 1039 (hgR A 320 x0 0) x3.toNatClampNeg) 0)) else x2) x3 else none)) else none else none else none) else none
def k_X7_publicStart_11 (A : Hp) (x0 : Nat) (x1 : Nat)  : Nat → Int32 → Int32 → Option (Int32)
  | 0 => fun _ _ => none
  | fu + 1 => k_X7_publicStart_11s A x0 x1  (k_X7_publicStart_11 A x0 x1  fu)
set_option maxRecDepth 100000 in
theorem s_X7_publicStart_11 {κ : KT} {r : Int32} {A : Hp} {x0 : Nat} {x1 : Nat}  (K : Cx κ cX7_publicStart 4 RX7 2 44 0 0) (E : Ed κ (some .int) "publicStart" (.inl (some (.inl r))) A 0 0)  : ∀ (fu : Nat)  (x2 : Int32) (x3 : Int32),  k_X7_publicStart_11 A x0 x1  fu x2 x3 = some r → Vw κ A 0 0 11 [(0, .inr (.inr x0)), (1, .inr (.inr x1)), (2, .inl x2), (3, .inl x3)] [] := by
  intro fu
  induction fu with
  | zero => intro x2 x3 h; cases h
  | succ fu hr11 =>
    intro x2 x3 h
    have h : k_X7_publicStart_11s A x0 x1  (k_X7_publicStart_11 A x0 x1  fu) x2 x3 = some r := h
    unfold k_X7_publicStart_11s at h
    refine Vw.iload_n (pc := 11) (x := x3) K dX7_publicStart_11 rfl ?_
    refine Vw.aload_n (pc := 12) (x := x0) K dX7_publicStart_12 rfl ?_
    obtain ⟨g1, h⟩ := wgd h
    refine Vw.getI (pc := 13) (k := 1) (f := 321) K cls5 rfl rfl u_1_208 g1 dX7_publicStart_13 ?_
    refine Vw.icmp_ge (pc := 16) (tgt := 57) K dX7_publicStart_16 (by decide) (fun c2 => ?_) (fun c2 => ?_)
    · have h := wpos c2 h
      refine Vw.iload_n (pc := 57) (x := x2) K dX7_publicStart_57 rfl ?_
      exact Vw.iretE (pc := 58) K (Option.some.inj h) rfl E (by decide) (by decide) dX7_publicStart_58
    · have h := wneg c2 h
      refine Vw.aload_n (pc := 19) (x := x1) K dX7_publicStart_19 rfl ?_
      refine Vw.aload_n (pc := 20) (x := x0) K dX7_publicStart_20 rfl ?_
      refine Vw.getR (pc := 21) (k := 0) (f := 320) K cls5 rfl rfl u_1_207 g1 dX7_publicStart_21 ?_
      refine Vw.iload_n (pc := 24) (x := x3) K dX7_publicStart_24 rfl ?_
      obtain ⟨g3, h⟩ := wgd h
      obtain ⟨g4, h⟩ := wgd h
      refine Vw.aaloadR (pc := 25) K g3 g4 dX7_publicStart_25 ?_
      obtain ⟨g5, h⟩ := wgd h
      obtain ⟨v7, e6, h⟩ := wbd h
      refine Vw.cV1 (pc := 26) (v := .inl v7) (c' := 0) (n' := 0) K (s_X6_domainMatches K.tr e6) cal_X6_domainMatches cls4 u_3_150 g5 rfl ⟨by decide, by decide⟩ ⟨by decide, by decide⟩ rfl (Nat.le_of_ble_eq_true rfl) dX7_publicStart_26 rfl rfl ?_
      refine Vw.if_eq (pc := 29) (tgt := 51) K dX7_publicStart_29 (by decide) (fun c8 => ?_) (fun c8 => ?_)
      · have h := wpos c8 h
        exact Vw.loc rfl (s_X7_publicStart_51 K E hr11 h)
      · have h := wneg c8 h
        refine Vw.iload_n (pc := 32) (x := x2) K dX7_publicStart_32 rfl ?_
        refine Vw.aload_n (pc := 33) (x := x1) K dX7_publicStart_33 rfl ?_
        refine Vw.getI (pc := 34) (k := 1) (f := 257) K cls4 rfl rfl u_1_48 g5 dX7_publicStart_34 ?_
        refine Vw.aload_n (pc := 37) (x := x0) K dX7_publicStart_37 rfl ?_
        refine Vw.getR (pc := 38) (k := 0) (f := 320) K cls5 rfl rfl u_1_207 g1 dX7_publicStart_38 ?_
        refine Vw.iload_n (pc := 41) (x := x3) K dX7_publicStart_41 rfl ?_
        refine Vw.aaloadR (pc := 42) K g3 g4 dX7_publicStart_42 ?_
        obtain ⟨g9, h⟩ := wgd h
        refine Vw.getI (pc := 43) (k := 1) (f := 257) K cls4 rfl rfl u_1_48 g9 dX7_publicStart_43 ?_
        refine Vw.isub (pc := 46) K dX7_publicStart_46 ?_
        refine Vw.mmin (pc := 47) K u_3_154 u_2_167 u_1_3 u_2_168 (by decide) (Nat.le_of_ble_eq_true rfl) (by decide) (by decide) dX7_publicStart_47 ?_
        refine Vw.istore_n (pc := 50) K dX7_publicStart_50 (by decide) ?_
        exact Vw.loc rfl (s_X7_publicStart_51 K E hr11 h)
def f_X7_publicStart (A : Hp) (x0 : Nat) (x1 : Nat) : Option (Int32) := if (hsh A x1).1 = 5 then ((f_X3_labelStart A x1 (hgI A 257 x1 0)).bind fun v12 => k_X7_publicStart_11 A x0 x1 FU v12 (0 : Int32)) else none
set_option maxRecDepth 100000 in
theorem s_X7_publicStart {l : Launch} {g : GT} (hl : l.stackTraces = false) {A : Hp} {x0 : Nat} {x1 : Nat} {r : Int32} (h : f_X7_publicStart A x0 x1 = some r) : MetV l g yX7_publicStart (.code yX7_publicStart cX7_publicStart 4 (some .int)) [.inr (.inr x0), .inr (.inr x1)] A (.inl (some (.inl r))) A 2 44 0 0 := by
  refine MetV.ofV hl (by decide +kernel) (Nat.le_of_ble_eq_true rfl) (fun κ K E => ?_)
  have K : Cx κ cX7_publicStart 4 RX7 2 44 0 0 := K
  have E : Ed κ (some .int) "publicStart" (.inl (some (.inl r))) A 0 0 := E
  unfold f_X7_publicStart at h
  change Vw κ A 0 0 0 [(0, .inr (.inr x0)), (1, .inr (.inr x1))] []
  refine Vw.aload_n (pc := 0) (x := x1) K dX7_publicStart_0 rfl ?_
  refine Vw.aload_n (pc := 1) (x := x1) K dX7_publicStart_1 rfl ?_
  obtain ⟨g10, h⟩ := wgd h
  refine Vw.getI (pc := 2) (k := 1) (f := 257) K cls4 rfl rfl u_1_48 g10 dX7_publicStart_2 ?_
  obtain ⟨v12, e11, h⟩ := wbd h
  refine Vw.cS1 (pc := 5) (v := .inl v12) (c' := 0) (n' := 0) K (s_X3_labelStart K.tr e11) cal_X3_labelStart u_3_147 rfl ⟨by decide, by decide⟩ ⟨by decide, by decide⟩ rfl (Nat.le_of_ble_eq_true rfl) dX7_publicStart_5 rfl rfl ?_
  refine Vw.istore_n (pc := 8) K dX7_publicStart_8 (by decide) ?_
  refine Vw.iconst (pc := 9) (v := (0 : Int32)) K (by decide) dX7_publicStart_9 ?_
  refine Vw.istore_n (pc := 10) K dX7_publicStart_10 (by decide) ?_
  exact Vw.loc rfl (s_X7_publicStart_11 K E  _ _ _ h)
theorem cal_X7_publicStart : wCalV RX7 yX7_publicStart (.code yX7_publicStart cX7_publicStart 4 (some .int)) 1 := ⟨by decide +kernel, u_3_144, u_3_145, u_1_7, u_3_146⟩
def f_X7_siteStart (A : Hp) (x0 : Nat) (x1 : Nat) : Option (Int32) := if (hsh A x0).1 = 6 then ((f_X7_publicStart A x0 x1).bind fun v3 => (if v3 = (0 : Int32) then some (0 : Int32) else ((f_X3_labelStart A x1 (v3 - (1 : Int32))).bind fun v6 => some v6))) else none
set_option maxRecDepth 100000 in
theorem s_X7_siteStart {l : Launch} {g : GT} (hl : l.stackTraces = false) {A : Hp} {x0 : Nat} {x1 : Nat} {r : Int32} (h : f_X7_siteStart A x0 x1 = some r) : MetV l g yX7_siteStart (.code yX7_siteStart cX7_siteStart 3 (some .int)) [.inr (.inr x0), .inr (.inr x1)] A (.inl (some (.inl r))) A 3 67 0 0 := by
  refine MetV.ofV hl (by decide +kernel) (Nat.le_of_ble_eq_true rfl) (fun κ K E => ?_)
  have K : Cx κ cX7_siteStart 3 RX7 3 67 0 0 := K
  have E : Ed κ (some .int) "siteStart" (.inl (some (.inl r))) A 0 0 := E
  unfold f_X7_siteStart at h
  change Vw κ A 0 0 0 [(0, .inr (.inr x0)), (1, .inr (.inr x1))] []
  refine Vw.aload_n (pc := 0) (x := x0) K dX7_siteStart_0 rfl ?_
  refine Vw.aload_n (pc := 1) (x := x1) K dX7_siteStart_1 rfl ?_
  obtain ⟨g1, h⟩ := wgd h
  obtain ⟨v3, e2, h⟩ := wbd h
  refine Vw.cV1 (pc := 2) (v := .inl v3) (c' := 0) (n' := 0) K (s_X7_publicStart K.tr e2) cal_X7_publicStart cls5 u_3_143 g1 rfl ⟨by decide, by decide⟩ ⟨by decide, by decide⟩ rfl (Nat.le_of_ble_eq_true rfl) dX7_siteStart_2 rfl rfl ?_
  refine Vw.istore_n (pc := 5) K dX7_siteStart_5 (by decide) ?_
  refine Vw.iload_n (pc := 6) (x := v3) K dX7_siteStart_6 rfl ?_
  refine Vw.if_ne (pc := 7) (tgt := 14) K dX7_siteStart_7 (by decide) (fun c4 => ?_) (fun c4 => ?_)
  · have h := wneg c4 h
    refine Vw.aload_n (pc := 14) (x := x1) K dX7_siteStart_14 rfl ?_
    refine Vw.iload_n (pc := 15) (x := v3) K dX7_siteStart_15 rfl ?_
    refine Vw.iconst (pc := 16) (v := (1 : Int32)) K (by decide) dX7_siteStart_16 ?_
    refine Vw.isub (pc := 17) K dX7_siteStart_17 ?_
    obtain ⟨v6, e5, h⟩ := wbd h
    refine Vw.cS1 (pc := 18) (v := .inl v6) (c' := 0) (n' := 0) K (s_X3_labelStart K.tr e5) cal_X3_labelStart u_3_147 rfl ⟨by decide, by decide⟩ ⟨by decide, by decide⟩ rfl (Nat.le_of_ble_eq_true rfl) dX7_siteStart_18 rfl rfl ?_
    exact Vw.iretE (pc := 21) K (Option.some.inj h) rfl E (by decide) (by decide) dX7_siteStart_21
  · have h := wpos c4 h
    refine Vw.iconst (pc := 10) (v := (0 : Int32)) K (by decide) dX7_siteStart_10 ?_
    refine Vw.goto (pc := 11) (tgt := 21) K dX7_siteStart_11 (by decide) ?_
    exact Vw.iretE (pc := 21) K (Option.some.inj h) rfl E (by decide) (by decide) dX7_siteStart_21
theorem cal_X7_siteStart : wCalV RX7 yX7_siteStart (.code yX7_siteStart cX7_siteStart 3 (some .int)) 1 := ⟨by decide +kernel, u_3_140, u_3_141, u_1_7, u_3_142⟩
def f_X7_sameSites (A : Hp) (x0 : Nat) (x1 : Nat) (x2 : Nat) : Option (Int32) := if (hsh A x0).1 = 6 then ((f_X7_siteStart A x0 x1).bind fun v3 => ((f_X7_siteStart A x0 x2).bind fun v5 => if (hsh A x1).1 = 5 then ((f_X6_sameTail A x1 v3 x2 v5).bind fun v8 => if wZ v8 then some v8 else none) else none)) else none
set_option maxRecDepth 100000 in
theorem s_X7_sameSites {l : Launch} {g : GT} (hl : l.stackTraces = false) {A : Hp} {x0 : Nat} {x1 : Nat} {x2 : Nat} {r : Int32} (h : f_X7_sameSites A x0 x1 x2 = some r) : MetV l g yX7_sameSites (.code yX7_sameSites cX7_sameSites 3 (some .boolean)) [.inr (.inr x0), .inr (.inr x1), .inr (.inr x2)] A (.inl (some (.inl r))) A 4 89 0 0 := by
  refine MetV.ofV hl (by decide +kernel) (Nat.le_of_ble_eq_true rfl) (fun κ K E => ?_)
  have K : Cx κ cX7_sameSites 3 RX7 4 89 0 0 := K
  have E : Ed κ (some .boolean) "sameSites" (.inl (some (.inl r))) A 0 0 := E
  unfold f_X7_sameSites at h
  change Vw κ A 0 0 0 [(0, .inr (.inr x0)), (1, .inr (.inr x1)), (2, .inr (.inr x2))] []
  refine Vw.aload_n (pc := 0) (x := x1) K dX7_sameSites_0 rfl ?_
  refine Vw.aload_n (pc := 1) (x := x0) K dX7_sameSites_1 rfl ?_
  refine Vw.aload_n (pc := 2) (x := x1) K dX7_sameSites_2 rfl ?_
  obtain ⟨g1, h⟩ := wgd h
  obtain ⟨v3, e2, h⟩ := wbd h
  refine Vw.cV1 (pc := 3) (v := .inl v3) (c' := 0) (n' := 0) K (s_X7_siteStart K.tr e2) cal_X7_siteStart cls5 u_3_139 g1 rfl ⟨by decide, by decide⟩ ⟨by decide, by decide⟩ rfl (Nat.le_of_ble_eq_true rfl) dX7_sameSites_3 rfl rfl ?_
  refine Vw.aload_n (pc := 6) (x := x2) K dX7_sameSites_6 rfl ?_
  refine Vw.aload_n (pc := 7) (x := x0) K dX7_sameSites_7 rfl ?_
  refine Vw.aload_n (pc := 8) (x := x2) K dX7_sameSites_8 rfl ?_
  obtain ⟨v5, e4, h⟩ := wbd h
  refine Vw.cV1 (pc := 9) (v := .inl v5) (c' := 0) (n' := 0) K (s_X7_siteStart K.tr e4) cal_X7_siteStart cls5 u_3_139 g1 rfl ⟨by decide, by decide⟩ ⟨by decide, by decide⟩ rfl (Nat.le_of_ble_eq_true rfl) dX7_sameSites_9 rfl rfl ?_
  obtain ⟨g6, h⟩ := wgd h
  obtain ⟨v8, e7, h⟩ := wbd h
  refine Vw.cV1 (pc := 12) (v := .inl v8) (c' := 0) (n' := 0) K (s_X6_sameTail K.tr e7) cal_X6_sameTail cls4 u_3_155 g6 rfl ⟨by decide, by decide⟩ ⟨by decide, by decide⟩ rfl (Nat.le_of_ble_eq_true rfl) dX7_sameSites_12 rfl rfl ?_
  obtain ⟨g9, h⟩ := wgd h
  exact Vw.zretE (pc := 15) K g9 (Option.some.inj h) rfl E (by decide) (by decide) dX7_sameSites_15
theorem cal_X7_sameSites : wCalV RX7 yX7_sameSites (.code yX7_sameSites cX7_sameSites 3 (some .boolean)) 2 := ⟨by decide +kernel, u_3_136, u_3_137, u_1_7, u_3_138⟩
def k_X7_has_2s (A : Hp) (x0 : Nat) (x1 : Nat)  (rec2 : Int32 → Option (Int32))  (x2 : Int32) : Option (Int32) := if (hsh A x0).1 = 6 then (if (hgI A 321 x0 0) ≤ x2 then some (0 : Int32) else if (hsh A (hgR A 320 x0 0)).1 = 15 then if wix x2 (hsh A (hgR A 320 x0 0)).2 then if (hsh A (hgR A 1039 (hgR A 320 x0 0) x2.toNatClampNeg)).1 = 5 then ((f_X6_same A (hgR A 1039 (hgR A 320 x0 0) x2.toNatClampNeg) x1).bind fun v7 => (if v7 = (0 : Int32) then rec2 (x2 + (1 : Int32)) else some (1 : Int32))) else none else none else none) else none
def k_X7_has_2 (A : Hp) (x0 : Nat) (x1 : Nat)  : Nat → Int32 → Option (Int32)
  | 0 => fun _ => none
  | fu + 1 => k_X7_has_2s A x0 x1  (k_X7_has_2 A x0 x1  fu)
set_option maxRecDepth 100000 in
theorem s_X7_has_2 {κ : KT} {r : Int32} {A : Hp} {x0 : Nat} {x1 : Nat}  (K : Cx κ cX7_has 3 RX7 3 72 0 0) (E : Ed κ (some .boolean) "has" (.inl (some (.inl r))) A 0 0)  : ∀ (fu : Nat)  (x2 : Int32),  k_X7_has_2 A x0 x1  fu x2 = some r → Vw κ A 0 0 2 [(0, .inr (.inr x0)), (1, .inr (.inr x1)), (2, .inl x2)] [] := by
  intro fu
  induction fu with
  | zero => intro x2 h; cases h
  | succ fu hr2 =>
    intro x2 h
    have h : k_X7_has_2s A x0 x1  (k_X7_has_2 A x0 x1  fu) x2 = some r := h
    unfold k_X7_has_2s at h
    refine Vw.iload_n (pc := 2) (x := x2) K dX7_has_2 rfl ?_
    refine Vw.aload_n (pc := 3) (x := x0) K dX7_has_3 rfl ?_
    obtain ⟨g1, h⟩ := wgd h
    refine Vw.getI (pc := 4) (k := 1) (f := 321) K cls5 rfl rfl u_1_208 g1 dX7_has_4 ?_
    refine Vw.icmp_ge (pc := 7) (tgt := 31) K dX7_has_7 (by decide) (fun c2 => ?_) (fun c2 => ?_)
    · have h := wpos c2 h
      refine Vw.iconst (pc := 31) (v := (0 : Int32)) K (by decide) dX7_has_31 ?_
      exact Vw.zretE (pc := 32) K (Or.inl rfl) (Option.some.inj h) rfl E (by decide) (by decide) dX7_has_32
    · have h := wneg c2 h
      refine Vw.aload_n (pc := 10) (x := x0) K dX7_has_10 rfl ?_
      refine Vw.getR (pc := 11) (k := 0) (f := 320) K cls5 rfl rfl u_1_207 g1 dX7_has_11 ?_
      refine Vw.iload_n (pc := 14) (x := x2) K dX7_has_14 rfl ?_
      obtain ⟨g3, h⟩ := wgd h
      obtain ⟨g4, h⟩ := wgd h
      refine Vw.aaloadR (pc := 15) K g3 g4 dX7_has_15 ?_
      refine Vw.aload_n (pc := 16) (x := x1) K dX7_has_16 rfl ?_
      obtain ⟨g5, h⟩ := wgd h
      obtain ⟨v7, e6, h⟩ := wbd h
      refine Vw.cV1 (pc := 17) (v := .inl v7) (c' := 0) (n' := 0) K (s_X6_same K.tr e6) cal_X6_same cls4 u_3_213 g5 rfl ⟨by decide, by decide⟩ ⟨by decide, by decide⟩ rfl (Nat.le_of_ble_eq_true rfl) dX7_has_17 rfl rfl ?_
      refine Vw.if_eq (pc := 20) (tgt := 25) K dX7_has_20 (by decide) (fun c8 => ?_) (fun c8 => ?_)
      · have h := wpos c8 h
        refine Vw.iinc (pc := 25) (x := x2) (v := (1 : Int32)) K dX7_has_25 rfl (by decide) (by decide) ?_
        refine Vw.goto (pc := 28) (tgt := 2) K dX7_has_28 (by decide) ?_
        exact Vw.loc rfl (hr2 _ h)
      · have h := wneg c8 h
        refine Vw.iconst (pc := 23) (v := (1 : Int32)) K (by decide) dX7_has_23 ?_
        exact Vw.zretE (pc := 24) K (Or.inr rfl) (Option.some.inj h) rfl E (by decide) (by decide) dX7_has_24
def f_X7_has (A : Hp) (x0 : Nat) (x1 : Nat) : Option (Int32) := k_X7_has_2 A x0 x1 FU (0 : Int32)
set_option maxRecDepth 100000 in
theorem s_X7_has {l : Launch} {g : GT} (hl : l.stackTraces = false) {A : Hp} {x0 : Nat} {x1 : Nat} {r : Int32} (h : f_X7_has A x0 x1 = some r) : MetV l g yX7_has (.code yX7_has cX7_has 3 (some .boolean)) [.inr (.inr x0), .inr (.inr x1)] A (.inl (some (.inl r))) A 3 72 0 0 := by
  refine MetV.ofV hl (by decide +kernel) (Nat.le_of_ble_eq_true rfl) (fun κ K E => ?_)
  have K : Cx κ cX7_has 3 RX7 3 72 0 0 := K
  have E : Ed κ (some .boolean) "has" (.inl (some (.inl r))) A 0 0 := E
  unfold f_X7_has at h
  change Vw κ A 0 0 0 [(0, .inr (.inr x0)), (1, .inr (.inr x1))] []
  refine Vw.iconst (pc := 0) (v := (0 : Int32)) K (by decide) dX7_has_0 ?_
  refine Vw.istore_n (pc := 1) K dX7_has_1 (by decide) ?_
  exact Vw.loc rfl (s_X7_has_2 K E  _ _ h)
theorem cal_X7_has : wCalV RX7 yX7_has (.code yX7_has cX7_has 3 (some .boolean)) 1 := ⟨by decide +kernel, u_3_210, u_3_211, u_1_7, u_3_212⟩
def f_X7_append (A : Hp) (x0 : Nat) (x1 : Nat) : Option (Hp) := if (hsh A x0).1 = 6 then (if (6 : Int32) ≤ (hgI A 321 x0 0) then some A else if (hsh A (hgR A 320 x0 0)).1 = 15 then if wix (hgI A 321 x0 0) (hsh A (hgR A 320 x0 0)).2 then if (hsh A (hgR A 1039 (hgR A 320 x0 0) (hgI A 321 x0 0).toNatClampNeg)).1 = 5 then ((f_X6_copy A (hgR A 1039 (hgR A 320 x0 0) (hgI A 321 x0 0).toNatClampNeg) x1).bind fun A7 => if (hsh A7 x0).1 = 6 then some (hsI A7 321 x0 0 ((hgI A7 321 x0 0) + (1 : Int32))) else none) else none else none else none) else none
set_option maxRecDepth 100000 in
theorem s_X7_append {l : Launch} {g : GT} (hl : l.stackTraces = false) {A : Hp} {x0 : Nat} {x1 : Nat} {B : Hp} (h : f_X7_append A x0 x1 = some B) : MetV l g yX7_append (.code yX7_append cX7_append 2 none) [.inr (.inr x0), .inr (.inr x1)] A (.inl none) B 3 69 0 0 := by
  refine MetV.ofV hl (by decide +kernel) (Nat.le_of_ble_eq_true rfl) (fun κ K E => ?_)
  have K : Cx κ cX7_append 2 RX7 3 69 0 0 := K
  have E : Ed κ none "append" (.inl none) B 0 0 := E
  unfold f_X7_append at h
  change Vw κ A 0 0 0 [(0, .inr (.inr x0)), (1, .inr (.inr x1))] []
  refine Vw.aload_n (pc := 0) (x := x0) K dX7_append_0 rfl ?_
  obtain ⟨g1, h⟩ := wgd h
  refine Vw.getI (pc := 1) (k := 1) (f := 321) K cls5 rfl rfl u_1_208 g1 dX7_append_1 ?_
  refine Vw.bipush (pc := 4) (v := (6 : Int32)) K (by decide) dX7_append_4 ?_
  refine Vw.icmp_ge (pc := 6) (tgt := 32) K dX7_append_6 (by decide) (fun c2 => ?_) (fun c2 => ?_)
  · have h := wpos c2 h
    exact Vw.vretE (pc := 32) K (Option.some.inj h) E (by decide) (by decide) dX7_append_32
  · have h := wneg c2 h
    refine Vw.aload_n (pc := 9) (x := x0) K dX7_append_9 rfl ?_
    refine Vw.getR (pc := 10) (k := 0) (f := 320) K cls5 rfl rfl u_1_207 g1 dX7_append_10 ?_
    refine Vw.aload_n (pc := 13) (x := x0) K dX7_append_13 rfl ?_
    refine Vw.getI (pc := 14) (k := 1) (f := 321) K cls5 rfl rfl u_1_208 g1 dX7_append_14 ?_
    obtain ⟨g3, h⟩ := wgd h
    obtain ⟨g4, h⟩ := wgd h
    refine Vw.aaloadR (pc := 17) K g3 g4 dX7_append_17 ?_
    refine Vw.aload_n (pc := 18) (x := x1) K dX7_append_18 rfl ?_
    obtain ⟨g5, h⟩ := wgd h
    obtain ⟨A7, e6, h⟩ := wbd h
    refine Vw.cV0 (pc := 19) (c' := 0) (n' := 0) K (s_X6_copy K.tr e6) cal_X6_copy cls4 u_3_223 g5 rfl ⟨by decide, by decide⟩ ⟨by decide, by decide⟩ rfl (Nat.le_of_ble_eq_true rfl) dX7_append_19 rfl rfl ?_
    refine Vw.aload_n (pc := 22) (x := x0) K dX7_append_22 rfl ?_
    refine Vw.dup (pc := 23) K rfl dX7_append_23 ?_
    obtain ⟨g8, h⟩ := wgd h
    refine Vw.getI (pc := 24) (k := 1) (f := 321) K cls5 rfl rfl u_1_208 g8 dX7_append_24 ?_
    refine Vw.iconst (pc := 27) (v := (1 : Int32)) K (by decide) dX7_append_27 ?_
    refine Vw.iadd (pc := 28) K dX7_append_28 ?_
    refine Vw.putI (pc := 29) (k := 1) (f := 321) K cls5 rfl rfl u_1_208 g8 (Or.inl rfl) rfl rfl dX7_append_29 ?_
    exact Vw.vretE (pc := 32) K (Option.some.inj h) E (by decide) (by decide) dX7_append_32
theorem cal_X7_append : wCalV RX7 yX7_append (.code yX7_append cX7_append 2 none) 1 := ⟨by decide +kernel, u_3_220, u_3_221, u_1_7, u_3_222⟩
def f_X7_isPublic (A : Hp) (x0 : Nat) (x1 : Nat) : Option (Int32) := if (hsh A x0).1 = 6 then ((f_X7_publicStart A x0 x1).bind fun v3 => (if v3 = (0 : Int32) then some (1 : Int32) else some (0 : Int32))) else none
set_option maxRecDepth 100000 in
theorem s_X7_isPublic {l : Launch} {g : GT} (hl : l.stackTraces = false) {A : Hp} {x0 : Nat} {x1 : Nat} {r : Int32} (h : f_X7_isPublic A x0 x1 = some r) : MetV l g yX7_isPublic (.code yX7_isPublic cX7_isPublic 2 (some .boolean)) [.inr (.inr x0), .inr (.inr x1)] A (.inl (some (.inl r))) A 3 67 0 0 := by
  refine MetV.ofV hl (by decide +kernel) (Nat.le_of_ble_eq_true rfl) (fun κ K E => ?_)
  have K : Cx κ cX7_isPublic 2 RX7 3 67 0 0 := K
  have E : Ed κ (some .boolean) "isPublic" (.inl (some (.inl r))) A 0 0 := E
  unfold f_X7_isPublic at h
  change Vw κ A 0 0 0 [(0, .inr (.inr x0)), (1, .inr (.inr x1))] []
  refine Vw.aload_n (pc := 0) (x := x0) K dX7_isPublic_0 rfl ?_
  refine Vw.aload_n (pc := 1) (x := x1) K dX7_isPublic_1 rfl ?_
  obtain ⟨g1, h⟩ := wgd h
  obtain ⟨v3, e2, h⟩ := wbd h
  refine Vw.cV1 (pc := 2) (v := .inl v3) (c' := 0) (n' := 0) K (s_X7_publicStart K.tr e2) cal_X7_publicStart cls5 u_3_143 g1 rfl ⟨by decide, by decide⟩ ⟨by decide, by decide⟩ rfl (Nat.le_of_ble_eq_true rfl) dX7_isPublic_2 rfl rfl ?_
  refine Vw.if_ne (pc := 5) (tgt := 12) K dX7_isPublic_5 (by decide) (fun c4 => ?_) (fun c4 => ?_)
  · have h := wneg c4 h
    refine Vw.iconst (pc := 12) (v := (0 : Int32)) K (by decide) dX7_isPublic_12 ?_
    exact Vw.zretE (pc := 13) K (Or.inl rfl) (Option.some.inj h) rfl E (by decide) (by decide) dX7_isPublic_13
  · have h := wpos c4 h
    refine Vw.iconst (pc := 8) (v := (1 : Int32)) K (by decide) dX7_isPublic_8 ?_
    refine Vw.goto (pc := 9) (tgt := 13) K dX7_isPublic_9 (by decide) ?_
    exact Vw.zretE (pc := 13) K (Or.inr rfl) (Option.some.inj h) rfl E (by decide) (by decide) dX7_isPublic_13
theorem cal_X7_isPublic : wCalV RX7 yX7_isPublic (.code yX7_isPublic cX7_isPublic 2 (some .boolean)) 1 := ⟨by decide +kernel, u_4_111, u_4_112, u_1_7, u_4_113⟩
def k_X7_become_10s  (x0 : Nat) (x1 : Nat)  (rec10 : Hp → Int32 → Option (Hp)) (A : Hp) (x2 : Int32) : Option (Hp) := if (hsh A x0).1 = 6 then (if (hgI A 321 x0 0) ≤ x2 then some A else if (hsh A (hgR A 320 x0 0)).1 = 15 then if wix x2 (hsh A (hgR A 320 x0 0)).2 then if (hsh A x1).1 = 6 then if (hsh A (hgR A 320 x1 0)).1 = 15 then if wix x2 (hsh A (hgR A 320 x1 0)).2 then if (hsh A (hgR A 1039 (hgR A 320 x0 0) x2.toNatClampNeg)).1 = 5 then ((f_X6_copy A (hgR A 1039 (hgR A 320 x0 0) x2.toNatClampNeg) (hgR A 1039 (hgR A 320 x1 0) x2.toNatClampNeg)).bind fun A10 => rec10 A10 (x2 + (1 : Int32))) else none else none else none else none else none else none) else none
def k_X7_become_10  (x0 : Nat) (x1 : Nat)  : Nat → Hp → Int32 → Option (Hp)
  | 0 => fun _ _ => none
  | fu + 1 => k_X7_become_10s x0 x1  (k_X7_become_10 x0 x1  fu)
set_option maxRecDepth 100000 in
theorem s_X7_become_10 {κ : KT} {B : Hp}  {x0 : Nat} {x1 : Nat}  (K : Cx κ cX7_become 3 RX7 3 69 0 0) (E : Ed κ none "become" (.inl none) B 0 0)  : ∀ (fu : Nat) (A : Hp) (x2 : Int32),  k_X7_become_10 x0 x1  fu A x2 = some B → Vw κ A 0 0 10 [(0, .inr (.inr x0)), (1, .inr (.inr x1)), (2, .inl x2)] [] := by
  intro fu
  induction fu with
  | zero => intro A x2 h; cases h
  | succ fu hr10 =>
    intro A x2 h
    have h : k_X7_become_10s x0 x1  (k_X7_become_10 x0 x1  fu) A x2 = some B := h
    unfold k_X7_become_10s at h
    refine Vw.iload_n (pc := 10) (x := x2) K dX7_become_10 rfl ?_
    refine Vw.aload_n (pc := 11) (x := x0) K dX7_become_11 rfl ?_
    obtain ⟨g1, h⟩ := wgd h
    refine Vw.getI (pc := 12) (k := 1) (f := 321) K cls5 rfl rfl u_1_208 g1 dX7_become_12 ?_
    refine Vw.icmp_ge (pc := 15) (tgt := 39) K dX7_become_15 (by decide) (fun c2 => ?_) (fun c2 => ?_)
    · have h := wpos c2 h
      exact Vw.vretE (pc := 39) K (Option.some.inj h) E (by decide) (by decide) dX7_become_39
    · have h := wneg c2 h
      refine Vw.aload_n (pc := 18) (x := x0) K dX7_become_18 rfl ?_
      refine Vw.getR (pc := 19) (k := 0) (f := 320) K cls5 rfl rfl u_1_207 g1 dX7_become_19 ?_
      refine Vw.iload_n (pc := 22) (x := x2) K dX7_become_22 rfl ?_
      obtain ⟨g3, h⟩ := wgd h
      obtain ⟨g4, h⟩ := wgd h
      refine Vw.aaloadR (pc := 23) K g3 g4 dX7_become_23 ?_
      refine Vw.aload_n (pc := 24) (x := x1) K dX7_become_24 rfl ?_
      obtain ⟨g5, h⟩ := wgd h
      refine Vw.getR (pc := 25) (k := 0) (f := 320) K cls5 rfl rfl u_1_207 g5 dX7_become_25 ?_
      refine Vw.iload_n (pc := 28) (x := x2) K dX7_become_28 rfl ?_
      obtain ⟨g6, h⟩ := wgd h
      obtain ⟨g7, h⟩ := wgd h
      refine Vw.aaloadR (pc := 29) K g6 g7 dX7_become_29 ?_
      obtain ⟨g8, h⟩ := wgd h
      obtain ⟨A10, e9, h⟩ := wbd h
      refine Vw.cV0 (pc := 30) (c' := 0) (n' := 0) K (s_X6_copy K.tr e9) cal_X6_copy cls4 u_3_223 g8 rfl ⟨by decide, by decide⟩ ⟨by decide, by decide⟩ rfl (Nat.le_of_ble_eq_true rfl) dX7_become_30 rfl rfl ?_
      refine Vw.iinc (pc := 33) (x := x2) (v := (1 : Int32)) K dX7_become_33 rfl (by decide) (by decide) ?_
      refine Vw.goto (pc := 36) (tgt := 10) K dX7_become_36 (by decide) ?_
      exact Vw.loc rfl (hr10 _ _ h)
def f_X7_become (A : Hp) (x0 : Nat) (x1 : Nat) : Option (Hp) := if (hsh A x1).1 = 6 then if (hsh A x0).1 = 6 then k_X7_become_10 x0 x1 FU (hsI A 321 x0 0 (hgI A 321 x1 0)) (0 : Int32) else none else none
set_option maxRecDepth 100000 in
theorem s_X7_become {l : Launch} {g : GT} (hl : l.stackTraces = false) {A : Hp} {x0 : Nat} {x1 : Nat} {B : Hp} (h : f_X7_become A x0 x1 = some B) : MetV l g yX7_become (.code yX7_become cX7_become 3 none) [.inr (.inr x0), .inr (.inr x1)] A (.inl none) B 3 69 0 0 := by
  refine MetV.ofV hl (by decide +kernel) (Nat.le_of_ble_eq_true rfl) (fun κ K E => ?_)
  have K : Cx κ cX7_become 3 RX7 3 69 0 0 := K
  have E : Ed κ none "become" (.inl none) B 0 0 := E
  unfold f_X7_become at h
  change Vw κ A 0 0 0 [(0, .inr (.inr x0)), (1, .inr (.inr x1))] []
  refine Vw.aload_n (pc := 0) (x := x0) K dX7_become_0 rfl ?_
  refine Vw.aload_n (pc := 1) (x := x1) K dX7_become_1 rfl ?_
  obtain ⟨g11, h⟩ := wgd h
  refine Vw.getI (pc := 2) (k := 1) (f := 321) K cls5 rfl rfl u_1_208 g11 dX7_become_2 ?_
  obtain ⟨g12, h⟩ := wgd h
  refine Vw.putI (pc := 5) (k := 1) (f := 321) K cls5 rfl rfl u_1_208 g12 (Or.inl rfl) rfl rfl dX7_become_5 ?_
  refine Vw.iconst (pc := 8) (v := (0 : Int32)) K (by decide) dX7_become_8 ?_
  refine Vw.istore_n (pc := 9) K dX7_become_9 (by decide) ?_
  exact Vw.loc rfl (s_X7_become_10 K E  _ _ _ h)
theorem cal_X7_become : wCalV RX7 yX7_become (.code yX7_become cX7_become 3 none) 1 := ⟨by decide +kernel, u_5_233, u_5_234, u_1_7, u_5_235⟩
