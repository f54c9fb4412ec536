def f_X6_init (A : Hp) (x0 : Nat) (x1 : Int32) : Option (Hp) := if (hsh A x0).1 = 5 then if 0 ≤ (if x1 < (0 : Int32) then (0 : Int32) else x1) ∧ (if x1 < (0 : Int32) then (0 : Int32) else x1).toNatClampNeg ≤ 20000 then if (hsh (hmk A 9 (if x1 < (0 : Int32) then (0 : Int32) else x1).toNatClampNeg) x0).1 = 5 then some (hsI (hsR (hmk A 9 (if x1 < (0 : Int32) then (0 : Int32) else x1).toNatClampNeg) 256 x0 0 (hsz A)) 257 x0 0 (0 : Int32)) else none else none else none
set_option maxRecDepth 100000 in
theorem s_X6_init {l : Launch} {g : GT} {ms : Nat} {x1 : Int32} (hms : (if x1 < (0 : Int32) then (0 : Int32) else x1).toNatClampNeg ≤ ms) (hl : l.stackTraces = false) {A : Hp} {x0 : Nat}  {B : Hp} (h : f_X6_init A x0 x1 = some B) : MetV l g yX6_init (.code yX6_init cX6_init 2 none) [.inr (.inr x0), .inl x1] A (.inl none) B 1 23 1 ms := by
  refine MetV.ofV hl (by decide +kernel) (Nat.le_of_ble_eq_true rfl) (fun κ K E => ?_)
  have K : Cx κ cX6_init 2 RX6 1 23 1 ms := K
  have E : Ed κ none "<init>" (.inl none) B 1 ms := E
  unfold f_X6_init at h
  change Vw κ A 0 0 0 [(0, .inr (.inr x0)), (1, .inl x1)] []
  refine Vw.aload_n (pc := 0) (x := x0) K dX6_init_0 rfl ?_
  obtain ⟨g1, h⟩ := wgd h
  refine Vw.objInitK (pc := 1) K u_1_37 u_1_30 u_1_31 g1 (by decide) (Nat.le_of_ble_eq_true rfl) dX6_init_1 ?_
  refine Vw.aload_n (pc := 4) (x := x0) K dX6_init_4 rfl ?_
  refine Vw.iload_n (pc := 5) (x := x1) K dX6_init_5 rfl ?_
  refine Vw.iconst (pc := 6) (v := (0 : Int32)) K (by decide) dX6_init_6 ?_
  refine Vw.mmax (pc := 7) K u_1_38 u_1_39 u_1_3 u_1_40 (by decide) (Nat.le_of_ble_eq_true rfl) (by omega) (by omega) dX6_init_7 ?_
  obtain ⟨g2, h⟩ := wgd h
  refine Vw.newC_ (pc := 10) (c := 0) (n := 0) (c' := 1) (n' := (if x1 < (0 : Int32) then (0 : Int32) else x1).toNatClampNeg) (N := (if x1 < (0 : Int32) then (0 : Int32) else x1).toNatClampNeg) K u_1_56 g2.1 rfl g2.2 (by decide) (by omega) dX6_init_10 rfl (by omega) ?_
  obtain ⟨g3, h⟩ := wgd h
  refine Vw.putR (pc := 12) (k := 0) (f := 256) K cls4 rfl rfl u_1_41 g3 (Or.inr ⟨rfl, E.2.2.1, rfl⟩) (wAn _ _) (wAf _ _) dX6_init_12 ?_
  refine Vw.aload_n (pc := 15) (x := x0) K dX6_init_15 rfl ?_
  refine Vw.iconst (pc := 16) (v := (0 : Int32)) K (by decide) dX6_init_16 ?_
  refine Vw.putI (pc := 17) (k := 1) (f := 257) K cls4 rfl rfl u_1_42 g3 (Or.inl rfl) rfl rfl dX6_init_17 ?_
  exact Vw.vretE (pc := 20) K (Option.some.inj h) E (by decide) (by omega) dX6_init_20
theorem cal_X6_init : wCalI yX6_init (.code yX6_init cX6_init 2 none) 1 := ⟨by decide +kernel, u_1_35, u_1_2, u_1_36, rfl⟩
def f_X6_add (A : Hp) (x0 : Nat) (x1 : Int32) : Option (Hp) := if (hsh A x0).1 = 5 then (if (hgI A 257 x0 0) < (0 : Int32) then some A else if (hsh A (hgR A 256 x0 0)).1 = 9 then (if (nI (hsh A (hgR A 256 x0 0)).2) ≤ (hgI A 257 x0 0) then some A else if wix (hgI A 257 x0 0) (hsh A (hgR A 256 x0 0)).2 then some (hsI (hsI A 1033 (hgR A 256 x0 0) (hgI A 257 x0 0).toNatClampNeg (vp_nar .char ((x1.toUInt32 % 65536).toInt32))) 257 x0 0 ((hgI (hsI A 1033 (hgR A 256 x0 0) (hgI A 257 x0 0).toNatClampNeg (vp_nar .char ((x1.toUInt32 % 65536).toInt32))) 257 x0 0) + (1 : Int32))) else none) else none) else none
set_option maxRecDepth 100000 in
theorem s_X6_add {l : Launch} {g : GT} (hl : l.stackTraces = false) {A : Hp} {x0 : Nat} {x1 : Int32} {B : Hp} (h : f_X6_add A x0 x1 = some B) : MetV l g yX6_add (.code yX6_add cX6_add 2 none) [.inr (.inr x0), .inl x1] A (.inl none) B 0 0 0 0 := by
  refine MetV.ofV hl (by decide +kernel) (Nat.le_of_ble_eq_true rfl) (fun κ K E => ?_)
  have K : Cx κ cX6_add 2 RX6 0 0 0 0 := K
  have E : Ed κ none "add" (.inl none) B 0 0 := E
  unfold f_X6_add at h
  change Vw κ A 0 0 0 [(0, .inr (.inr x0)), (1, .inl x1)] []
  refine Vw.aload_n (pc := 0) (x := x0) K dX6_add_0 rfl ?_
  obtain ⟨g1, h⟩ := wgd h
  refine Vw.getI (pc := 1) (k := 1) (f := 257) K cls4 rfl rfl u_1_42 g1 dX6_add_1 ?_
  refine Vw.if_lt (pc := 4) (tgt := 40) K dX6_add_4 (by decide) (fun c2 => ?_) (fun c2 => ?_)
  · have h := wpos c2 h
    exact Vw.vretE (pc := 40) K (Option.some.inj h) E (by decide) (by decide) dX6_add_40
  · have h := wneg c2 h
    refine Vw.aload_n (pc := 7) (x := x0) K dX6_add_7 rfl ?_
    refine Vw.getI (pc := 8) (k := 1) (f := 257) K cls4 rfl rfl u_1_42 g1 dX6_add_8 ?_
    refine Vw.aload_n (pc := 11) (x := x0) K dX6_add_11 rfl ?_
    refine Vw.getR (pc := 12) (k := 0) (f := 256) K cls4 rfl rfl u_1_41 g1 dX6_add_12 ?_
    obtain ⟨g3, h⟩ := wgd h
    refine Vw.alenC (pc := 15) K g3 dX6_add_15 ?_
    refine Vw.icmp_ge (pc := 16) (tgt := 40) K dX6_add_16 (by decide) (fun c4 => ?_) (fun c4 => ?_)
    · have h := wpos c4 h
      exact Vw.vretE (pc := 40) K (Option.some.inj h) E (by decide) (by decide) dX6_add_40
    · have h := wneg c4 h
      refine Vw.aload_n (pc := 19) (x := x0) K dX6_add_19 rfl ?_
      refine Vw.getR (pc := 20) (k := 0) (f := 256) K cls4 rfl rfl u_1_41 g1 dX6_add_20 ?_
      refine Vw.aload_n (pc := 23) (x := x0) K dX6_add_23 rfl ?_
      refine Vw.getI (pc := 24) (k := 1) (f := 257) K cls4 rfl rfl u_1_42 g1 dX6_add_24 ?_
      refine Vw.iload_n (pc := 27) (x := x1) K dX6_add_27 rfl ?_
      refine Vw.i2c (pc := 28) K dX6_add_28 ?_
      obtain ⟨g5, h⟩ := wgd h
      refine Vw.castore (pc := 29) K g3 g5 dX6_add_29 ?_
      refine Vw.aload_n (pc := 30) (x := x0) K dX6_add_30 rfl ?_
      refine Vw.dup (pc := 31) K rfl dX6_add_31 ?_
      refine Vw.getI (pc := 32) (k := 1) (f := 257) K cls4 rfl rfl u_1_42 g1 dX6_add_32 ?_
      refine Vw.iconst (pc := 35) (v := (1 : Int32)) K (by decide) dX6_add_35 ?_
      refine Vw.iadd (pc := 36) K dX6_add_36 ?_
      refine Vw.putI (pc := 37) (k := 1) (f := 257) K cls4 rfl rfl u_1_42 g1 (Or.inl rfl) rfl rfl dX6_add_37 ?_
      exact Vw.vretE (pc := 40) K (Option.some.inj h) E (by decide) (by decide) dX6_add_40
theorem cal_X6_add : wCalV RX6 yX6_add (.code yX6_add cX6_add 2 none) 1 := ⟨by decide +kernel, u_2_183, u_2_184, u_1_2, u_2_185⟩
def f_X6_empty (A : Hp) (x0 : Nat) : Option (Hp) := if (hsh A x0).1 = 5 then some (hsI A 257 x0 0 (0 : Int32)) else none
set_option maxRecDepth 100000 in
theorem s_X6_empty {l : Launch} {g : GT} (hl : l.stackTraces = false) {A : Hp} {x0 : Nat} {B : Hp} (h : f_X6_empty A x0 = some B) : MetV l g yX6_empty (.code yX6_empty cX6_empty 1 none) [.inr (.inr x0)] A (.inl none) B 0 0 0 0 := by
  refine MetV.ofV hl (by decide +kernel) (Nat.le_of_ble_eq_true rfl) (fun κ K E => ?_)
  have K : Cx κ cX6_empty 1 RX6 0 0 0 0 := K
  have E : Ed κ none "empty" (.inl none) B 0 0 := E
  unfold f_X6_empty at h
  change Vw κ A 0 0 0 [(0, .inr (.inr x0))] []
  refine Vw.aload_n (pc := 0) (x := x0) K dX6_empty_0 rfl ?_
  refine Vw.iconst (pc := 1) (v := (0 : Int32)) K (by decide) dX6_empty_1 ?_
  obtain ⟨g1, h⟩ := wgd h
  refine Vw.putI (pc := 2) (k := 1) (f := 257) K cls4 rfl rfl u_1_42 g1 (Or.inl rfl) rfl rfl dX6_empty_2 ?_
  exact Vw.vretE (pc := 5) K (Option.some.inj h) E (by decide) (by decide) dX6_empty_5
theorem cal_X6_empty : wCalV RX6 yX6_empty (.code yX6_empty cX6_empty 1 none) 0 := ⟨by decide +kernel, u_2_75, u_2_76, u_1_2, u_2_77⟩
def f_X6_at (A : Hp) (x0 : Nat) (x1 : Int32) : Option (Int32) := (if x1 < (0 : Int32) then some (-1 : Int32) else if (hsh A x0).1 = 5 then (if (hgI A 257 x0 0) ≤ x1 then some (-1 : Int32) else if (hsh A (hgR A 256 x0 0)).1 = 9 then (if (nI (hsh A (hgR A 256 x0 0)).2) ≤ x1 then some (-1 : Int32) else if wix x1 (hsh A (hgR A 256 x0 0)).2 then some (hgI A 1033 (hgR A 256 x0 0) x1.toNatClampNeg) else none) else none) else none)
set_option maxRecDepth 100000 in
theorem s_X6_at {l : Launch} {g : GT} (hl : l.stackTraces = false) {A : Hp} {x0 : Nat} {x1 : Int32} {r : Int32} (h : f_X6_at A x0 x1 = some r) : MetV l g yX6_at (.code yX6_at cX6_at 2 (some .int)) [.inr (.inr x0), .inl x1] A (.inl (some (.inl r))) A 0 0 0 0 := by
  refine MetV.ofV hl (by decide +kernel) (Nat.le_of_ble_eq_true rfl) (fun κ K E => ?_)
  have K : Cx κ cX6_at 2 RX6 0 0 0 0 := K
  have E : Ed κ (some .int) "at" (.inl (some (.inl r))) A 0 0 := E
  unfold f_X6_at at h
  change Vw κ A 0 0 0 [(0, .inr (.inr x0)), (1, .inl x1)] []
  refine Vw.iload_n (pc := 0) (x := x1) K dX6_at_0 rfl ?_
  refine Vw.if_lt (pc := 1) (tgt := 30) K dX6_at_1 (by decide) (fun c1 => ?_) (fun c1 => ?_)
  · have h := wpos c1 h
    refine Vw.iconst (pc := 30) (v := (-1 : Int32)) K (by decide) dX6_at_30 ?_
    exact Vw.iretE (pc := 31) K (Option.some.inj h) rfl E (by decide) (by decide) dX6_at_31
  · have h := wneg c1 h
    refine Vw.iload_n (pc := 4) (x := x1) K dX6_at_4 rfl ?_
    refine Vw.aload_n (pc := 5) (x := x0) K dX6_at_5 rfl ?_
    obtain ⟨g2, h⟩ := wgd h
    refine Vw.getI (pc := 6) (k := 1) (f := 257) K cls4 rfl rfl u_1_42 g2 dX6_at_6 ?_
    refine Vw.icmp_ge (pc := 9) (tgt := 30) K dX6_at_9 (by decide) (fun c3 => ?_) (fun c3 => ?_)
    · have h := wpos c3 h
      refine Vw.iconst (pc := 30) (v := (-1 : Int32)) K (by decide) dX6_at_30 ?_
      exact Vw.iretE (pc := 31) K (Option.some.inj h) rfl E (by decide) (by decide) dX6_at_31
    · have h := wneg c3 h
      refine Vw.iload_n (pc := 12) (x := x1) K dX6_at_12 rfl ?_
      refine Vw.aload_n (pc := 13) (x := x0) K dX6_at_13 rfl ?_
      refine Vw.getR (pc := 14) (k := 0) (f := 256) K cls4 rfl rfl u_1_41 g2 dX6_at_14 ?_
      obtain ⟨g4, h⟩ := wgd h
      refine Vw.alenC (pc := 17) K g4 dX6_at_17 ?_
      refine Vw.icmp_ge (pc := 18) (tgt := 30) K dX6_at_18 (by decide) (fun c5 => ?_) (fun c5 => ?_)
      · have h := wpos c5 h
        refine Vw.iconst (pc := 30) (v := (-1 : Int32)) K (by decide) dX6_at_30 ?_
        exact Vw.iretE (pc := 31) K (Option.some.inj h) rfl E (by decide) (by decide) dX6_at_31
      · have h := wneg c5 h
        refine Vw.aload_n (pc := 21) (x := x0) K dX6_at_21 rfl ?_
        refine Vw.getR (pc := 22) (k := 0) (f := 256) K cls4 rfl rfl u_1_41 g2 dX6_at_22 ?_
        refine Vw.iload_n (pc := 25) (x := x1) K dX6_at_25 rfl ?_
        obtain ⟨g6, h⟩ := wgd h
        refine Vw.caload (pc := 26) K g4 g6 dX6_at_26 ?_
        refine Vw.goto (pc := 27) (tgt := 31) K dX6_at_27 (by decide) ?_
        exact Vw.iretE (pc := 31) K (Option.some.inj h) rfl E (by decide) (by decide) dX6_at_31
theorem cal_X6_at : wCalV RX6 yX6_at (.code yX6_at cX6_at 2 (some .int)) 1 := ⟨by decide +kernel, u_2_91, u_2_92, u_1_2, u_2_93⟩
def k_X6_agreement_2s (A : Hp) (x0 : Nat) (x1 : Nat)  (rec2 : Int32 → Option (Int32))  (x2 : Int32) : Option (Int32) := if wSn x1 then ((f_J0_length_8abf5 A x1).bind fun v3 => (if v3 ≤ x2 then some x2 else if (hsh A x0).1 = 5 then ((f_X6_at A x0 x2).bind fun v7 => ((f_J0_charAt_5068e A x1 x2).bind fun v9 => (if v7 = v9 then rec2 (x2 + (1 : Int32)) else some x2))) else none)) else none
def k_X6_agreement_2 (A : Hp) (x0 : Nat) (x1 : Nat)  : Nat → Int32 → Option (Int32)
  | 0 => fun _ => none
  | fu + 1 => k_X6_agreement_2s A x0 x1  (k_X6_agreement_2 A x0 x1  fu)
set_option maxRecDepth 100000 in
theorem s_X6_agreement_2 {κ : KT} {r : Int32} {A : Hp} {x0 : Nat} {x1 : Nat}  (K : Cx κ cX6_agreement 3 RX6 4 85 0 0) (E : Ed κ (some .int) "agreement" (.inl (some (.inl r))) A 0 0)  : ∀ (fu : Nat)  (x2 : Int32),  k_X6_agreement_2 A x0 x1  fu x2 = some r → Vw κ A 0 0 2 [(0, .inr (.inr x0)), (1, .inr (.inr x1)), (2, .inl x2)] [] := by
  intro fu
  induction fu with
  | zero => intro x2 h; cases h
  | succ fu hr2 =>
    intro x2 h
    have h : k_X6_agreement_2s A x0 x1  (k_X6_agreement_2 A x0 x1  fu) x2 = some r := h
    unfold k_X6_agreement_2s at h
    refine Vw.iload_n (pc := 2) (x := x2) K dX6_agreement_2 rfl ?_
    refine Vw.aload_n (pc := 3) (x := x1) K dX6_agreement_3 rfl ?_
    obtain ⟨g1, h⟩ := wgd h
    obtain ⟨v3, e2, h⟩ := wbd h
    refine Vw.cStr (pc := 4) (v := .inl v3) K (s_J0_length_8abf5 K.tr e2) cal_J0_length_8abf5 u_2_100 g1 rfl ⟨by decide, by decide⟩ ⟨by decide, by decide⟩ rfl (Nat.le_of_ble_eq_true rfl) dX6_agreement_4 ?_
    refine Vw.icmp_ge (pc := 7) (tgt := 29) K dX6_agreement_7 (by decide) (fun c4 => ?_) (fun c4 => ?_)
    · have h := wpos c4 h
      refine Vw.iload_n (pc := 29) (x := x2) K dX6_agreement_29 rfl ?_
      exact Vw.iretE (pc := 30) K (Option.some.inj h) rfl E (by decide) (by decide) dX6_agreement_30
    · have h := wneg c4 h
      refine Vw.aload_n (pc := 10) (x := x0) K dX6_agreement_10 rfl ?_
      refine Vw.iload_n (pc := 11) (x := x2) K dX6_agreement_11 rfl ?_
      obtain ⟨g5, h⟩ := wgd h
      obtain ⟨v7, e6, h⟩ := wbd h
      refine Vw.cV1 (pc := 12) (v := .inl v7) (c' := 0) (n' := 0) K (s_X6_at K.tr e6) cal_X6_at cls4 u_2_110 g5 rfl ⟨by decide, by decide⟩ ⟨by decide, by decide⟩ rfl (Nat.le_of_ble_eq_true rfl) dX6_agreement_12 rfl rfl ?_
      refine Vw.aload_n (pc := 15) (x := x1) K dX6_agreement_15 rfl ?_
      refine Vw.iload_n (pc := 16) (x := x2) K dX6_agreement_16 rfl ?_
      obtain ⟨v9, e8, h⟩ := wbd h
      refine Vw.cStr (pc := 17) (v := .inl v9) K (s_J0_charAt_5068e K.tr e8) cal_J0_charAt_5068e u_2_111 g1 rfl ⟨by decide, by decide⟩ ⟨by decide, by decide⟩ rfl (Nat.le_of_ble_eq_true rfl) dX6_agreement_17 ?_
      refine Vw.icmp_ne (pc := 20) (tgt := 29) K dX6_agreement_20 (by decide) (fun c10 => ?_) (fun c10 => ?_)
      · have h := wneg c10 h
        refine Vw.iload_n (pc := 29) (x := x2) K dX6_agreement_29 rfl ?_
        exact Vw.iretE (pc := 30) K (Option.some.inj h) rfl E (by decide) (by decide) dX6_agreement_30
      · have h := wpos c10 h
        refine Vw.iinc (pc := 23) (x := x2) (v := (1 : Int32)) K dX6_agreement_23 rfl (by decide) (by decide) ?_
        refine Vw.goto (pc := 26) (tgt := 2) K dX6_agreement_26 (by decide) ?_
        exact Vw.loc rfl (hr2 _ h)
def f_X6_agreement (A : Hp) (x0 : Nat) (x1 : Nat) : Option (Int32) := k_X6_agreement_2 A x0 x1 FU (0 : Int32)
set_option maxRecDepth 100000 in
theorem s_X6_agreement {l : Launch} {g : GT} (hl : l.stackTraces = false) {A : Hp} {x0 : Nat} {x1 : Nat} {r : Int32} (h : f_X6_agreement A x0 x1 = some r) : MetV l g yX6_agreement (.code yX6_agreement cX6_agreement 3 (some .int)) [.inr (.inr x0), .inr (.inr x1)] A (.inl (some (.inl r))) A 4 85 0 0 := by
  refine MetV.ofV hl (by decide +kernel) (Nat.le_of_ble_eq_true rfl) (fun κ K E => ?_)
  have K : Cx κ cX6_agreement 3 RX6 4 85 0 0 := K
  have E : Ed κ (some .int) "agreement" (.inl (some (.inl r))) A 0 0 := E
  unfold f_X6_agreement at h
  change Vw κ A 0 0 0 [(0, .inr (.inr x0)), (1, .inr (.inr x1))] []
  refine Vw.iconst (pc := 0) (v := (0 : Int32)) K (by decide) dX6_agreement_0 ?_
  refine Vw.istore_n (pc := 1) K dX6_agreement_1 (by decide) ?_
  exact Vw.loc rfl (s_X6_agreement_2 K E  _ _ h)
theorem cal_X6_agreement : wCalV RX6 yX6_agreement (.code yX6_agreement cX6_agreement 3 (some .int)) 1 := ⟨by decide +kernel, u_2_97, u_2_98, u_1_2, u_2_99⟩
def k_X6_find_3s (A : Hp) (x0 : Nat) (x1 : Int32) (x3 : Int32)  (rec3 : Int32 → Option (Int32))  (x4 : Int32) : Option (Int32) := (if x3 ≤ x4 then some x3 else if (hsh A x0).1 = 5 then ((f_X6_at A x0 x4).bind fun v4 => (if v4 = x1 then some x4 else rec3 (x4 + (1 : Int32)))) else none)
def k_X6_find_3 (A : Hp) (x0 : Nat) (x1 : Int32) (x3 : Int32)  : Nat → Int32 → Option (Int32)
  | 0 => fun _ => none
  | fu + 1 => k_X6_find_3s A x0 x1 x3  (k_X6_find_3 A x0 x1 x3  fu)
set_option maxRecDepth 100000 in
theorem s_X6_find_3 {κ : KT} {r : Int32} {A : Hp} {x0 : Nat} {x1 : Int32} {x3 : Int32}  (K : Cx κ cX6_find 5 RX6 1 21 0 0) (E : Ed κ (some .int) "find" (.inl (some (.inl r))) A 0 0)  : ∀ (fu : Nat)  (x4 : Int32),  k_X6_find_3 A x0 x1 x3  fu x4 = some r → Vw κ A 0 0 3 [(0, .inr (.inr x0)), (1, .inl x1), (3, .inl x3), (4, .inl x4)] [] := by
  intro fu
  induction fu with
  | zero => intro x4 h; cases h
  | succ fu hr3 =>
    intro x4 h
    have h : k_X6_find_3s A x0 x1 x3  (k_X6_find_3 A x0 x1 x3  fu) x4 = some r := h
    unfold k_X6_find_3s at h
    refine Vw.iload (pc := 3) (x := x4) K dX6_find_3 rfl ?_
    refine Vw.iload_n (pc := 5) (x := x3) K dX6_find_5 rfl ?_
    refine Vw.icmp_ge (pc := 6) (tgt := 28) K dX6_find_6 (by decide) (fun c1 => ?_) (fun c1 => ?_)
    · have h := wpos c1 h
      refine Vw.iload_n (pc := 28) (x := x3) K dX6_find_28 rfl ?_
      exact Vw.iretE (pc := 29) K (Option.some.inj h) rfl E (by decide) (by decide) dX6_find_29
    · have h := wneg c1 h
      refine Vw.aload_n (pc := 9) (x := x0) K dX6_find_9 rfl ?_
      refine Vw.iload (pc := 10) (x := x4) K dX6_find_10 rfl ?_
      obtain ⟨g2, h⟩ := wgd h
      obtain ⟨v4, e3, h⟩ := wbd h
      refine Vw.cV1 (pc := 12) (v := .inl v4) (c' := 0) (n' := 0) K (s_X6_at K.tr e3) cal_X6_at cls4 u_2_110 g2 rfl ⟨by decide, by decide⟩ ⟨by decide, by decide⟩ rfl (Nat.le_of_ble_eq_true rfl) dX6_find_12 rfl rfl ?_
      refine Vw.iload_n (pc := 15) (x := x1) K dX6_find_15 rfl ?_
      refine Vw.icmp_ne (pc := 16) (tgt := 22) K dX6_find_16 (by decide) (fun c5 => ?_) (fun c5 => ?_)
      · have h := wneg c5 h
        refine Vw.iinc (pc := 22) (x := x4) (v := (1 : Int32)) K dX6_find_22 rfl (by decide) (by decide) ?_
        refine Vw.goto (pc := 25) (tgt := 3) K dX6_find_25 (by decide) ?_
        exact Vw.loc rfl (hr3 _ h)
      · have h := wpos c5 h
        refine Vw.iload (pc := 19) (x := x4) K dX6_find_19 rfl ?_
        exact Vw.iretE (pc := 21) K (Option.some.inj h) rfl E (by decide) (by decide) dX6_find_21
def f_X6_find (A : Hp) (x0 : Nat) (x1 : Int32) (x2 : Int32) (x3 : Int32) : Option (Int32) := k_X6_find_3 A x0 x1 x3 FU x2
set_option maxRecDepth 100000 in
theorem s_X6_find {l : Launch} {g : GT} (hl : l.stackTraces = false) {A : Hp} {x0 : Nat} {x1 : Int32} {x2 : Int32} {x3 : Int32} {r : Int32} (h : f_X6_find A x0 x1 x2 x3 = some r) : MetV l g yX6_find (.code yX6_find cX6_find 5 (some .int)) [.inr (.inr x0), .inl x1, .inl x2, .inl x3] A (.inl (some (.inl r))) A 1 21 0 0 := by
  refine MetV.ofV hl (by decide +kernel) (Nat.le_of_ble_eq_true rfl) (fun κ K E => ?_)
  have K : Cx κ cX6_find 5 RX6 1 21 0 0 := K
  have E : Ed κ (some .int) "find" (.inl (some (.inl r))) A 0 0 := E
  unfold f_X6_find at h
  change Vw κ A 0 0 0 [(0, .inr (.inr x0)), (1, .inl x1), (2, .inl x2), (3, .inl x3)] []
  refine Vw.iload_n (pc := 0) (x := x2) K dX6_find_0 rfl ?_
  refine Vw.istore (pc := 1) K dX6_find_1 (by decide) ?_
  exact Vw.loc rfl (s_X6_find_3 K E  _ _ h)
theorem cal_X6_find : wCalV RX6 yX6_find (.code yX6_find cX6_find 5 (some .int)) 3 := ⟨by decide +kernel, u_2_170, u_2_171, u_1_2, u_2_172⟩
def k_X6_take_22s  (x0 : Nat) (x1 : Nat) (x4 : Int32)  (rec22 : Hp → Int32 → Option (Hp)) (A : Hp) (x5 : Int32) : Option (Hp) := (if x4 ≤ x5 then some A else if (hsh A x1).1 = 5 then ((f_X6_at A x1 x5).bind fun v4 => if (hsh A x0).1 = 5 then ((f_X6_add A x0 v4).bind fun A7 => rec22 A7 (x5 + (1 : Int32))) else none) else none)
def k_X6_take_22  (x0 : Nat) (x1 : Nat) (x4 : Int32)  : Nat → Hp → Int32 → Option (Hp)
  | 0 => fun _ _ => none
  | fu + 1 => k_X6_take_22s x0 x1 x4  (k_X6_take_22 x0 x1 x4  fu)
set_option maxRecDepth 100000 in
theorem s_X6_take_22 {κ : KT} {B : Hp}  {x0 : Nat} {x1 : Nat} {x4 : Int32}  (K : Cx κ cX6_take 6 RX6 1 23 0 0) (E : Ed κ none "take" (.inl none) B 0 0)  : ∀ (fu : Nat) (A : Hp) (x5 : Int32),  k_X6_take_22 x0 x1 x4  fu A x5 = some B → Vw κ A 0 0 22 [(0, .inr (.inr x0)), (1, .inr (.inr x1)), (4, .inl x4), (5, .inl x5)] [] := by
  intro fu
  induction fu with
  | zero => intro A x5 h; cases h
  | succ fu hr22 =>
    intro A x5 h
    have h : k_X6_take_22s x0 x1 x4  (k_X6_take_22 x0 x1 x4  fu) A x5 = some B := h
    unfold k_X6_take_22s at h
    refine Vw.iload (pc := 22) (x := x5) K dX6_take_22 rfl ?_
    refine Vw.iload (pc := 24) (x := x4) K dX6_take_24 rfl ?_
    refine Vw.icmp_ge (pc := 26) (tgt := 45) K dX6_take_26 (by decide) (fun c1 => ?_) (fun c1 => ?_)
    · have h := wpos c1 h
      exact Vw.vretE (pc := 45) K (Option.some.inj h) E (by decide) (by decide) dX6_take_45
    · have h := wneg c1 h
      refine Vw.aload_n (pc := 29) (x := x0) K dX6_take_29 rfl ?_
      refine Vw.aload_n (pc := 30) (x := x1) K dX6_take_30 rfl ?_
      refine Vw.iload (pc := 31) (x := x5) K dX6_take_31 rfl ?_
      obtain ⟨g2, h⟩ := wgd h
      obtain ⟨v4, e3, h⟩ := wbd h
      refine Vw.cV1 (pc := 33) (v := .inl v4) (c' := 0) (n' := 0) K (s_X6_at K.tr e3) cal_X6_at cls4 u_2_110 g2 rfl ⟨by decide, by decide⟩ ⟨by decide, by decide⟩ rfl (Nat.le_of_ble_eq_true rfl) dX6_take_33 rfl rfl ?_
      obtain ⟨g5, h⟩ := wgd h
      obtain ⟨A7, e6, h⟩ := wbd h
      refine Vw.cV0 (pc := 36) (c' := 0) (n' := 0) K (s_X6_add K.tr e6) cal_X6_add cls4 u_2_182 g5 rfl ⟨by decide, by decide⟩ ⟨by decide, by decide⟩ rfl (Nat.le_of_ble_eq_true rfl) dX6_take_36 rfl rfl ?_
      refine Vw.iinc (pc := 39) (x := x5) (v := (1 : Int32)) K dX6_take_39 rfl (by decide) (by decide) ?_
      refine Vw.goto (pc := 42) (tgt := 22) K dX6_take_42 (by decide) ?_
      exact Vw.loc rfl (hr22 _ _ h)
def f_X6_take (A : Hp) (x0 : Nat) (x1 : Nat) (x2 : Int32) (x3 : Int32) : Option (Hp) := if (hsh A x0).1 = 5 then if (hsh (hsI A 257 x0 0 (0 : Int32)) x1).1 = 5 then k_X6_take_22 x0 x1 (if (hgI (hsI A 257 x0 0 (0 : Int32)) 257 x1 0) < x3 then (hgI (hsI A 257 x0 0 (0 : Int32)) 257 x1 0) else x3) FU (hsI A 257 x0 0 (0 : Int32)) (if x2 < (0 : Int32) then (0 : Int32) else x2) else none else none
set_option maxRecDepth 100000 in
theorem s_X6_take {l : Launch} {g : GT} (hl : l.stackTraces = false) {A : Hp} {x0 : Nat} {x1 : Nat} {x2 : Int32} {x3 : Int32} {B : Hp} (h : f_X6_take A x0 x1 x2 x3 = some B) : MetV l g yX6_take (.code yX6_take cX6_take 6 none) [.inr (.inr x0), .inr (.inr x1), .inl x2, .inl x3] A (.inl none) B 1 23 0 0 := by
  refine MetV.ofV hl (by decide +kernel) (Nat.le_of_ble_eq_true rfl) (fun κ K E => ?_)
  have K : Cx κ cX6_take 6 RX6 1 23 0 0 := K
  have E : Ed κ none "take" (.inl none) B 0 0 := E
  unfold f_X6_take at h
  change Vw κ A 0 0 0 [(0, .inr (.inr x0)), (1, .inr (.inr x1)), (2, .inl x2), (3, .inl x3)] []
  refine Vw.aload_n (pc := 0) (x := x0) K dX6_take_0 rfl ?_
  refine Vw.iconst (pc := 1) (v := (0 : Int32)) K (by decide) dX6_take_1 ?_
  obtain ⟨g8, h⟩ := wgd h
  refine Vw.putI (pc := 2) (k := 1) (f := 257) K cls4 rfl rfl u_1_42 g8 (Or.inl rfl) rfl rfl dX6_take_2 ?_
  refine Vw.iload_n (pc := 5) (x := x3) K dX6_take_5 rfl ?_
  refine Vw.aload_n (pc := 6) (x := x1) K dX6_take_6 rfl ?_
  obtain ⟨g9, h⟩ := wgd h
  refine Vw.getI (pc := 7) (k := 1) (f := 257) K cls4 rfl rfl u_1_42 g9 dX6_take_7 ?_
  refine Vw.mmin (pc := 10) K u_2_181 u_2_167 u_1_3 u_2_168 (by decide) (Nat.le_of_ble_eq_true rfl) (by decide) (by decide) dX6_take_10 ?_
  refine Vw.istore (pc := 13) K dX6_take_13 (by decide) ?_
  refine Vw.iload_n (pc := 15) (x := x2) K dX6_take_15 rfl ?_
  refine Vw.iconst (pc := 16) (v := (0 : Int32)) K (by decide) dX6_take_16 ?_
  refine Vw.mmax (pc := 17) K u_1_38 u_1_39 u_1_3 u_1_40 (by decide) (Nat.le_of_ble_eq_true rfl) (by decide) (by decide) dX6_take_17 ?_
  refine Vw.istore (pc := 20) K dX6_take_20 (by decide) ?_
  exact Vw.loc rfl (s_X6_take_22 K E  _ _ _ h)
theorem cal_X6_take : wCalV RX6 yX6_take (.code yX6_take cX6_take 6 none) 3 := ⟨by decide +kernel, u_2_178, u_2_179, u_1_2, u_2_180⟩
def k_X6_domainMatches_34s (A : Hp) (x0 : Nat) (x1 : Nat) (x2 : Int32)  (rec34 : Int32 → Option (Int32))  (x3 : Int32) : Option (Int32) := if (hsh A x0).1 = 5 then (if (hgI A 257 x0 0) ≤ x3 then some (1 : Int32) else ((f_X6_at A x0 x3).bind fun v4 => if (hsh A x1).1 = 5 then ((f_X6_at A x1 (x3 - x2)).bind fun v7 => (if v4 = v7 then rec34 (x3 + (1 : Int32)) else some (0 : Int32))) else none)) else none
def k_X6_domainMatches_34 (A : Hp) (x0 : Nat) (x1 : Nat) (x2 : Int32)  : Nat → Int32 → Option (Int32)
  | 0 => fun _ => none
  | fu + 1 => k_X6_domainMatches_34s A x0 x1 x2  (k_X6_domainMatches_34 A x0 x1 x2  fu)
set_option maxRecDepth 100000 in
theorem s_X6_domainMatches_34 {κ : KT} {r : Int32} {A : Hp} {x0 : Nat} {x1 : Nat} {x2 : Int32}  (K : Cx κ cX6_domainMatches 4 RX6 1 21 0 0) (E : Ed κ (some .boolean) "domainMatches" (.inl (some (.inl r))) A 0 0)  : ∀ (fu : Nat)  (x3 : Int32),  k_X6_domainMatches_34 A x0 x1 x2  fu x3 = some r → Vw κ A 0 0 34 [(0, .inr (.inr x0)), (1, .inr (.inr x1)), (2, .inl x2), (3, .inl x3)] [] := by
  intro fu
  induction fu with
  | zero => intro x3 h; cases h
  | succ fu hr34 =>
    intro x3 h
    have h : k_X6_domainMatches_34s A x0 x1 x2  (k_X6_domainMatches_34 A x0 x1 x2  fu) x3 = some r := h
    unfold k_X6_domainMatches_34s at h
    refine Vw.iload_n (pc := 34) (x := x3) K dX6_domainMatches_34 rfl ?_
    refine Vw.aload_n (pc := 35) (x := x0) K dX6_domainMatches_35 rfl ?_
    obtain ⟨g1, h⟩ := wgd h
    refine Vw.getI (pc := 36) (k := 1) (f := 257) K cls4 rfl rfl u_1_42 g1 dX6_domainMatches_36 ?_
    refine Vw.icmp_ge (pc := 39) (tgt := 65) K dX6_domainMatches_39 (by decide) (fun c2 => ?_) (fun c2 => ?_)
    · have h := wpos c2 h
      refine Vw.iconst (pc := 65) (v := (1 : Int32)) K (by decide) dX6_domainMatches_65 ?_
      exact Vw.zretE (pc := 66) K (Or.inr rfl) (Option.some.inj h) rfl E (by decide) (by decide) dX6_domainMatches_66
    · have h := wneg c2 h
      refine Vw.aload_n (pc := 42) (x := x0) K dX6_domainMatches_42 rfl ?_
      refine Vw.iload_n (pc := 43) (x := x3) K dX6_domainMatches_43 rfl ?_
      obtain ⟨v4, e3, h⟩ := wbd h
      refine Vw.cV1 (pc := 44) (v := .inl v4) (c' := 0) (n' := 0) K (s_X6_at K.tr e3) cal_X6_at cls4 u_2_110 g1 rfl ⟨by decide, by decide⟩ ⟨by decide, by decide⟩ rfl (Nat.le_of_ble_eq_true rfl) dX6_domainMatches_44 rfl rfl ?_
      refine Vw.aload_n (pc := 47) (x := x1) K dX6_domainMatches_47 rfl ?_
      refine Vw.iload_n (pc := 48) (x := x3) K dX6_domainMatches_48 rfl ?_
      refine Vw.iload_n (pc := 49) (x := x2) K dX6_domainMatches_49 rfl ?_
      refine Vw.isub (pc := 50) K dX6_domainMatches_50 ?_
      obtain ⟨g5, h⟩ := wgd h
      obtain ⟨v7, e6, h⟩ := wbd h
      refine Vw.cV1 (pc := 51) (v := .inl v7) (c' := 0) (n' := 0) K (s_X6_at K.tr e6) cal_X6_at cls4 u_2_110 g5 rfl ⟨by decide, by decide⟩ ⟨by decide, by decide⟩ rfl (Nat.le_of_ble_eq_true rfl) dX6_domainMatches_51 rfl rfl ?_
      refine Vw.icmp_eq (pc := 54) (tgt := 59) K dX6_domainMatches_54 (by decide) (fun c8 => ?_) (fun c8 => ?_)
      · have h := wpos c8 h
        refine Vw.iinc (pc := 59) (x := x3) (v := (1 : Int32)) K dX6_domainMatches_59 rfl (by decide) (by decide) ?_
        refine Vw.goto (pc := 62) (tgt := 34) K dX6_domainMatches_62 (by decide) ?_
        exact Vw.loc rfl (hr34 _ h)
      · have h := wneg c8 h
        refine Vw.iconst (pc := 57) (v := (0 : Int32)) K (by decide) dX6_domainMatches_57 ?_
        exact Vw.zretE (pc := 58) K (Or.inl rfl) (Option.some.inj h) rfl E (by decide) (by decide) dX6_domainMatches_58
def k_X6_domainMatches_32  (A : Hp) (x0 : Nat) (x1 : Nat) (x2 : Int32)  : Option (Int32) := k_X6_domainMatches_34 A x0 x1 x2 FU x2
set_option maxRecDepth 100000 in
theorem s_X6_domainMatches_32 {κ : KT} {r : Int32} {A : Hp} {x0 : Nat} {x1 : Nat} {x2 : Int32}   (K : Cx κ cX6_domainMatches 4 RX6 1 21 0 0) (E : Ed κ (some .boolean) "domainMatches" (.inl (some (.inl r))) A 0 0)  (h : k_X6_domainMatches_32  A x0 x1 x2  = some r) : Vw κ A 0 0 32 [(0, .inr (.inr x0)), (1, .inr (.inr x1)), (2, .inl x2)] [] := by
  unfold k_X6_domainMatches_32 at h
  refine Vw.iload_n (pc := 32) (x := x2) K dX6_domainMatches_32 rfl ?_
  refine Vw.istore_n (pc := 33) K dX6_domainMatches_33 (by decide) ?_
  exact Vw.loc rfl (s_X6_domainMatches_34 K E  _ _ h)
def f_X6_domainMatches (A : Hp) (x0 : Nat) (x1 : Nat) : Option (Int32) := if (hsh A x0).1 = 5 then if (hsh A x1).1 = 5 then (if ((hgI A 257 x0 0) - (hgI A 257 x1 0)) < (0 : Int32) then some (0 : Int32) else (if ((hgI A 257 x0 0) - (hgI A 257 x1 0)) ≤ (0 : Int32) then k_X6_domainMatches_32 A x0 x1 ((hgI A 257 x0 0) - (hgI A 257 x1 0)) else ((f_X6_at A x0 (((hgI A 257 x0 0) - (hgI A 257 x1 0)) - (1 : Int32))).bind fun v14 => (if v14 = (46 : Int32) then k_X6_domainMatches_32 A x0 x1 ((hgI A 257 x0 0) - (hgI A 257 x1 0)) else some (0 : Int32))))) else none else none
set_option maxRecDepth 100000 in
theorem s_X6_domainMatches {l : Launch} {g : GT} (hl : l.stackTraces = false) {A : Hp} {x0 : Nat} {x1 : Nat} {r : Int32} (h : f_X6_domainMatches A x0 x1 = some r) : MetV l g yX6_domainMatches (.code yX6_domainMatches cX6_domainMatches 4 (some .boolean)) [.inr (.inr x0), .inr (.inr x1)] A (.inl (some (.inl r))) A 1 21 0 0 := by
  refine MetV.ofV hl (by decide +kernel) (Nat.le_of_ble_eq_true rfl) (fun κ K E => ?_)
  have K : Cx κ cX6_domainMatches 4 RX6 1 21 0 0 := K
  have E : Ed κ (some .boolean) "domainMatches" (.inl (some (.inl r))) A 0 0 := E
  unfold f_X6_domainMatches at h
  change Vw κ A 0 0 0 [(0, .inr (.inr x0)), (1, .inr (.inr x1))] []
  refine Vw.aload_n (pc := 0) (x := x0) K dX6_domainMatches_0 rfl ?_
  obtain ⟨g9, h⟩ := wgd h
  refine Vw.getI (pc := 1) (k := 1) (f := 257) K cls4 rfl rfl u_1_42 g9 dX6_domainMatches_1 ?_
  refine Vw.aload_n (pc := 4) (x := x1) K dX6_domainMatches_4 rfl ?_
  obtain ⟨g10, h⟩ := wgd h
  refine Vw.getI (pc := 5) (k := 1) (f := 257) K cls4 rfl rfl u_1_42 g10 dX6_domainMatches_5 ?_
  refine Vw.isub (pc := 8) K dX6_domainMatches_8 ?_
  refine Vw.istore_n (pc := 9) K dX6_domainMatches_9 (by decide) ?_
  refine Vw.iload_n (pc := 10) (x := ((hgI A 257 x0 0) - (hgI A 257 x1 0))) K dX6_domainMatches_10 rfl ?_
  refine Vw.if_lt (pc := 11) (tgt := 30) K dX6_domainMatches_11 (by decide) (fun c11 => ?_) (fun c11 => ?_)
  · have h := wpos c11 h
    refine Vw.iconst (pc := 30) (v := (0 : Int32)) K (by decide) dX6_domainMatches_30 ?_
    exact Vw.zretE (pc := 31) K (Or.inl rfl) (Option.some.inj h) rfl E (by decide) (by decide) dX6_domainMatches_31
  · have h := wneg c11 h
    refine Vw.iload_n (pc := 14) (x := ((hgI A 257 x0 0) - (hgI A 257 x1 0))) K dX6_domainMatches_14 rfl ?_
    refine Vw.if_le (pc := 15) (tgt := 32) K dX6_domainMatches_15 (by decide) (fun c12 => ?_) (fun c12 => ?_)
    · have h := wpos c12 h
      exact Vw.loc rfl (s_X6_domainMatches_32 K E  h)
    · have h := wneg c12 h
      refine Vw.aload_n (pc := 18) (x := x0) K dX6_domainMatches_18 rfl ?_
      refine Vw.iload_n (pc := 19) (x := ((hgI A 257 x0 0) - (hgI A 257 x1 0))) K dX6_domainMatches_19 rfl ?_
      refine Vw.iconst (pc := 20) (v := (1 : Int32)) K (by decide) dX6_domainMatches_20 ?_
      refine Vw.isub (pc := 21) K dX6_domainMatches_21 ?_
      obtain ⟨v14, e13, h⟩ := wbd h
      refine Vw.cV1 (pc := 22) (v := .inl v14) (c' := 0) (n' := 0) K (s_X6_at K.tr e13) cal_X6_at cls4 u_2_110 g9 rfl ⟨by decide, by decide⟩ ⟨by decide, by decide⟩ rfl (Nat.le_of_ble_eq_true rfl) dX6_domainMatches_22 rfl rfl ?_
      refine Vw.bipush (pc := 25) (v := (46 : Int32)) K (by decide) dX6_domainMatches_25 ?_
      refine Vw.icmp_eq (pc := 27) (tgt := 32) K dX6_domainMatches_27 (by decide) (fun c15 => ?_) (fun c15 => ?_)
      · have h := wpos c15 h
        exact Vw.loc rfl (s_X6_domainMatches_32 K E  h)
      · have h := wneg c15 h
        refine Vw.iconst (pc := 30) (v := (0 : Int32)) K (by decide) dX6_domainMatches_30 ?_
        exact Vw.zretE (pc := 31) K (Or.inl rfl) (Option.some.inj h) rfl E (by decide) (by decide) dX6_domainMatches_31
theorem cal_X6_domainMatches : wCalV RX6 yX6_domainMatches (.code yX6_domainMatches cX6_domainMatches 4 (some .boolean)) 1 := ⟨by decide +kernel, u_3_151, u_3_152, u_1_2, u_3_153⟩
def k_X6_compareParts_16s (A : Hp) (x0 : Nat) (x1 : Int32) (x2 : Int32) (x3 : Nat) (x4 : Int32) (x5 : Int32) (x6 : Int32)  (rec16 : Int32 → Option (Int32))  (x7 : Int32) : Option (Int32) := (if x6 ≤ x7 then ((f_J6_compare_7cf53 A (x2 - x1) (x5 - x4)).bind fun v3 => some v3) else if (hsh A x0).1 = 5 then ((f_X6_at A x0 (x1 + x7)).bind fun v6 => if (hsh A x3).1 = 5 then ((f_X6_at A x3 (x4 + x7)).bind fun v9 => ((f_J6_compare_7cf53 A v6 v9).bind fun v11 => (if v11 = (0 : Int32) then rec16 (x7 + (1 : Int32)) else some v11))) else none) else none)
def k_X6_compareParts_16 (A : Hp) (x0 : Nat) (x1 : Int32) (x2 : Int32) (x3 : Nat) (x4 : Int32) (x5 : Int32) (x6 : Int32)  : Nat → Int32 → Option (Int32)
  | 0 => fun _ => none
  | fu + 1 => k_X6_compareParts_16s A x0 x1 x2 x3 x4 x5 x6  (k_X6_compareParts_16 A x0 x1 x2 x3 x4 x5 x6  fu)
set_option maxRecDepth 100000 in
theorem s_X6_compareParts_16 {κ : KT} {r : Int32} {A : Hp} {x0 : Nat} {x1 : Int32} {x2 : Int32} {x3 : Nat} {x4 : Int32} {x5 : Int32} {x6 : Int32}  (K : Cx κ cX6_compareParts 9 RX6 1 23 0 0) (E : Ed κ (some .int) "compareParts" (.inl (some (.inl r))) A 0 0)  : ∀ (fu : Nat)  (x7 : Int32),  k_X6_compareParts_16 A x0 x1 x2 x3 x4 x5 x6  fu x7 = some r → Vw κ A 0 0 16 [(0, .inr (.inr x0)), (1, .inl x1), (2, .inl x2), (3, .inr (.inr x3)), (4, .inl x4), (5, .inl x5), (6, .inl x6), (7, .inl x7)] [] := by
  intro fu
  induction fu with
  | zero => intro x7 h; cases h
  | succ fu hr16 =>
    intro x7 h
    have h : k_X6_compareParts_16s A x0 x1 x2 x3 x4 x5 x6  (k_X6_compareParts_16 A x0 x1 x2 x3 x4 x5 x6  fu) x7 = some r := h
    unfold k_X6_compareParts_16s at h
    refine Vw.iload (pc := 16) (x := x7) K dX6_compareParts_16 rfl ?_
    refine Vw.iload (pc := 18) (x := x6) K dX6_compareParts_18 rfl ?_
    refine Vw.icmp_ge (pc := 20) (tgt := 59) K dX6_compareParts_20 (by decide) (fun c1 => ?_) (fun c1 => ?_)
    · have h := wpos c1 h
      refine Vw.iload_n (pc := 59) (x := x2) K dX6_compareParts_59 rfl ?_
      refine Vw.iload_n (pc := 60) (x := x1) K dX6_compareParts_60 rfl ?_
      refine Vw.isub (pc := 61) K dX6_compareParts_61 ?_
      refine Vw.iload (pc := 62) (x := x5) K dX6_compareParts_62 rfl ?_
      refine Vw.iload (pc := 64) (x := x4) K dX6_compareParts_64 rfl ?_
      refine Vw.isub (pc := 66) K dX6_compareParts_66 ?_
      obtain ⟨v3, e2, h⟩ := wbd h
      refine Vw.cS1 (pc := 67) (v := .inl v3) (c' := 0) (n' := 0) K (s_J6_compare_7cf53 K.tr e2) cal_J6_compare_7cf53 u_3_163 rfl ⟨by decide, by decide⟩ ⟨by decide, by decide⟩ rfl (Nat.le_of_ble_eq_true rfl) dX6_compareParts_67 rfl rfl ?_
      exact Vw.iretE (pc := 70) K (Option.some.inj h) rfl E (by decide) (by decide) dX6_compareParts_70
    · have h := wneg c1 h
      refine Vw.aload_n (pc := 23) (x := x0) K dX6_compareParts_23 rfl ?_
      refine Vw.iload_n (pc := 24) (x := x1) K dX6_compareParts_24 rfl ?_
      refine Vw.iload (pc := 25) (x := x7) K dX6_compareParts_25 rfl ?_
      refine Vw.iadd (pc := 27) K dX6_compareParts_27 ?_
      obtain ⟨g4, h⟩ := wgd h
      obtain ⟨v6, e5, h⟩ := wbd h
      refine Vw.cV1 (pc := 28) (v := .inl v6) (c' := 0) (n' := 0) K (s_X6_at K.tr e5) cal_X6_at cls4 u_2_110 g4 rfl ⟨by decide, by decide⟩ ⟨by decide, by decide⟩ rfl (Nat.le_of_ble_eq_true rfl) dX6_compareParts_28 rfl rfl ?_
      refine Vw.aload_n (pc := 31) (x := x3) K dX6_compareParts_31 rfl ?_
      refine Vw.iload (pc := 32) (x := x4) K dX6_compareParts_32 rfl ?_
      refine Vw.iload (pc := 34) (x := x7) K dX6_compareParts_34 rfl ?_
      refine Vw.iadd (pc := 36) K dX6_compareParts_36 ?_
      obtain ⟨g7, h⟩ := wgd h
      obtain ⟨v9, e8, h⟩ := wbd h
      refine Vw.cV1 (pc := 37) (v := .inl v9) (c' := 0) (n' := 0) K (s_X6_at K.tr e8) cal_X6_at cls4 u_2_110 g7 rfl ⟨by decide, by decide⟩ ⟨by decide, by decide⟩ rfl (Nat.le_of_ble_eq_true rfl) dX6_compareParts_37 rfl rfl ?_
      obtain ⟨v11, e10, h⟩ := wbd h
      refine Vw.cS1 (pc := 40) (v := .inl v11) (c' := 0) (n' := 0) K (s_J6_compare_7cf53 K.tr e10) cal_J6_compare_7cf53 u_3_163 rfl ⟨by decide, by decide⟩ ⟨by decide, by decide⟩ rfl (Nat.le_of_ble_eq_true rfl) dX6_compareParts_40 rfl rfl ?_
      refine Vw.istore (pc := 43) K dX6_compareParts_43 (by decide) ?_
      refine Vw.iload (pc := 45) (x := v11) K dX6_compareParts_45 rfl ?_
      refine Vw.if_eq (pc := 47) (tgt := 53) K dX6_compareParts_47 (by decide) (fun c12 => ?_) (fun c12 => ?_)
      · have h := wpos c12 h
        refine Vw.iinc (pc := 53) (x := x7) (v := (1 : Int32)) K dX6_compareParts_53 rfl (by decide) (by decide) ?_
        refine Vw.goto (pc := 56) (tgt := 16) K dX6_compareParts_56 (by decide) ?_
        exact Vw.loc rfl (hr16 _ h)
      · have h := wneg c12 h
        refine Vw.iload (pc := 50) (x := v11) K dX6_compareParts_50 rfl ?_
        exact Vw.iretE (pc := 52) K (Option.some.inj h) rfl E (by decide) (by decide) dX6_compareParts_52
def f_X6_compareParts (A : Hp) (x0 : Nat) (x1 : Int32) (x2 : Int32) (x3 : Nat) (x4 : Int32) (x5 : Int32) : Option (Int32) := k_X6_compareParts_16 A x0 x1 x2 x3 x4 x5 (if (x5 - x4) < (x2 - x1) then (x5 - x4) else (x2 - x1)) FU (0 : Int32)
set_option maxRecDepth 100000 in
theorem s_X6_compareParts {l : Launch} {g : GT} (hl : l.stackTraces = false) {A : Hp} {x0 : Nat} {x1 : Int32} {x2 : Int32} {x3 : Nat} {x4 : Int32} {x5 : Int32} {r : Int32} (h : f_X6_compareParts A x0 x1 x2 x3 x4 x5 = some r) : MetV l g yX6_compareParts (.code yX6_compareParts cX6_compareParts 9 (some .int)) [.inr (.inr x0), .inl x1, .inl x2, .inr (.inr x3), .inl x4, .inl x5] A (.inl (some (.inl r))) A 1 23 0 0 := by
  refine MetV.ofV hl (by decide +kernel) (Nat.le_of_ble_eq_true rfl) (fun κ K E => ?_)
  have K : Cx κ cX6_compareParts 9 RX6 1 23 0 0 := K
  have E : Ed κ (some .int) "compareParts" (.inl (some (.inl r))) A 0 0 := E
  unfold f_X6_compareParts at h
  change Vw κ A 0 0 0 [(0, .inr (.inr x0)), (1, .inl x1), (2, .inl x2), (3, .inr (.inr x3)), (4, .inl x4), (5, .inl x5)] []
  refine Vw.iload_n (pc := 0) (x := x2) K dX6_compareParts_0 rfl ?_
  refine Vw.iload_n (pc := 1) (x := x1) K dX6_compareParts_1 rfl ?_
  refine Vw.isub (pc := 2) K dX6_compareParts_2 ?_
  refine Vw.iload (pc := 3) (x := x5) K dX6_compareParts_3 rfl ?_
  refine Vw.iload (pc := 5) (x := x4) K dX6_compareParts_5 rfl ?_
  refine Vw.isub (pc := 7) K dX6_compareParts_7 ?_
  refine Vw.mmin (pc := 8) K u_2_181 u_2_167 u_1_3 u_2_168 (by decide) (Nat.le_of_ble_eq_true rfl) (by decide) (by decide) dX6_compareParts_8 ?_
  refine Vw.istore (pc := 11) K dX6_compareParts_11 (by decide) ?_
  refine Vw.iconst (pc := 13) (v := (0 : Int32)) K (by decide) dX6_compareParts_13 ?_
  refine Vw.istore (pc := 14) K dX6_compareParts_14 (by decide) ?_
  exact Vw.loc rfl (s_X6_compareParts_16 K E  _ _ h)
theorem cal_X6_compareParts : wCalV RX6 yX6_compareParts (.code yX6_compareParts cX6_compareParts 9 (some .int)) 5 := ⟨by decide +kernel, u_3_160, u_3_161, u_1_2, u_3_162⟩
def f_X6_sameTail (A : Hp) (x0 : Nat) (x1 : Int32) (x2 : Nat) (x3 : Int32) : Option (Int32) := if (hsh A x0).1 = 5 then if (hsh A x2).1 = 5 then ((f_X6_compareParts A x0 x1 (hgI A 257 x0 0) x2 x3 (hgI A 257 x2 0)).bind fun v4 => (if v4 = (0 : Int32) then some (1 : Int32) else some (0 : Int32))) else none else none
set_option maxRecDepth 100000 in
theorem s_X6_sameTail {l : Launch} {g : GT} (hl : l.stackTraces = false) {A : Hp} {x0 : Nat} {x1 : Int32} {x2 : Nat} {x3 : Int32} {r : Int32} (h : f_X6_sameTail A x0 x1 x2 x3 = some r) : MetV l g yX6_sameTail (.code yX6_sameTail cX6_sameTail 4 (some .boolean)) [.inr (.inr x0), .inl x1, .inr (.inr x2), .inl x3] A (.inl (some (.inl r))) A 2 51 0 0 := by
  refine MetV.ofV hl (by decide +kernel) (Nat.le_of_ble_eq_true rfl) (fun κ K E => ?_)
  have K : Cx κ cX6_sameTail 4 RX6 2 51 0 0 := K
  have E : Ed κ (some .boolean) "sameTail" (.inl (some (.inl r))) A 0 0 := E
  unfold f_X6_sameTail at h
  change Vw κ A 0 0 0 [(0, .inr (.inr x0)), (1, .inl x1), (2, .inr (.inr x2)), (3, .inl x3)] []
  refine Vw.aload_n (pc := 0) (x := x0) K dX6_sameTail_0 rfl ?_
  refine Vw.iload_n (pc := 1) (x := x1) K dX6_sameTail_1 rfl ?_
  refine Vw.aload_n (pc := 2) (x := x0) K dX6_sameTail_2 rfl ?_
  obtain ⟨g1, h⟩ := wgd h
  refine Vw.getI (pc := 3) (k := 1) (f := 257) K cls4 rfl rfl u_1_42 g1 dX6_sameTail_3 ?_
  refine Vw.aload_n (pc := 6) (x := x2) K dX6_sameTail_6 rfl ?_
  refine Vw.iload_n (pc := 7) (x := x3) K dX6_sameTail_7 rfl ?_
  refine Vw.aload_n (pc := 8) (x := x2) K dX6_sameTail_8 rfl ?_
  obtain ⟨g2, h⟩ := wgd h
  refine Vw.getI (pc := 9) (k := 1) (f := 257) K cls4 rfl rfl u_1_42 g2 dX6_sameTail_9 ?_
  obtain ⟨v4, e3, h⟩ := wbd h
  refine Vw.cV1 (pc := 12) (v := .inl v4) (c' := 0) (n' := 0) K (s_X6_compareParts K.tr e3) cal_X6_compareParts cls4 u_3_159 g1 rfl ⟨by decide, by decide⟩ ⟨by decide, by decide⟩ rfl (Nat.le_of_ble_eq_true rfl) dX6_sameTail_12 rfl rfl ?_
  refine Vw.if_ne (pc := 15) (tgt := 22) K dX6_sameTail_15 (by decide) (fun c5 => ?_) (fun c5 => ?_)
  · have h := wneg c5 h
    refine Vw.iconst (pc := 22) (v := (0 : Int32)) K (by decide) dX6_sameTail_22 ?_
    exact Vw.zretE (pc := 23) K (Or.inl rfl) (Option.some.inj h) rfl E (by decide) (by decide) dX6_sameTail_23
  · have h := wpos c5 h
    refine Vw.iconst (pc := 18) (v := (1 : Int32)) K (by decide) dX6_sameTail_18 ?_
    refine Vw.goto (pc := 19) (tgt := 23) K dX6_sameTail_19 (by decide) ?_
    exact Vw.zretE (pc := 23) K (Or.inr rfl) (Option.some.inj h) rfl E (by decide) (by decide) dX6_sameTail_23
theorem cal_X6_sameTail : wCalV RX6 yX6_sameTail (.code yX6_sameTail cX6_sameTail 4 (some .boolean)) 3 := ⟨by decide +kernel, u_3_156, u_3_157, u_1_2, u_3_158⟩
def f_X6_same (A : Hp) (x0 : Nat) (x1 : Nat) : Option (Int32) := if (hsh A x0).1 = 5 then if (hsh A x1).1 = 5 then ((f_X6_compareParts A x0 (0 : Int32) (hgI A 257 x0 0) x1 (0 : Int32) (hgI A 257 x1 0)).bind fun v4 => (if v4 = (0 : Int32) then some (1 : Int32) else some (0 : Int32))) else none else none
set_option maxRecDepth 100000 in
theorem s_X6_same {l : Launch} {g : GT} (hl : l.stackTraces = false) {A : Hp} {x0 : Nat} {x1 : Nat} {r : Int32} (h : f_X6_same A x0 x1 = some r) : MetV l g yX6_same (.code yX6_same cX6_same 2 (some .boolean)) [.inr (.inr x0), .inr (.inr x1)] A (.inl (some (.inl r))) A 2 51 0 0 := by
  refine MetV.ofV hl (by decide +kernel) (Nat.le_of_ble_eq_true rfl) (fun κ K E => ?_)
  have K : Cx κ cX6_same 2 RX6 2 51 0 0 := K
  have E : Ed κ (some .boolean) "same" (.inl (some (.inl r))) A 0 0 := E
  unfold f_X6_same at h
  change Vw κ A 0 0 0 [(0, .inr (.inr x0)), (1, .inr (.inr x1))] []
  refine Vw.aload_n (pc := 0) (x := x0) K dX6_same_0 rfl ?_
  refine Vw.iconst (pc := 1) (v := (0 : Int32)) K (by decide) dX6_same_1 ?_
  refine Vw.aload_n (pc := 2) (x := x0) K dX6_same_2 rfl ?_
  obtain ⟨g1, h⟩ := wgd h
  refine Vw.getI (pc := 3) (k := 1) (f := 257) K cls4 rfl rfl u_1_42 g1 dX6_same_3 ?_
  refine Vw.aload_n (pc := 6) (x := x1) K dX6_same_6 rfl ?_
  refine Vw.iconst (pc := 7) (v := (0 : Int32)) K (by decide) dX6_same_7 ?_
  refine Vw.aload_n (pc := 8) (x := x1) K dX6_same_8 rfl ?_
  obtain ⟨g2, h⟩ := wgd h
  refine Vw.getI (pc := 9) (k := 1) (f := 257) K cls4 rfl rfl u_1_42 g2 dX6_same_9 ?_
  obtain ⟨v4, e3, h⟩ := wbd h
  refine Vw.cV1 (pc := 12) (v := .inl v4) (c' := 0) (n' := 0) K (s_X6_compareParts K.tr e3) cal_X6_compareParts cls4 u_3_159 g1 rfl ⟨by decide, by decide⟩ ⟨by decide, by decide⟩ rfl (Nat.le_of_ble_eq_true rfl) dX6_same_12 rfl rfl ?_
  refine Vw.if_ne (pc := 15) (tgt := 22) K dX6_same_15 (by decide) (fun c5 => ?_) (fun c5 => ?_)
  · have h := wneg c5 h
    refine Vw.iconst (pc := 22) (v := (0 : Int32)) K (by decide) dX6_same_22 ?_
    exact Vw.zretE (pc := 23) K (Or.inl rfl) (Option.some.inj h) rfl E (by decide) (by decide) dX6_same_23
  · have h := wpos c5 h
    refine Vw.iconst (pc := 18) (v := (1 : Int32)) K (by decide) dX6_same_18 ?_
    refine Vw.goto (pc := 19) (tgt := 23) K dX6_same_19 (by decide) ?_
    exact Vw.zretE (pc := 23) K (Or.inr rfl) (Option.some.inj h) rfl E (by decide) (by decide) dX6_same_23
theorem cal_X6_same : wCalV RX6 yX6_same (.code yX6_same cX6_same 2 (some .boolean)) 1 := ⟨by decide +kernel, u_3_214, u_3_215, u_1_2, u_3_216⟩
def f_X6_copy (A : Hp) (x0 : Nat) (x1 : Nat) : Option (Hp) := if (hsh A x1).1 = 5 then if (hsh A x0).1 = 5 then ((f_X6_take A x0 x1 (0 : Int32) (hgI A 257 x1 0)).bind fun A4 => some A4) else none else none
set_option maxRecDepth 100000 in
theorem s_X6_copy {l : Launch} {g : GT} (hl : l.stackTraces = false) {A : Hp} {x0 : Nat} {x1 : Nat} {B : Hp} (h : f_X6_copy A x0 x1 = some B) : MetV l g yX6_copy (.code yX6_copy cX6_copy 2 none) [.inr (.inr x0), .inr (.inr x1)] A (.inl none) B 2 48 0 0 := by
  refine MetV.ofV hl (by decide +kernel) (Nat.le_of_ble_eq_true rfl) (fun κ K E => ?_)
  have K : Cx κ cX6_copy 2 RX6 2 48 0 0 := K
  have E : Ed κ none "copy" (.inl none) B 0 0 := E
  unfold f_X6_copy at h
  change Vw κ A 0 0 0 [(0, .inr (.inr x0)), (1, .inr (.inr x1))] []
  refine Vw.aload_n (pc := 0) (x := x0) K dX6_copy_0 rfl ?_
  refine Vw.aload_n (pc := 1) (x := x1) K dX6_copy_1 rfl ?_
  refine Vw.iconst (pc := 2) (v := (0 : Int32)) K (by decide) dX6_copy_2 ?_
  refine Vw.aload_n (pc := 3) (x := x1) K dX6_copy_3 rfl ?_
  obtain ⟨g1, h⟩ := wgd h
  refine Vw.getI (pc := 4) (k := 1) (f := 257) K cls4 rfl rfl u_1_42 g1 dX6_copy_4 ?_
  obtain ⟨g2, h⟩ := wgd h
  obtain ⟨A4, e3, h⟩ := wbd h
  refine Vw.cV0 (pc := 7) (c' := 0) (n' := 0) K (s_X6_take K.tr e3) cal_X6_take cls4 u_3_227 g2 rfl ⟨by decide, by decide⟩ ⟨by decide, by decide⟩ rfl (Nat.le_of_ble_eq_true rfl) dX6_copy_7 rfl rfl ?_
  exact Vw.vretE (pc := 10) K (Option.some.inj h) E (by decide) (by decide) dX6_copy_10
theorem cal_X6_copy : wCalV RX6 yX6_copy (.code yX6_copy cX6_copy 2 none) 1 := ⟨by decide +kernel, u_3_224, u_3_225, u_1_2, u_3_226⟩
def k_X6_takeTrimmed_56  (A : Hp) (x0 : Nat) (x1 : Nat) (x4 : Int32) (x5 : Int32)  : Option (Hp) := if (hsh A x0).1 = 5 then ((f_X6_take A x0 x1 x4 x5).bind fun A3 => some A3) else none
set_option maxRecDepth 100000 in
theorem s_X6_takeTrimmed_56 {κ : KT} {B : Hp} {A : Hp} {x0 : Nat} {x1 : Nat} {x4 : Int32} {x5 : Int32}   (K : Cx κ cX6_takeTrimmed 6 RX6 2 48 0 0) (E : Ed κ none "takeTrimmed" (.inl none) B 0 0)  (h : k_X6_takeTrimmed_56  A x0 x1 x4 x5  = some B) : Vw κ A 0 0 56 [(0, .inr (.inr x0)), (1, .inr (.inr x1)), (4, .inl x4), (5, .inl x5)] [] := by
  unfold k_X6_takeTrimmed_56 at h
  refine Vw.aload_n (pc := 56) (x := x0) K dX6_takeTrimmed_56 rfl ?_
  refine Vw.aload_n (pc := 57) (x := x1) K dX6_takeTrimmed_57 rfl ?_
  refine Vw.iload (pc := 58) (x := x4) K dX6_takeTrimmed_58 rfl ?_
  refine Vw.iload (pc := 60) (x := x5) K dX6_takeTrimmed_60 rfl ?_
  obtain ⟨g1, h⟩ := wgd h
  obtain ⟨A3, e2, h⟩ := wbd h
  refine Vw.cV0 (pc := 62) (c' := 0) (n' := 0) K (s_X6_take K.tr e2) cal_X6_take cls4 u_3_227 g1 rfl ⟨by decide, by decide⟩ ⟨by decide, by decide⟩ rfl (Nat.le_of_ble_eq_true rfl) dX6_takeTrimmed_62 rfl rfl ?_
  exact Vw.vretE (pc := 65) K (Option.some.inj h) E (by decide) (by decide) dX6_takeTrimmed_65
def k_X6_takeTrimmed_30s  (x0 : Nat) (x1 : Nat) (x4 : Int32)  (rec30 : Hp → Int32 → Option (Hp)) (A : Hp) (x5 : Int32) : Option (Hp) := (if x5 ≤ x4 then k_X6_takeTrimmed_56 A x0 x1 x4 x5 else if (hsh A x1).1 = 5 then ((f_X6_at A x1 (x5 - (1 : Int32))).bind fun v7 => (if v7 = (32 : Int32) then rec30 A (x5 + (-1 : Int32)) else k_X6_takeTrimmed_56 A x0 x1 x4 x5)) else none)
def k_X6_takeTrimmed_30  (x0 : Nat) (x1 : Nat) (x4 : Int32)  : Nat → Hp → Int32 → Option (Hp)
  | 0 => fun _ _ => none
  | fu + 1 => k_X6_takeTrimmed_30s x0 x1 x4  (k_X6_takeTrimmed_30 x0 x1 x4  fu)
set_option maxRecDepth 100000 in
theorem s_X6_takeTrimmed_30 {κ : KT} {B : Hp}  {x0 : Nat} {x1 : Nat} {x4 : Int32}  (K : Cx κ cX6_takeTrimmed 6 RX6 2 48 0 0) (E : Ed κ none "takeTrimmed" (.inl none) B 0 0)  : ∀ (fu : Nat) (A : Hp) (x5 : Int32),  k_X6_takeTrimmed_30 x0 x1 x4  fu A x5 = some B → Vw κ A 0 0 30 [(0, .inr (.inr x0)), (1, .inr (.inr x1)), (4, .inl x4), (5, .inl x5)] [] := by
  intro fu
  induction fu with
  | zero => intro A x5 h; cases h
  | succ fu hr30 =>
    intro A x5 h
    have h : k_X6_takeTrimmed_30s x0 x1 x4  (k_X6_takeTrimmed_30 x0 x1 x4  fu) A x5 = some B := h
    unfold k_X6_takeTrimmed_30s at h
    refine Vw.iload (pc := 30) (x := x5) K dX6_takeTrimmed_30 rfl ?_
    refine Vw.iload (pc := 32) (x := x4) K dX6_takeTrimmed_32 rfl ?_
    refine Vw.icmp_le (pc := 34) (tgt := 56) K dX6_takeTrimmed_34 (by decide) (fun c4 => ?_) (fun c4 => ?_)
    · have h := wpos c4 h
      exact Vw.loc rfl (s_X6_takeTrimmed_56 K E  h)
    · have h := wneg c4 h
      refine Vw.aload_n (pc := 37) (x := x1) K dX6_takeTrimmed_37 rfl ?_
      refine Vw.iload (pc := 38) (x := x5) K dX6_takeTrimmed_38 rfl ?_
      refine Vw.iconst (pc := 40) (v := (1 : Int32)) K (by decide) dX6_takeTrimmed_40 ?_
      refine Vw.isub (pc := 41) K dX6_takeTrimmed_41 ?_
      obtain ⟨g5, h⟩ := wgd h
      obtain ⟨v7, e6, h⟩ := wbd h
      refine Vw.cV1 (pc := 42) (v := .inl v7) (c' := 0) (n' := 0) K (s_X6_at K.tr e6) cal_X6_at cls4 u_2_110 g5 rfl ⟨by decide, by decide⟩ ⟨by decide, by decide⟩ rfl (Nat.le_of_ble_eq_true rfl) dX6_takeTrimmed_42 rfl rfl ?_
      refine Vw.bipush (pc := 45) (v := (32 : Int32)) K (by decide) dX6_takeTrimmed_45 ?_
      refine Vw.icmp_ne (pc := 47) (tgt := 56) K dX6_takeTrimmed_47 (by decide) (fun c8 => ?_) (fun c8 => ?_)
      · have h := wneg c8 h
        exact Vw.loc rfl (s_X6_takeTrimmed_56 K E  h)
      · have h := wpos c8 h
        refine Vw.iinc (pc := 50) (x := x5) (v := (-1 : Int32)) K dX6_takeTrimmed_50 rfl (by decide) (by decide) ?_
        refine Vw.goto (pc := 53) (tgt := 30) K dX6_takeTrimmed_53 (by decide) ?_
        exact Vw.loc rfl (hr30 _ _ h)
def k_X6_takeTrimmed_6s  (x0 : Nat) (x1 : Nat) (x5 : Int32)  (rec6 : Hp → Int32 → Option (Hp)) (A : Hp) (x4 : Int32) : Option (Hp) := (if x5 ≤ x4 then k_X6_takeTrimmed_30 x0 x1 x4 FU A x5 else if (hsh A x1).1 = 5 then ((f_X6_at A x1 x4).bind fun v12 => (if v12 = (32 : Int32) then rec6 A (x4 + (1 : Int32)) else k_X6_takeTrimmed_30 x0 x1 x4 FU A x5)) else none)
def k_X6_takeTrimmed_6  (x0 : Nat) (x1 : Nat) (x5 : Int32)  : Nat → Hp → Int32 → Option (Hp)
  | 0 => fun _ _ => none
  | fu + 1 => k_X6_takeTrimmed_6s x0 x1 x5  (k_X6_takeTrimmed_6 x0 x1 x5  fu)
set_option maxRecDepth 100000 in
theorem s_X6_takeTrimmed_6 {κ : KT} {B : Hp}  {x0 : Nat} {x1 : Nat} {x5 : Int32}  (K : Cx κ cX6_takeTrimmed 6 RX6 2 48 0 0) (E : Ed κ none "takeTrimmed" (.inl none) B 0 0)  : ∀ (fu : Nat) (A : Hp) (x4 : Int32),  k_X6_takeTrimmed_6 x0 x1 x5  fu A x4 = some B → Vw κ A 0 0 6 [(0, .inr (.inr x0)), (1, .inr (.inr x1)), (4, .inl x4), (5, .inl x5)] [] := by
  intro fu
  induction fu with
  | zero => intro A x4 h; cases h
  | succ fu hr6 =>
    intro A x4 h
    have h : k_X6_takeTrimmed_6s x0 x1 x5  (k_X6_takeTrimmed_6 x0 x1 x5  fu) A x4 = some B := h
    unfold k_X6_takeTrimmed_6s at h
    refine Vw.iload (pc := 6) (x := x4) K dX6_takeTrimmed_6 rfl ?_
    refine Vw.iload (pc := 8) (x := x5) K dX6_takeTrimmed_8 rfl ?_
    refine Vw.icmp_ge (pc := 10) (tgt := 30) K dX6_takeTrimmed_10 (by decide) (fun c9 => ?_) (fun c9 => ?_)
    · have h := wpos c9 h
      exact Vw.loc rfl (s_X6_takeTrimmed_30 K E  _ _ _ h)
    · have h := wneg c9 h
      refine Vw.aload_n (pc := 13) (x := x1) K dX6_takeTrimmed_13 rfl ?_
      refine Vw.iload (pc := 14) (x := x4) K dX6_takeTrimmed_14 rfl ?_
      obtain ⟨g10, h⟩ := wgd h
      obtain ⟨v12, e11, h⟩ := wbd h
      refine Vw.cV1 (pc := 16) (v := .inl v12) (c' := 0) (n' := 0) K (s_X6_at K.tr e11) cal_X6_at cls4 u_2_110 g10 rfl ⟨by decide, by decide⟩ ⟨by decide, by decide⟩ rfl (Nat.le_of_ble_eq_true rfl) dX6_takeTrimmed_16 rfl rfl ?_
      refine Vw.bipush (pc := 19) (v := (32 : Int32)) K (by decide) dX6_takeTrimmed_19 ?_
      refine Vw.icmp_ne (pc := 21) (tgt := 30) K dX6_takeTrimmed_21 (by decide) (fun c13 => ?_) (fun c13 => ?_)
      · have h := wneg c13 h
        exact Vw.loc rfl (s_X6_takeTrimmed_30 K E  _ _ _ h)
      · have h := wpos c13 h
        refine Vw.iinc (pc := 24) (x := x4) (v := (1 : Int32)) K dX6_takeTrimmed_24 rfl (by decide) (by decide) ?_
        refine Vw.goto (pc := 27) (tgt := 6) K dX6_takeTrimmed_27 (by decide) ?_
        exact Vw.loc rfl (hr6 _ _ h)
def f_X6_takeTrimmed (A : Hp) (x0 : Nat) (x1 : Nat) (x2 : Int32) (x3 : Int32) : Option (Hp) := k_X6_takeTrimmed_6 x0 x1 x3 FU A x2
set_option maxRecDepth 100000 in
theorem s_X6_takeTrimmed {l : Launch} {g : GT} (hl : l.stackTraces = false) {A : Hp} {x0 : Nat} {x1 : Nat} {x2 : Int32} {x3 : Int32} {B : Hp} (h : f_X6_takeTrimmed A x0 x1 x2 x3 = some B) : MetV l g yX6_takeTrimmed (.code yX6_takeTrimmed cX6_takeTrimmed 6 none) [.inr (.inr x0), .inr (.inr x1), .inl x2, .inl x3] A (.inl none) B 2 48 0 0 := by
  refine MetV.ofV hl (by decide +kernel) (Nat.le_of_ble_eq_true rfl) (fun κ K E => ?_)
  have K : Cx κ cX6_takeTrimmed 6 RX6 2 48 0 0 := K
  have E : Ed κ none "takeTrimmed" (.inl none) B 0 0 := E
  unfold f_X6_takeTrimmed at h
  change Vw κ A 0 0 0 [(0, .inr (.inr x0)), (1, .inr (.inr x1)), (2, .inl x2), (3, .inl x3)] []
  refine Vw.iload_n (pc := 0) (x := x2) K dX6_takeTrimmed_0 rfl ?_
  refine Vw.istore (pc := 1) K dX6_takeTrimmed_1 (by decide) ?_
  refine Vw.iload_n (pc := 3) (x := x3) K dX6_takeTrimmed_3 rfl ?_
  refine Vw.istore (pc := 4) K dX6_takeTrimmed_4 (by decide) ?_
  exact Vw.loc rfl (s_X6_takeTrimmed_6 K E  _ _ _ h)
theorem cal_X6_takeTrimmed : wCalV RX6 yX6_takeTrimmed (.code yX6_takeTrimmed cX6_takeTrimmed 6 none) 3 := ⟨by decide +kernel, u_4_11, u_4_12, u_1_2, u_4_13⟩
def k_X6_toSmallLetters_60 (rec2 : Hp → Int32 → Option (Hp)) (A : Hp) (x0 : Nat) (x1 : Int32)  : Option (Hp) := rec2 A (x1 + (1 : Int32))
set_option maxRecDepth 100000 in
theorem s_X6_toSmallLetters_60 {κ : KT} {B : Hp} {A : Hp} {x0 : Nat} {x1 : Int32}  {rec2 : Hp → Int32 → Option (Hp)} (K : Cx κ cX6_toSmallLetters 2 RX6 0 0 0 0) (E : Ed κ none "toSmallLetters" (.inl none) B 0 0) (hr2 : ∀ (A : Hp) (x1 : Int32), rec2 A x1 = some B → Vw κ A 0 0 2 [(0, .inr (.inr x0)), (1, .inl x1)] []) (h : k_X6_toSmallLetters_60 rec2 A x0 x1  = some B) : Vw κ A 0 0 60 [(0, .inr (.inr x0)), (1, .inl x1)] [] := by
  unfold k_X6_toSmallLetters_60 at h
  refine Vw.iinc (pc := 60) (x := x1) (v := (1 : Int32)) K dX6_toSmallLetters_60 rfl (by decide) (by decide) ?_
  refine Vw.goto (pc := 63) (tgt := 2) K dX6_toSmallLetters_63 (by decide) ?_
  exact Vw.loc rfl (hr2 _ _ h)
def k_X6_toSmallLetters_2s  (x0 : Nat)  (rec2 : Hp → Int32 → Option (Hp)) (A : Hp) (x1 : Int32) : Option (Hp) := if (hsh A x0).1 = 5 then (if (hgI A 257 x0 0) ≤ x1 then some A else if (hsh A (hgR A 256 x0 0)).1 = 9 then (if (nI (hsh A (hgR A 256 x0 0)).2) ≤ x1 then some A else if wix x1 (hsh A (hgR A 256 x0 0)).2 then (if (hgI A 1033 (hgR A 256 x0 0) x1.toNatClampNeg) < (65 : Int32) then k_X6_toSmallLetters_60 rec2 A x0 x1 else (if (90 : Int32) < (hgI A 1033 (hgR A 256 x0 0) x1.toNatClampNeg) then k_X6_toSmallLetters_60 rec2 A x0 x1 else k_X6_toSmallLetters_60 rec2 (hsI A 1033 (hgR A 256 x0 0) x1.toNatClampNeg (vp_nar .char (((((hgI A 1033 (hgR A 256 x0 0) x1.toNatClampNeg) - (65 : Int32)) + (97 : Int32)).toUInt32 % 65536).toInt32))) x0 x1)) else none) else none) else none
def k_X6_toSmallLetters_2  (x0 : Nat)  : Nat → Hp → Int32 → Option (Hp)
  | 0 => fun _ _ => none
  | fu + 1 => k_X6_toSmallLetters_2s x0  (k_X6_toSmallLetters_2 x0  fu)
set_option maxRecDepth 100000 in
theorem s_X6_toSmallLetters_2 {κ : KT} {B : Hp}  {x0 : Nat}  (K : Cx κ cX6_toSmallLetters 2 RX6 0 0 0 0) (E : Ed κ none "toSmallLetters" (.inl none) B 0 0)  : ∀ (fu : Nat) (A : Hp) (x1 : Int32),  k_X6_toSmallLetters_2 x0  fu A x1 = some B → Vw κ A 0 0 2 [(0, .inr (.inr x0)), (1, .inl x1)] [] := by
  intro fu
  induction fu with
  | zero => intro A x1 h; cases h
  | succ fu hr2 =>
    intro A x1 h
    have h : k_X6_toSmallLetters_2s x0  (k_X6_toSmallLetters_2 x0  fu) A x1 = some B := h
    unfold k_X6_toSmallLetters_2s at h
    refine Vw.iload_n (pc := 2) (x := x1) K dX6_toSmallLetters_2 rfl ?_
    refine Vw.aload_n (pc := 3) (x := x0) K dX6_toSmallLetters_3 rfl ?_
    obtain ⟨g1, h⟩ := wgd h
    refine Vw.getI (pc := 4) (k := 1) (f := 257) K cls4 rfl rfl u_1_42 g1 dX6_toSmallLetters_4 ?_
    refine Vw.icmp_ge (pc := 7) (tgt := 66) K dX6_toSmallLetters_7 (by decide) (fun c2 => ?_) (fun c2 => ?_)
    · have h := wpos c2 h
      exact Vw.vretE (pc := 66) K (Option.some.inj h) E (by decide) (by decide) dX6_toSmallLetters_66
    · have h := wneg c2 h
      refine Vw.iload_n (pc := 10) (x := x1) K dX6_toSmallLetters_10 rfl ?_
      refine Vw.aload_n (pc := 11) (x := x0) K dX6_toSmallLetters_11 rfl ?_
      refine Vw.getR (pc := 12) (k := 0) (f := 256) K cls4 rfl rfl u_1_41 g1 dX6_toSmallLetters_12 ?_
      obtain ⟨g3, h⟩ := wgd h
      refine Vw.alenC (pc := 15) K g3 dX6_toSmallLetters_15 ?_
      refine Vw.icmp_ge (pc := 16) (tgt := 66) K dX6_toSmallLetters_16 (by decide) (fun c4 => ?_) (fun c4 => ?_)
      · have h := wpos c4 h
        exact Vw.vretE (pc := 66) K (Option.some.inj h) E (by decide) (by decide) dX6_toSmallLetters_66
      · have h := wneg c4 h
        refine Vw.aload_n (pc := 19) (x := x0) K dX6_toSmallLetters_19 rfl ?_
        refine Vw.getR (pc := 20) (k := 0) (f := 256) K cls4 rfl rfl u_1_41 g1 dX6_toSmallLetters_20 ?_
        refine Vw.iload_n (pc := 23) (x := x1) K dX6_toSmallLetters_23 rfl ?_
        obtain ⟨g5, h⟩ := wgd h
        refine Vw.caload (pc := 24) K g3 g5 dX6_toSmallLetters_24 ?_
        refine Vw.bipush (pc := 25) (v := (65 : Int32)) K (by decide) dX6_toSmallLetters_25 ?_
        refine Vw.icmp_lt (pc := 27) (tgt := 60) K dX6_toSmallLetters_27 (by decide) (fun c6 => ?_) (fun c6 => ?_)
        · have h := wpos c6 h
          exact Vw.loc rfl (s_X6_toSmallLetters_60 K E hr2 h)
        · have h := wneg c6 h
          refine Vw.aload_n (pc := 30) (x := x0) K dX6_toSmallLetters_30 rfl ?_
          refine Vw.getR (pc := 31) (k := 0) (f := 256) K cls4 rfl rfl u_1_41 g1 dX6_toSmallLetters_31 ?_
          refine Vw.iload_n (pc := 34) (x := x1) K dX6_toSmallLetters_34 rfl ?_
          refine Vw.caload (pc := 35) K g3 g5 dX6_toSmallLetters_35 ?_
          refine Vw.bipush (pc := 36) (v := (90 : Int32)) K (by decide) dX6_toSmallLetters_36 ?_
          refine Vw.icmp_gt (pc := 38) (tgt := 60) K dX6_toSmallLetters_38 (by decide) (fun c7 => ?_) (fun c7 => ?_)
          · have h := wpos c7 h
            exact Vw.loc rfl (s_X6_toSmallLetters_60 K E hr2 h)
          · have h := wneg c7 h
            refine Vw.aload_n (pc := 41) (x := x0) K dX6_toSmallLetters_41 rfl ?_
            refine Vw.getR (pc := 42) (k := 0) (f := 256) K cls4 rfl rfl u_1_41 g1 dX6_toSmallLetters_42 ?_
            refine Vw.iload_n (pc := 45) (x := x1) K dX6_toSmallLetters_45 rfl ?_
            refine Vw.aload_n (pc := 46) (x := x0) K dX6_toSmallLetters_46 rfl ?_
            refine Vw.getR (pc := 47) (k := 0) (f := 256) K cls4 rfl rfl u_1_41 g1 dX6_toSmallLetters_47 ?_
            refine Vw.iload_n (pc := 50) (x := x1) K dX6_toSmallLetters_50 rfl ?_
            refine Vw.caload (pc := 51) K g3 g5 dX6_toSmallLetters_51 ?_
            refine Vw.bipush (pc := 52) (v := (65 : Int32)) K (by decide) dX6_toSmallLetters_52 ?_
            refine Vw.isub (pc := 54) K dX6_toSmallLetters_54 ?_
            refine Vw.bipush (pc := 55) (v := (97 : Int32)) K (by decide) dX6_toSmallLetters_55 ?_
            refine Vw.iadd (pc := 57) K dX6_toSmallLetters_57 ?_
            refine Vw.i2c (pc := 58) K dX6_toSmallLetters_58 ?_
            refine Vw.castore (pc := 59) K g3 g5 dX6_toSmallLetters_59 ?_
            exact Vw.loc rfl (s_X6_toSmallLetters_60 K E hr2 h)
def f_X6_toSmallLetters (A : Hp) (x0 : Nat) : Option (Hp) := k_X6_toSmallLetters_2 x0 FU A (0 : Int32)
set_option maxRecDepth 100000 in
theorem s_X6_toSmallLetters {l : Launch} {g : GT} (hl : l.stackTraces = false) {A : Hp} {x0 : Nat} {B : Hp} (h : f_X6_toSmallLetters A x0 = some B) : MetV l g yX6_toSmallLetters (.code yX6_toSmallLetters cX6_toSmallLetters 2 none) [.inr (.inr x0)] A (.inl none) B 0 0 0 0 := by
  refine MetV.ofV hl (by decide +kernel) (Nat.le_of_ble_eq_true rfl) (fun κ K E => ?_)
  have K : Cx κ cX6_toSmallLetters 2 RX6 0 0 0 0 := K
  have E : Ed κ none "toSmallLetters" (.inl none) B 0 0 := E
  unfold f_X6_toSmallLetters at h
  change Vw κ A 0 0 0 [(0, .inr (.inr x0))] []
  refine Vw.iconst (pc := 0) (v := (0 : Int32)) K (by decide) dX6_toSmallLetters_0 ?_
  refine Vw.istore_n (pc := 1) K dX6_toSmallLetters_1 (by decide) ?_
  exact Vw.loc rfl (s_X6_toSmallLetters_2 K E  _ _ _ h)
theorem cal_X6_toSmallLetters : wCalV RX6 yX6_toSmallLetters (.code yX6_toSmallLetters cX6_toSmallLetters 2 none) 0 := ⟨by decide +kernel, u_4_20, u_4_21, u_1_2, u_4_22⟩
def f_X6_is (A : Hp) (x0 : Nat) (x1 : Nat) : Option (Int32) := if (hsh A x0).1 = 5 then if wSn x1 then ((f_J0_length_8abf5 A x1).bind fun v4 => (if (hgI A 257 x0 0) = v4 then ((f_X6_agreement A x0 x1).bind fun v7 => (if v7 = (hgI A 257 x0 0) then some (1 : Int32) else some (0 : Int32))) else some (0 : Int32))) else none else none
set_option maxRecDepth 100000 in
theorem s_X6_is {l : Launch} {g : GT} (hl : l.stackTraces = false) {A : Hp} {x0 : Nat} {x1 : Nat} {r : Int32} (h : f_X6_is A x0 x1 = some r) : MetV l g yX6_is (.code yX6_is cX6_is 2 (some .boolean)) [.inr (.inr x0), .inr (.inr x1)] A (.inl (some (.inl r))) A 5 107 0 0 := by
  refine MetV.ofV hl (by decide +kernel) (Nat.le_of_ble_eq_true rfl) (fun κ K E => ?_)
  have K : Cx κ cX6_is 2 RX6 5 107 0 0 := K
  have E : Ed κ (some .boolean) "is" (.inl (some (.inl r))) A 0 0 := E
  unfold f_X6_is at h
  change Vw κ A 0 0 0 [(0, .inr (.inr x0)), (1, .inr (.inr x1))] []
  refine Vw.aload_n (pc := 0) (x := x0) K dX6_is_0 rfl ?_
  obtain ⟨g1, h⟩ := wgd h
  refine Vw.getI (pc := 1) (k := 1) (f := 257) K cls4 rfl rfl u_1_42 g1 dX6_is_1 ?_
  refine Vw.aload_n (pc := 4) (x := x1) K dX6_is_4 rfl ?_
  obtain ⟨g2, h⟩ := wgd h
  obtain ⟨v4, e3, h⟩ := wbd h
  refine Vw.cStr (pc := 5) (v := .inl v4) K (s_J0_length_8abf5 K.tr e3) cal_J0_length_8abf5 u_2_100 g2 rfl ⟨by decide, by decide⟩ ⟨by decide, by decide⟩ rfl (Nat.le_of_ble_eq_true rfl) dX6_is_5 ?_
  refine Vw.icmp_ne (pc := 8) (tgt := 27) K dX6_is_8 (by decide) (fun c5 => ?_) (fun c5 => ?_)
  · have h := wneg c5 h
    refine Vw.iconst (pc := 27) (v := (0 : Int32)) K (by decide) dX6_is_27 ?_
    exact Vw.zretE (pc := 28) K (Or.inl rfl) (Option.some.inj h) rfl E (by decide) (by decide) dX6_is_28
  · have h := wpos c5 h
    refine Vw.aload_n (pc := 11) (x := x0) K dX6_is_11 rfl ?_
    refine Vw.aload_n (pc := 12) (x := x1) K dX6_is_12 rfl ?_
    obtain ⟨v7, e6, h⟩ := wbd h
    refine Vw.cV1 (pc := 13) (v := .inl v7) (c' := 0) (n' := 0) K (s_X6_agreement K.tr e6) cal_X6_agreement cls4 u_4_28 g1 rfl ⟨by decide, by decide⟩ ⟨by decide, by decide⟩ rfl (Nat.le_of_ble_eq_true rfl) dX6_is_13 rfl rfl ?_
    refine Vw.aload_n (pc := 16) (x := x0) K dX6_is_16 rfl ?_
    refine Vw.getI (pc := 17) (k := 1) (f := 257) K cls4 rfl rfl u_1_42 g1 dX6_is_17 ?_
    refine Vw.icmp_ne (pc := 20) (tgt := 27) K dX6_is_20 (by decide) (fun c8 => ?_) (fun c8 => ?_)
    · have h := wneg c8 h
      refine Vw.iconst (pc := 27) (v := (0 : Int32)) K (by decide) dX6_is_27 ?_
      exact Vw.zretE (pc := 28) K (Or.inl rfl) (Option.some.inj h) rfl E (by decide) (by decide) dX6_is_28
    · have h := wpos c8 h
      refine Vw.iconst (pc := 23) (v := (1 : Int32)) K (by decide) dX6_is_23 ?_
      refine Vw.goto (pc := 24) (tgt := 28) K dX6_is_24 (by decide) ?_
      exact Vw.zretE (pc := 28) K (Or.inr rfl) (Option.some.inj h) rfl E (by decide) (by decide) dX6_is_28
theorem cal_X6_is : wCalV RX6 yX6_is (.code yX6_is cX6_is 2 (some .boolean)) 1 := ⟨by decide +kernel, u_4_25, u_4_26, u_1_2, u_4_27⟩
def k_X6_number_5s (A : Hp) (x0 : Nat) (x2 : Int32)  (rec5 : Int32 → Int32 → Option (Int32))  (x3 : Int32) (x4 : Int32) : Option (Int32) := (if x2 ≤ x4 then some x3 else if (hsh A x0).1 = 5 then ((f_X6_at A x0 x4).bind fun v4 => (if v4 < (48 : Int32) then some (-1 : Int32) else (if v4 ≤ (57 : Int32) then rec5 (((10 : Int32) * x3) + (v4 - (48 : Int32))) (x4 + (1 : Int32)) else some (-1 : Int32)))) else none)
def k_X6_number_5 (A : Hp) (x0 : Nat) (x2 : Int32)  : Nat → Int32 → Int32 → Option (Int32)
  | 0 => fun _ _ => none
  | fu + 1 => k_X6_number_5s A x0 x2  (k_X6_number_5 A x0 x2  fu)
set_option maxRecDepth 100000 in
theorem s_X6_number_5 {κ : KT} {r : Int32} {A : Hp} {x0 : Nat} {x2 : Int32}  (K : Cx κ cX6_number 6 RX6 1 21 0 0) (E : Ed κ (some .int) "number" (.inl (some (.inl r))) A 0 0)  : ∀ (fu : Nat)  (x3 : Int32) (x4 : Int32),  k_X6_number_5 A x0 x2  fu x3 x4 = some r → Vw κ A 0 0 5 [(0, .inr (.inr x0)), (2, .inl x2), (3, .inl x3), (4, .inl x4)] [] := by
  intro fu
  induction fu with
  | zero => intro x3 x4 h; cases h
  | succ fu hr5 =>
    intro x3 x4 h
    have h : k_X6_number_5s A x0 x2  (k_X6_number_5 A x0 x2  fu) x3 x4 = some r := h
    unfold k_X6_number_5s at h
    refine Vw.iload (pc := 5) (x := x4) K dX6_number_5 rfl ?_
    refine Vw.iload_n (pc := 7) (x := x2) K dX6_number_7 rfl ?_
    refine Vw.icmp_ge (pc := 8) (tgt := 52) K dX6_number_8 (by decide) (fun c1 => ?_) (fun c1 => ?_)
    · have h := wpos c1 h
      refine Vw.iload_n (pc := 52) (x := x3) K dX6_number_52 rfl ?_
      exact Vw.iretE (pc := 53) K (Option.some.inj h) rfl E (by decide) (by decide) dX6_number_53
    · have h := wneg c1 h
      refine Vw.aload_n (pc := 11) (x := x0) K dX6_number_11 rfl ?_
      refine Vw.iload (pc := 12) (x := x4) K dX6_number_12 rfl ?_
      obtain ⟨g2, h⟩ := wgd h
      obtain ⟨v4, e3, h⟩ := wbd h
      refine Vw.cV1 (pc := 14) (v := .inl v4) (c' := 0) (n' := 0) K (s_X6_at K.tr e3) cal_X6_at cls4 u_2_110 g2 rfl ⟨by decide, by decide⟩ ⟨by decide, by decide⟩ rfl (Nat.le_of_ble_eq_true rfl) dX6_number_14 rfl rfl ?_
      refine Vw.istore (pc := 17) K dX6_number_17 (by decide) ?_
      refine Vw.iload (pc := 19) (x := v4) K dX6_number_19 rfl ?_
      refine Vw.bipush (pc := 21) (v := (48 : Int32)) K (by decide) dX6_number_21 ?_
      refine Vw.icmp_lt (pc := 23) (tgt := 33) K dX6_number_23 (by decide) (fun c5 => ?_) (fun c5 => ?_)
      · have h := wpos c5 h
        refine Vw.iconst (pc := 33) (v := (-1 : Int32)) K (by decide) dX6_number_33 ?_
        exact Vw.iretE (pc := 34) K (Option.some.inj h) rfl E (by decide) (by decide) dX6_number_34
      · have h := wneg c5 h
        refine Vw.iload (pc := 26) (x := v4) K dX6_number_26 rfl ?_
        refine Vw.bipush (pc := 28) (v := (57 : Int32)) K (by decide) dX6_number_28 ?_
        refine Vw.icmp_le (pc := 30) (tgt := 35) K dX6_number_30 (by decide) (fun c6 => ?_) (fun c6 => ?_)
        · have h := wpos c6 h
          refine Vw.bipush (pc := 35) (v := (10 : Int32)) K (by decide) dX6_number_35 ?_
          refine Vw.iload_n (pc := 37) (x := x3) K dX6_number_37 rfl ?_
          refine Vw.imul (pc := 38) K dX6_number_38 ?_
          refine Vw.iload (pc := 39) (x := v4) K dX6_number_39 rfl ?_
          refine Vw.bipush (pc := 41) (v := (48 : Int32)) K (by decide) dX6_number_41 ?_
          refine Vw.isub (pc := 43) K dX6_number_43 ?_
          refine Vw.iadd (pc := 44) K dX6_number_44 ?_
          refine Vw.istore_n (pc := 45) K dX6_number_45 (by decide) ?_
          refine Vw.iinc (pc := 46) (x := x4) (v := (1 : Int32)) K dX6_number_46 rfl (by decide) (by decide) ?_
          refine Vw.goto (pc := 49) (tgt := 5) K dX6_number_49 (by decide) ?_
          exact Vw.loc rfl (hr5 _ _ h)
        · have h := wneg c6 h
          refine Vw.iconst (pc := 33) (v := (-1 : Int32)) K (by decide) dX6_number_33 ?_
          exact Vw.iretE (pc := 34) K (Option.some.inj h) rfl E (by decide) (by decide) dX6_number_34
def f_X6_number (A : Hp) (x0 : Nat) (x1 : Int32) (x2 : Int32) : Option (Int32) := k_X6_number_5 A x0 x2 FU (0 : Int32) x1
set_option maxRecDepth 100000 in
theorem s_X6_number {l : Launch} {g : GT} (hl : l.stackTraces = false) {A : Hp} {x0 : Nat} {x1 : Int32} {x2 : Int32} {r : Int32} (h : f_X6_number A x0 x1 x2 = some r) : MetV l g yX6_number (.code yX6_number cX6_number 6 (some .int)) [.inr (.inr x0), .inl x1, .inl x2] A (.inl (some (.inl r))) A 1 21 0 0 := by
  refine MetV.ofV hl (by decide +kernel) (Nat.le_of_ble_eq_true rfl) (fun κ K E => ?_)
  have K : Cx κ cX6_number 6 RX6 1 21 0 0 := K
  have E : Ed κ (some .int) "number" (.inl (some (.inl r))) A 0 0 := E
  unfold f_X6_number at h
  change Vw κ A 0 0 0 [(0, .inr (.inr x0)), (1, .inl x1), (2, .inl x2)] []
  refine Vw.iconst (pc := 0) (v := (0 : Int32)) K (by decide) dX6_number_0 ?_
  refine Vw.istore_n (pc := 1) K dX6_number_1 (by decide) ?_
  refine Vw.iload_n (pc := 2) (x := x1) K dX6_number_2 rfl ?_
  refine Vw.istore (pc := 3) K dX6_number_3 (by decide) ?_
  exact Vw.loc rfl (s_X6_number_5 K E  _ _ _ h)
theorem cal_X6_number : wCalV RX6 yX6_number (.code yX6_number cX6_number 6 (some .int)) 2 := ⟨by decide +kernel, u_4_42, u_4_43, u_1_2, u_4_44⟩
def f_X6_compare (A : Hp) (x0 : Nat) (x1 : Nat) : Option (Int32) := if (hsh A x0).1 = 5 then if (hsh A x1).1 = 5 then ((f_X6_compareParts A x0 (0 : Int32) (hgI A 257 x0 0) x1 (0 : Int32) (hgI A 257 x1 0)).bind fun v4 => some v4) else none else none
set_option maxRecDepth 100000 in
theorem s_X6_compare {l : Launch} {g : GT} (hl : l.stackTraces = false) {A : Hp} {x0 : Nat} {x1 : Nat} {r : Int32} (h : f_X6_compare A x0 x1 = some r) : MetV l g yX6_compare (.code yX6_compare cX6_compare 2 (some .int)) [.inr (.inr x0), .inr (.inr x1)] A (.inl (some (.inl r))) A 2 51 0 0 := by
  refine MetV.ofV hl (by decide +kernel) (Nat.le_of_ble_eq_true rfl) (fun κ K E => ?_)
  have K : Cx κ cX6_compare 2 RX6 2 51 0 0 := K
  have E : Ed κ (some .int) "compare" (.inl (some (.inl r))) A 0 0 := E
  unfold f_X6_compare at h
  change Vw κ A 0 0 0 [(0, .inr (.inr x0)), (1, .inr (.inr x1))] []
  refine Vw.aload_n (pc := 0) (x := x0) K dX6_compare_0 rfl ?_
  refine Vw.iconst (pc := 1) (v := (0 : Int32)) K (by decide) dX6_compare_1 ?_
  refine Vw.aload_n (pc := 2) (x := x0) K dX6_compare_2 rfl ?_
  obtain ⟨g1, h⟩ := wgd h
  refine Vw.getI (pc := 3) (k := 1) (f := 257) K cls4 rfl rfl u_1_42 g1 dX6_compare_3 ?_
  refine Vw.aload_n (pc := 6) (x := x1) K dX6_compare_6 rfl ?_
  refine Vw.iconst (pc := 7) (v := (0 : Int32)) K (by decide) dX6_compare_7 ?_
  refine Vw.aload_n (pc := 8) (x := x1) K dX6_compare_8 rfl ?_
  obtain ⟨g2, h⟩ := wgd h
  refine Vw.getI (pc := 9) (k := 1) (f := 257) K cls4 rfl rfl u_1_42 g2 dX6_compare_9 ?_
  obtain ⟨v4, e3, h⟩ := wbd h
  refine Vw.cV1 (pc := 12) (v := .inl v4) (c' := 0) (n' := 0) K (s_X6_compareParts K.tr e3) cal_X6_compareParts cls4 u_3_159 g1 rfl ⟨by decide, by decide⟩ ⟨by decide, by decide⟩ rfl (Nat.le_of_ble_eq_true rfl) dX6_compare_12 rfl rfl ?_
  exact Vw.iretE (pc := 15) K (Option.some.inj h) rfl E (by decide) (by decide) dX6_compare_15
theorem cal_X6_compare : wCalV RX6 yX6_compare (.code yX6_compare cX6_compare 2 (some .int)) 1 := ⟨by decide +kernel, u_4_157, u_4_158, u_1_2, u_4_159⟩
def k_X6_pathMatches_70  (A : Hp)   : Option (Int32) := some (1 : Int32)
set_option maxRecDepth 100000 in
theorem s_X6_pathMatches_70 {κ : KT} {r : Int32} {A : Hp}    (K : Cx κ cX6_pathMatches 2 RX6 2 51 0 0) (E : Ed κ (some .boolean) "pathMatches" (.inl (some (.inl r))) A 0 0)  (h : k_X6_pathMatches_70  A   = some r) : Vw κ A 0 0 70 [] [] := by
  unfold k_X6_pathMatches_70 at h
  refine Vw.iconst (pc := 70) (v := (1 : Int32)) K (by decide) dX6_pathMatches_70 ?_
  refine Vw.goto (pc := 71) (tgt := 75) K dX6_pathMatches_71 (by decide) ?_
  exact Vw.zretE (pc := 75) K (Or.inr rfl) (Option.some.inj h) rfl E (by decide) (by decide) dX6_pathMatches_75
def f_X6_pathMatches (A : Hp) (x0 : Nat) (x1 : Nat) : Option (Int32) := if (hsh A x1).1 = 5 then if (hsh A x0).1 = 5 then (if (hgI A 257 x0 0) < (hgI A 257 x1 0) then some (0 : Int32) else ((f_X6_compareParts A x0 (0 : Int32) (hgI A 257 x1 0) x1 (0 : Int32) (hgI A 257 x1 0)).bind fun v5 => (if v5 = (0 : Int32) then (if (hgI A 257 x1 0) = (hgI A 257 x0 0) then k_X6_pathMatches_70 A else ((f_X6_at A x1 ((hgI A 257 x1 0) - (1 : Int32))).bind fun v9 => (if v9 = (47 : Int32) then k_X6_pathMatches_70 A else ((f_X6_at A x0 (hgI A 257 x1 0)).bind fun v12 => (if v12 = (47 : Int32) then k_X6_pathMatches_70 A else some (0 : Int32)))))) else some (0 : Int32)))) else none else none
set_option maxRecDepth 100000 in
theorem s_X6_pathMatches {l : Launch} {g : GT} (hl : l.stackTraces = false) {A : Hp} {x0 : Nat} {x1 : Nat} {r : Int32} (h : f_X6_pathMatches A x0 x1 = some r) : MetV l g yX6_pathMatches (.code yX6_pathMatches cX6_pathMatches 2 (some .boolean)) [.inr (.inr x0), .inr (.inr x1)] A (.inl (some (.inl r))) A 2 51 0 0 := by
  refine MetV.ofV hl (by decide +kernel) (Nat.le_of_ble_eq_true rfl) (fun κ K E => ?_)
  have K : Cx κ cX6_pathMatches 2 RX6 2 51 0 0 := K
  have E : Ed κ (some .boolean) "pathMatches" (.inl (some (.inl r))) A 0 0 := E
  unfold f_X6_pathMatches at h
  change Vw κ A 0 0 0 [(0, .inr (.inr x0)), (1, .inr (.inr x1))] []
  refine Vw.aload_n (pc := 0) (x := x1) K dX6_pathMatches_0 rfl ?_
  obtain ⟨g1, h⟩ := wgd h
  refine Vw.getI (pc := 1) (k := 1) (f := 257) K cls4 rfl rfl u_1_42 g1 dX6_pathMatches_1 ?_
  refine Vw.aload_n (pc := 4) (x := x0) K dX6_pathMatches_4 rfl ?_
  obtain ⟨g2, h⟩ := wgd h
  refine Vw.getI (pc := 5) (k := 1) (f := 257) K cls4 rfl rfl u_1_42 g2 dX6_pathMatches_5 ?_
  refine Vw.icmp_gt (pc := 8) (tgt := 29) K dX6_pathMatches_8 (by decide) (fun c3 => ?_) (fun c3 => ?_)
  · have h := wpos c3 h
    refine Vw.iconst (pc := 29) (v := (0 : Int32)) K (by decide) dX6_pathMatches_29 ?_
    exact Vw.zretE (pc := 30) K (Or.inl rfl) (Option.some.inj h) rfl E (by decide) (by decide) dX6_pathMatches_30
  · have h := wneg c3 h
    refine Vw.aload_n (pc := 11) (x := x0) K dX6_pathMatches_11 rfl ?_
    refine Vw.iconst (pc := 12) (v := (0 : Int32)) K (by decide) dX6_pathMatches_12 ?_
    refine Vw.aload_n (pc := 13) (x := x1) K dX6_pathMatches_13 rfl ?_
    refine Vw.getI (pc := 14) (k := 1) (f := 257) K cls4 rfl rfl u_1_42 g1 dX6_pathMatches_14 ?_
    refine Vw.aload_n (pc := 17) (x := x1) K dX6_pathMatches_17 rfl ?_
    refine Vw.iconst (pc := 18) (v := (0 : Int32)) K (by decide) dX6_pathMatches_18 ?_
    refine Vw.aload_n (pc := 19) (x := x1) K dX6_pathMatches_19 rfl ?_
    refine Vw.getI (pc := 20) (k := 1) (f := 257) K cls4 rfl rfl u_1_42 g1 dX6_pathMatches_20 ?_
    obtain ⟨v5, e4, h⟩ := wbd h
    refine Vw.cV1 (pc := 23) (v := .inl v5) (c' := 0) (n' := 0) K (s_X6_compareParts K.tr e4) cal_X6_compareParts cls4 u_3_159 g2 rfl ⟨by decide, by decide⟩ ⟨by decide, by decide⟩ rfl (Nat.le_of_ble_eq_true rfl) dX6_pathMatches_23 rfl rfl ?_
    refine Vw.if_eq (pc := 26) (tgt := 31) K dX6_pathMatches_26 (by decide) (fun c6 => ?_) (fun c6 => ?_)
    · have h := wpos c6 h
      refine Vw.aload_n (pc := 31) (x := x1) K dX6_pathMatches_31 rfl ?_
      refine Vw.getI (pc := 32) (k := 1) (f := 257) K cls4 rfl rfl u_1_42 g1 dX6_pathMatches_32 ?_
      refine Vw.aload_n (pc := 35) (x := x0) K dX6_pathMatches_35 rfl ?_
      refine Vw.getI (pc := 36) (k := 1) (f := 257) K cls4 rfl rfl u_1_42 g2 dX6_pathMatches_36 ?_
      refine Vw.icmp_eq (pc := 39) (tgt := 70) K dX6_pathMatches_39 (by decide) (fun c7 => ?_) (fun c7 => ?_)
      · have h := wpos c7 h
        exact Vw.loc rfl (s_X6_pathMatches_70 K E  h)
      · have h := wneg c7 h
        refine Vw.aload_n (pc := 42) (x := x1) K dX6_pathMatches_42 rfl ?_
        refine Vw.aload_n (pc := 43) (x := x1) K dX6_pathMatches_43 rfl ?_
        refine Vw.getI (pc := 44) (k := 1) (f := 257) K cls4 rfl rfl u_1_42 g1 dX6_pathMatches_44 ?_
        refine Vw.iconst (pc := 47) (v := (1 : Int32)) K (by decide) dX6_pathMatches_47 ?_
        refine Vw.isub (pc := 48) K dX6_pathMatches_48 ?_
        obtain ⟨v9, e8, h⟩ := wbd h
        refine Vw.cV1 (pc := 49) (v := .inl v9) (c' := 0) (n' := 0) K (s_X6_at K.tr e8) cal_X6_at cls4 u_2_110 g1 rfl ⟨by decide, by decide⟩ ⟨by decide, by decide⟩ rfl (Nat.le_of_ble_eq_true rfl) dX6_pathMatches_49 rfl rfl ?_
        refine Vw.bipush (pc := 52) (v := (47 : Int32)) K (by decide) dX6_pathMatches_52 ?_
        refine Vw.icmp_eq (pc := 54) (tgt := 70) K dX6_pathMatches_54 (by decide) (fun c10 => ?_) (fun c10 => ?_)
        · have h := wpos c10 h
          exact Vw.loc rfl (s_X6_pathMatches_70 K E  h)
        · have h := wneg c10 h
          refine Vw.aload_n (pc := 57) (x := x0) K dX6_pathMatches_57 rfl ?_
          refine Vw.aload_n (pc := 58) (x := x1) K dX6_pathMatches_58 rfl ?_
          refine Vw.getI (pc := 59) (k := 1) (f := 257) K cls4 rfl rfl u_1_42 g1 dX6_pathMatches_59 ?_
          obtain ⟨v12, e11, h⟩ := wbd h
          refine Vw.cV1 (pc := 62) (v := .inl v12) (c' := 0) (n' := 0) K (s_X6_at K.tr e11) cal_X6_at cls4 u_2_110 g2 rfl ⟨by decide, by decide⟩ ⟨by decide, by decide⟩ rfl (Nat.le_of_ble_eq_true rfl) dX6_pathMatches_62 rfl rfl ?_
          refine Vw.bipush (pc := 65) (v := (47 : Int32)) K (by decide) dX6_pathMatches_65 ?_
          refine Vw.icmp_ne (pc := 67) (tgt := 74) K dX6_pathMatches_67 (by decide) (fun c13 => ?_) (fun c13 => ?_)
          · have h := wneg c13 h
            refine Vw.iconst (pc := 74) (v := (0 : Int32)) K (by decide) dX6_pathMatches_74 ?_
            exact Vw.zretE (pc := 75) K (Or.inl rfl) (Option.some.inj h) rfl E (by decide) (by decide) dX6_pathMatches_75
          · have h := wpos c13 h
            exact Vw.loc rfl (s_X6_pathMatches_70 K E  h)
    · have h := wneg c6 h
      refine Vw.iconst (pc := 29) (v := (0 : Int32)) K (by decide) dX6_pathMatches_29 ?_
      exact Vw.zretE (pc := 30) K (Or.inl rfl) (Option.some.inj h) rfl E (by decide) (by decide) dX6_pathMatches_30
theorem cal_X6_pathMatches : wCalV RX6 yX6_pathMatches (.code yX6_pathMatches cX6_pathMatches 2 (some .boolean)) 1 := ⟨by decide +kernel, u_4_179, u_4_180, u_1_2, u_4_181⟩
def f_X6_begins (A : Hp) (x0 : Nat) (x1 : Nat) : Option (Int32) := if (hsh A x0).1 = 5 then ((f_X6_agreement A x0 x1).bind fun v3 => if wSn x1 then ((f_J0_length_8abf5 A x1).bind fun v6 => (if v3 = v6 then some (1 : Int32) else some (0 : Int32))) else none) else none
set_option maxRecDepth 100000 in
theorem s_X6_begins {l : Launch} {g : GT} (hl : l.stackTraces = false) {A : Hp} {x0 : Nat} {x1 : Nat} {r : Int32} (h : f_X6_begins A x0 x1 = some r) : MetV l g yX6_begins (.code yX6_begins cX6_begins 2 (some .boolean)) [.inr (.inr x0), .inr (.inr x1)] A (.inl (some (.inl r))) A 5 107 0 0 := by
  refine MetV.ofV hl (by decide +kernel) (Nat.le_of_ble_eq_true rfl) (fun κ K E => ?_)
  have K : Cx κ cX6_begins 2 RX6 5 107 0 0 := K
  have E : Ed κ (some .boolean) "begins" (.inl (some (.inl r))) A 0 0 := E
  unfold f_X6_begins at h
  change Vw κ A 0 0 0 [(0, .inr (.inr x0)), (1, .inr (.inr x1))] []
  refine Vw.aload_n (pc := 0) (x := x0) K dX6_begins_0 rfl ?_
  refine Vw.aload_n (pc := 1) (x := x1) K dX6_begins_1 rfl ?_
  obtain ⟨g1, h⟩ := wgd h
  obtain ⟨v3, e2, h⟩ := wbd h
  refine Vw.cV1 (pc := 2) (v := .inl v3) (c' := 0) (n' := 0) K (s_X6_agreement K.tr e2) cal_X6_agreement cls4 u_4_28 g1 rfl ⟨by decide, by decide⟩ ⟨by decide, by decide⟩ rfl (Nat.le_of_ble_eq_true rfl) dX6_begins_2 rfl rfl ?_
  refine Vw.aload_n (pc := 5) (x := x1) K dX6_begins_5 rfl ?_
  obtain ⟨g4, h⟩ := wgd h
  obtain ⟨v6, e5, h⟩ := wbd h
  refine Vw.cStr (pc := 6) (v := .inl v6) K (s_J0_length_8abf5 K.tr e5) cal_J0_length_8abf5 u_2_100 g4 rfl ⟨by decide, by decide⟩ ⟨by decide, by decide⟩ rfl (Nat.le_of_ble_eq_true rfl) dX6_begins_6 ?_
  refine Vw.icmp_ne (pc := 9) (tgt := 16) K dX6_begins_9 (by decide) (fun c7 => ?_) (fun c7 => ?_)
  · have h := wneg c7 h
    refine Vw.iconst (pc := 16) (v := (0 : Int32)) K (by decide) dX6_begins_16 ?_
    exact Vw.zretE (pc := 17) K (Or.inl rfl) (Option.some.inj h) rfl E (by decide) (by decide) dX6_begins_17
  · have h := wpos c7 h
    refine Vw.iconst (pc := 12) (v := (1 : Int32)) K (by decide) dX6_begins_12 ?_
    refine Vw.goto (pc := 13) (tgt := 17) K dX6_begins_13 (by decide) ?_
    exact Vw.zretE (pc := 17) K (Or.inr rfl) (Option.some.inj h) rfl E (by decide) (by decide) dX6_begins_17
theorem cal_X6_begins : wCalV RX6 yX6_begins (.code yX6_begins cX6_begins 2 (some .boolean)) 1 := ⟨by decide +kernel, u_4_184, u_4_185, u_1_2, u_4_186⟩
def k_X6_append_2s  (x0 : Nat) (x1 : Nat)  (rec2 : Hp → Int32 → Option (Hp)) (A : Hp) (x2 : Int32) : Option (Hp) := if (hsh A x1).1 = 5 then (if (hgI A 257 x1 0) ≤ x2 then some A else ((f_X6_at A x1 x2).bind fun v4 => if (hsh A x0).1 = 5 then ((f_X6_add A x0 v4).bind fun A7 => rec2 A7 (x2 + (1 : Int32))) else none)) else none
def k_X6_append_2  (x0 : Nat) (x1 : Nat)  : Nat → Hp → Int32 → Option (Hp)
  | 0 => fun _ _ => none
  | fu + 1 => k_X6_append_2s x0 x1  (k_X6_append_2 x0 x1  fu)
set_option maxRecDepth 100000 in
theorem s_X6_append_2 {κ : KT} {B : Hp}  {x0 : Nat} {x1 : Nat}  (K : Cx κ cX6_append 3 RX6 1 21 0 0) (E : Ed κ none "append" (.inl none) B 0 0)  : ∀ (fu : Nat) (A : Hp) (x2 : Int32),  k_X6_append_2 x0 x1  fu A x2 = some B → Vw κ A 0 0 2 [(0, .inr (.inr x0)), (1, .inr (.inr x1)), (2, .inl x2)] [] := by
  intro fu
  induction fu with
  | zero => intro A x2 h; cases h
  | succ fu hr2 =>
    intro A x2 h
    have h : k_X6_append_2s x0 x1  (k_X6_append_2 x0 x1  fu) A x2 = some B := h
    unfold k_X6_append_2s at h
    refine Vw.iload_n (pc := 2) (x := x2) K dX6_append_2 rfl ?_
    refine Vw.aload_n (pc := 3) (x := x1) K dX6_append_3 rfl ?_
    obtain ⟨g1, h⟩ := wgd h
    refine Vw.getI (pc := 4) (k := 1) (f := 257) K cls4 rfl rfl u_1_42 g1 dX6_append_4 ?_
    refine Vw.icmp_ge (pc := 7) (tgt := 25) K dX6_append_7 (by decide) (fun c2 => ?_) (fun c2 => ?_)
    · have h := wpos c2 h
      exact Vw.vretE (pc := 25) K (Option.some.inj h) E (by decide) (by decide) dX6_append_25
    · have h := wneg c2 h
      refine Vw.aload_n (pc := 10) (x := x0) K dX6_append_10 rfl ?_
      refine Vw.aload_n (pc := 11) (x := x1) K dX6_append_11 rfl ?_
      refine Vw.iload_n (pc := 12) (x := x2) K dX6_append_12 rfl ?_
      obtain ⟨v4, e3, h⟩ := wbd h
      refine Vw.cV1 (pc := 13) (v := .inl v4) (c' := 0) (n' := 0) K (s_X6_at K.tr e3) cal_X6_at cls4 u_2_110 g1 rfl ⟨by decide, by decide⟩ ⟨by decide, by decide⟩ rfl (Nat.le_of_ble_eq_true rfl) dX6_append_13 rfl rfl ?_
      obtain ⟨g5, h⟩ := wgd h
      obtain ⟨A7, e6, h⟩ := wbd h
      refine Vw.cV0 (pc := 16) (c' := 0) (n' := 0) K (s_X6_add K.tr e6) cal_X6_add cls4 u_2_182 g5 rfl ⟨by decide, by decide⟩ ⟨by decide, by decide⟩ rfl (Nat.le_of_ble_eq_true rfl) dX6_append_16 rfl rfl ?_
      refine Vw.iinc (pc := 19) (x := x2) (v := (1 : Int32)) K dX6_append_19 rfl (by decide) (by decide) ?_
      refine Vw.goto (pc := 22) (tgt := 2) K dX6_append_22 (by decide) ?_
      exact Vw.loc rfl (hr2 _ _ h)
def f_X6_append (A : Hp) (x0 : Nat) (x1 : Nat) : Option (Hp) := k_X6_append_2 x0 x1 FU A (0 : Int32)
set_option maxRecDepth 100000 in
theorem s_X6_append {l : Launch} {g : GT} (hl : l.stackTraces = false) {A : Hp} {x0 : Nat} {x1 : Nat} {B : Hp} (h : f_X6_append A x0 x1 = some B) : MetV l g yX6_append (.code yX6_append cX6_append 3 none) [.inr (.inr x0), .inr (.inr x1)] A (.inl none) B 1 21 0 0 := by
  refine MetV.ofV hl (by decide +kernel) (Nat.le_of_ble_eq_true rfl) (fun κ K E => ?_)
  have K : Cx κ cX6_append 3 RX6 1 21 0 0 := K
  have E : Ed κ none "append" (.inl none) B 0 0 := E
  unfold f_X6_append at h
  change Vw κ A 0 0 0 [(0, .inr (.inr x0)), (1, .inr (.inr x1))] []
  refine Vw.iconst (pc := 0) (v := (0 : Int32)) K (by decide) dX6_append_0 ?_
  refine Vw.istore_n (pc := 1) K dX6_append_1 (by decide) ?_
  exact Vw.loc rfl (s_X6_append_2 K E  _ _ _ h)
theorem cal_X6_append : wCalV RX6 yX6_append (.code yX6_append cX6_append 3 none) 1 := ⟨by decide +kernel, u_5_30, u_5_31, u_1_2, u_5_32⟩
def k_X6_mix_5s (A : Hp) (x0 : Nat)  (rec5 : Int64 → Int32 → Option (Int64))  (x3 : Int64) (x5 : Int32) : Option (Int64) := if (hsh A x0).1 = 5 then (if (hgI A 257 x0 0) ≤ x5 then some x3 else ((f_X6_at A x0 x5).bind fun v4 => rec5 (((31 : Int64) * x3) + v4.toInt64) (x5 + (1 : Int32)))) else none
def k_X6_mix_5 (A : Hp) (x0 : Nat)  : Nat → Int64 → Int32 → Option (Int64)
  | 0 => fun _ _ => none
  | fu + 1 => k_X6_mix_5s A x0  (k_X6_mix_5 A x0  fu)
set_option maxRecDepth 100000 in
theorem s_X6_mix_5 {κ : KT} {r : Int64} {A : Hp} {x0 : Nat}  (K : Cx κ cX6_mix 6 RX6 1 21 0 0) (E : Ed κ (some .long) "mix" (.inl (some (.inr (.inl r)))) A 0 0)  : ∀ (fu : Nat)  (x3 : Int64) (x5 : Int32),  k_X6_mix_5 A x0  fu x3 x5 = some r → Vw κ A 0 0 5 [(0, .inr (.inr x0)), (3, .inr (.inl x3)), (5, .inl x5)] [] := by
  intro fu
  induction fu with
  | zero => intro x3 x5 h; cases h
  | succ fu hr5 =>
    intro x3 x5 h
    have h : k_X6_mix_5s A x0  (k_X6_mix_5 A x0  fu) x3 x5 = some r := h
    unfold k_X6_mix_5s at h
    refine Vw.iload (pc := 5) (x := x5) K dX6_mix_5 rfl ?_
    refine Vw.aload_n (pc := 7) (x := x0) K dX6_mix_7 rfl ?_
    obtain ⟨g1, h⟩ := wgd h
    refine Vw.getI (pc := 8) (k := 1) (f := 257) K cls4 rfl rfl u_1_42 g1 dX6_mix_8 ?_
    refine Vw.icmp_ge (pc := 11) (tgt := 34) K dX6_mix_11 (by decide) (fun c2 => ?_) (fun c2 => ?_)
    · have h := wpos c2 h
      refine Vw.lload_n (pc := 34) (x := x3) K dX6_mix_34 rfl ?_
      exact Vw.lretE (pc := 35) K (Option.some.inj h) rfl E (by decide) (by decide) dX6_mix_35
    · have h := wneg c2 h
      refine Vw.ldc2 (pc := 14) (v := (31 : Int64)) K u_3_23 dX6_mix_14 ?_
      refine Vw.lload_n (pc := 17) (x := x3) K dX6_mix_17 rfl ?_
      refine Vw.lmul (pc := 18) K dX6_mix_18 ?_
      refine Vw.aload_n (pc := 19) (x := x0) K dX6_mix_19 rfl ?_
      refine Vw.iload (pc := 20) (x := x5) K dX6_mix_20 rfl ?_
      obtain ⟨v4, e3, h⟩ := wbd h
      refine Vw.cV1 (pc := 22) (v := .inl v4) (c' := 0) (n' := 0) K (s_X6_at K.tr e3) cal_X6_at cls4 u_2_110 g1 rfl ⟨by decide, by decide⟩ ⟨by decide, by decide⟩ rfl (Nat.le_of_ble_eq_true rfl) dX6_mix_22 rfl rfl ?_
      refine Vw.i2l (pc := 25) K dX6_mix_25 ?_
      refine Vw.ladd (pc := 26) K dX6_mix_26 ?_
      refine Vw.lstore_n (pc := 27) K dX6_mix_27 (by decide) ?_
      refine Vw.iinc (pc := 28) (x := x5) (v := (1 : Int32)) K dX6_mix_28 rfl (by decide) (by decide) ?_
      refine Vw.goto (pc := 31) (tgt := 5) K dX6_mix_31 (by decide) ?_
      exact Vw.loc rfl (hr5 _ _ h)
def f_X6_mix (A : Hp) (x0 : Nat) (x1 : Int64) : Option (Int64) := k_X6_mix_5 A x0 FU x1 (0 : Int32)
set_option maxRecDepth 100000 in
theorem s_X6_mix {l : Launch} {g : GT} (hl : l.stackTraces = false) {A : Hp} {x0 : Nat} {x1 : Int64} {r : Int64} (h : f_X6_mix A x0 x1 = some r) : MetV l g yX6_mix (.code yX6_mix cX6_mix 6 (some .long)) [.inr (.inr x0), .inr (.inl x1)] A (.inl (some (.inr (.inl r)))) A 1 21 0 0 := by
  refine MetV.ofV hl (by decide +kernel) (Nat.le_of_ble_eq_true rfl) (fun κ K E => ?_)
  have K : Cx κ cX6_mix 6 RX6 1 21 0 0 := K
  have E : Ed κ (some .long) "mix" (.inl (some (.inr (.inl r)))) A 0 0 := E
  unfold f_X6_mix at h
  change Vw κ A 0 0 0 [(0, .inr (.inr x0)), (1, .inr (.inl x1))] []
  refine Vw.lload_n (pc := 0) (x := x1) K dX6_mix_0 rfl ?_
  refine Vw.lstore_n (pc := 1) K dX6_mix_1 (by decide) ?_
  refine Vw.iconst (pc := 2) (v := (0 : Int32)) K (by decide) dX6_mix_2 ?_
  refine Vw.istore (pc := 3) K dX6_mix_3 (by decide) ?_
  exact Vw.loc rfl (s_X6_mix_5 K E  _ _ _ h)
theorem cal_X6_mix : wCalV RX6 yX6_mix (.code yX6_mix cX6_mix 6 (some .long)) 1 := ⟨by decide +kernel, u_3_20, u_3_21, u_1_2, u_3_22⟩
