def k_X4_dropSite_41 (rec12 : Hp → Int32 → Option (Int32 × Hp)) (A : Hp) (x0 : Nat) (x1 : Nat) (x2 : Int32) (x3 : Int32)  : Option (Int32 × Hp) := rec12 A (x3 + (-1 : Int32))
set_option maxRecDepth 100000 in
theorem s_X4_dropSite_41 {κ : KT} {r : Int32} {B : Hp} {A : Hp} {x0 : Nat} {x1 : Nat} {x2 : Int32} {x3 : Int32}  {rec12 : Hp → Int32 → Option (Int32 × Hp)} (K : Cx κ cX4_dropSite 4 RX4 5 111 0 0) (E : Ed κ (some .int) "dropSite" (.inl (some (.inl r))) B 0 0) (hr12 : ∀ (A : Hp) (x3 : Int32), rec12 A x3 = some (r, B) → Vw κ A 0 0 12 [(0, .inr (.inr x0)), (1, .inr (.inr x1)), (2, .inl x2), (3, .inl x3)] []) (h : k_X4_dropSite_41 rec12 A x0 x1 x2 x3  = some (r, B)) : Vw κ A 0 0 41 [(0, .inr (.inr x0)), (1, .inr (.inr x1)), (2, .inl x2), (3, .inl x3)] [] := by
  unfold k_X4_dropSite_41 at h
  refine Vw.iinc (pc := 41) (x := x3) (v := (-1 : Int32)) K dX4_dropSite_41 rfl (by decide) (by decide) ?_
  refine Vw.goto (pc := 44) (tgt := 12) K dX4_dropSite_44 (by decide) ?_
  exact Vw.loc rfl (hr12 _ _ h)
def k_X4_dropSite_12s  (x0 : Nat) (x1 : Nat) (x2 : Int32)  (rec12 : Hp → Int32 → Option (Int32 × Hp)) (A : Hp) (x3 : Int32) : Option (Int32 × Hp) := (if x3 < (0 : Int32) then if (hsh A x0).1 = 3 then some ((x2 - (hgI A 129 x0 0)), A) else none else if (hsh A x0).1 = 3 then if (hsh A (hgR A 128 x0 0)).1 = 13 then if wix x3 (hsh A (hgR A 128 x0 0)).2 then if (hsh A (hgR A 1037 (hgR A 128 x0 0) x3.toNatClampNeg)).1 = 2 then if (hsh A (hgR A 132 x0 0)).1 = 6 then ((f_X7_sameSites A (hgR A 132 x0 0) (hgR A 66 (hgR A 1037 (hgR A 128 x0 0) x3.toNatClampNeg) 0) x1).bind fun v9 => (if v9 = (0 : Int32) then k_X4_dropSite_41 rec12 A x0 x1 x2 x3 else ((f_X4_drop A x0 x3).bind fun A12 => k_X4_dropSite_41 rec12 A12 x0 x1 x2 x3))) else none else none else none else none else none)
def k_X4_dropSite_12  (x0 : Nat) (x1 : Nat) (x2 : Int32)  : Nat → Hp → Int32 → Option (Int32 × Hp)
  | 0 => fun _ _ => none
  | fu + 1 => k_X4_dropSite_12s x0 x1 x2  (k_X4_dropSite_12 x0 x1 x2  fu)
set_option maxRecDepth 100000 in
theorem s_X4_dropSite_12 {κ : KT} {r : Int32} {B : Hp}  {x0 : Nat} {x1 : Nat} {x2 : Int32}  (K : Cx κ cX4_dropSite 4 RX4 5 111 0 0) (E : Ed κ (some .int) "dropSite" (.inl (some (.inl r))) B 0 0)  : ∀ (fu : Nat) (A : Hp) (x3 : Int32),  k_X4_dropSite_12 x0 x1 x2  fu A x3 = some (r, B) → Vw κ A 0 0 12 [(0, .inr (.inr x0)), (1, .inr (.inr x1)), (2, .inl x2), (3, .inl x3)] [] := by
  intro fu
  induction fu with
  | zero => intro A x3 h; cases h
  | succ fu hr12 =>
    intro A x3 h
    have h : k_X4_dropSite_12s x0 x1 x2  (k_X4_dropSite_12 x0 x1 x2  fu) A x3 = some (r, B) := h
    unfold k_X4_dropSite_12s at h
    refine Vw.iload_n (pc := 12) (x := x3) K dX4_dropSite_12 rfl ?_
    refine Vw.if_lt (pc := 13) (tgt := 47) K dX4_dropSite_13 (by decide) (fun c1 => ?_) (fun c1 => ?_)
    · have h := wpos c1 h
      refine Vw.iload_n (pc := 47) (x := x2) K dX4_dropSite_47 rfl ?_
      refine Vw.aload_n (pc := 48) (x := x0) K dX4_dropSite_48 rfl ?_
      obtain ⟨g2, h⟩ := wgd h
      refine Vw.getI (pc := 49) (k := 1) (f := 129) K cls2 rfl rfl u_2_7 g2 dX4_dropSite_49 ?_
      refine Vw.isub (pc := 52) K dX4_dropSite_52 ?_
      exact Vw.iretH (pc := 53) K h E (by decide) (by decide) dX4_dropSite_53
    · have h := wneg c1 h
      refine Vw.aload_n (pc := 16) (x := x0) K dX4_dropSite_16 rfl ?_
      obtain ⟨g3, h⟩ := wgd h
      refine Vw.getR (pc := 17) (k := 4) (f := 132) K cls2 rfl rfl u_2_11 g3 dX4_dropSite_17 ?_
      refine Vw.aload_n (pc := 20) (x := x0) K dX4_dropSite_20 rfl ?_
      refine Vw.getR (pc := 21) (k := 0) (f := 128) K cls2 rfl rfl u_2_5 g3 dX4_dropSite_21 ?_
      refine Vw.iload_n (pc := 24) (x := x3) K dX4_dropSite_24 rfl ?_
      obtain ⟨g4, h⟩ := wgd h
      obtain ⟨g5, h⟩ := wgd h
      refine Vw.aaloadC (pc := 25) K g4 g5 dX4_dropSite_25 ?_
      obtain ⟨g6, h⟩ := wgd h
      refine Vw.getR (pc := 26) (k := 2) (f := 66) K cls1 rfl rfl u_1_139 g6 dX4_dropSite_26 ?_
      refine Vw.aload_n (pc := 29) (x := x1) K dX4_dropSite_29 rfl ?_
      obtain ⟨g7, h⟩ := wgd h
      obtain ⟨v9, e8, h⟩ := wbd h
      refine Vw.cV1 (pc := 30) (v := .inl v9) (c' := 0) (n' := 0) K (s_X7_sameSites K.tr e8) cal_X7_sameSites cls5 u_3_135 g7 rfl ⟨by decide, by decide⟩ ⟨by decide, by decide⟩ rfl (Nat.le_of_ble_eq_true rfl) dX4_dropSite_30 rfl rfl ?_
      refine Vw.if_eq (pc := 33) (tgt := 41) K dX4_dropSite_33 (by decide) (fun c10 => ?_) (fun c10 => ?_)
      · have h := wpos c10 h
        exact Vw.loc rfl (s_X4_dropSite_41 K E hr12 h)
      · have h := wneg c10 h
        refine Vw.aload_n (pc := 36) (x := x0) K dX4_dropSite_36 rfl ?_
        refine Vw.iload_n (pc := 37) (x := x3) K dX4_dropSite_37 rfl ?_
        obtain ⟨A12, e11, h⟩ := wbd h
        refine Vw.cV0 (pc := 38) (c' := 0) (n' := 0) K (s_X4_drop K.tr e11) cal_X4_drop cls2 u_2_205 g3 rfl ⟨by decide, by decide⟩ ⟨by decide, by decide⟩ rfl (Nat.le_of_ble_eq_true rfl) dX4_dropSite_38 rfl rfl ?_
        exact Vw.loc rfl (s_X4_dropSite_41 K E hr12 h)
def f_X4_dropSite (A : Hp) (x0 : Nat) (x1 : Nat) : Option (Int32 × Hp) := if (hsh A x0).1 = 3 then k_X4_dropSite_12 x0 x1 (hgI A 129 x0 0) FU A ((hgI A 129 x0 0) - (1 : Int32)) else none
set_option maxRecDepth 100000 in
theorem s_X4_dropSite {l : Launch} {g : GT} (hl : l.stackTraces = false) {A : Hp} {x0 : Nat} {x1 : Nat} {r : Int32} {B : Hp} (h : f_X4_dropSite A x0 x1 = some (r, B)) : MetV l g yX4_dropSite (.code yX4_dropSite cX4_dropSite 4 (some .int)) [.inr (.inr x0), .inr (.inr x1)] A (.inl (some (.inl r))) B 5 111 0 0 := by
  refine MetV.ofV hl (by decide +kernel) (Nat.le_of_ble_eq_true rfl) (fun κ K E => ?_)
  have K : Cx κ cX4_dropSite 4 RX4 5 111 0 0 := K
  have E : Ed κ (some .int) "dropSite" (.inl (some (.inl r))) B 0 0 := E
  unfold f_X4_dropSite at h
  change Vw κ A 0 0 0 [(0, .inr (.inr x0)), (1, .inr (.inr x1))] []
  refine Vw.aload_n (pc := 0) (x := x0) K dX4_dropSite_0 rfl ?_
  obtain ⟨g13, h⟩ := wgd h
  refine Vw.getI (pc := 1) (k := 1) (f := 129) K cls2 rfl rfl u_2_7 g13 dX4_dropSite_1 ?_
  refine Vw.istore_n (pc := 4) K dX4_dropSite_4 (by decide) ?_
  refine Vw.aload_n (pc := 5) (x := x0) K dX4_dropSite_5 rfl ?_
  refine Vw.getI (pc := 6) (k := 1) (f := 129) K cls2 rfl rfl u_2_7 g13 dX4_dropSite_6 ?_
  refine Vw.iconst (pc := 9) (v := (1 : Int32)) K (by decide) dX4_dropSite_9 ?_
  refine Vw.isub (pc := 10) K dX4_dropSite_10 ?_
  refine Vw.istore_n (pc := 11) K dX4_dropSite_11 (by decide) ?_
  exact Vw.loc rfl (s_X4_dropSite_12 K E  _ _ _ h)
theorem cal_X4_dropSite : wCalV RX4 yX4_dropSite (.code yX4_dropSite cX4_dropSite 4 (some .int)) 1 := ⟨by decide +kernel, u_5_176, u_5_177, u_1_5, u_5_178⟩
def k_X4_dropSession_37 (rec12 : Hp → Int32 → Option (Int32 × Hp)) (A : Hp) (x0 : Nat) (x1 : Int32) (x2 : Int32)  : Option (Int32 × Hp) := rec12 A (x2 + (-1 : Int32))
set_option maxRecDepth 100000 in
theorem s_X4_dropSession_37 {κ : KT} {r : Int32} {B : Hp} {A : Hp} {x0 : Nat} {x1 : Int32} {x2 : Int32}  {rec12 : Hp → Int32 → Option (Int32 × Hp)} (K : Cx κ cX4_dropSession 3 RX4 1 23 0 0) (E : Ed κ (some .int) "dropSession" (.inl (some (.inl r))) B 0 0) (hr12 : ∀ (A : Hp) (x2 : Int32), rec12 A x2 = some (r, B) → Vw κ A 0 0 12 [(0, .inr (.inr x0)), (1, .inl x1), (2, .inl x2)] []) (h : k_X4_dropSession_37 rec12 A x0 x1 x2  = some (r, B)) : Vw κ A 0 0 37 [(0, .inr (.inr x0)), (1, .inl x1), (2, .inl x2)] [] := by
  unfold k_X4_dropSession_37 at h
  refine Vw.iinc (pc := 37) (x := x2) (v := (-1 : Int32)) K dX4_dropSession_37 rfl (by decide) (by decide) ?_
  refine Vw.goto (pc := 40) (tgt := 12) K dX4_dropSession_40 (by decide) ?_
  exact Vw.loc rfl (hr12 _ _ h)
def k_X4_dropSession_12s  (x0 : Nat) (x1 : Int32)  (rec12 : Hp → Int32 → Option (Int32 × Hp)) (A : Hp) (x2 : Int32) : Option (Int32 × Hp) := (if x2 < (0 : Int32) then if (hsh A x0).1 = 3 then some ((x1 - (hgI A 129 x0 0)), A) else none else if (hsh A x0).1 = 3 then if (hsh A (hgR A 128 x0 0)).1 = 13 then if wix x2 (hsh A (hgR A 128 x0 0)).2 then if (hsh A (hgR A 1037 (hgR A 128 x0 0) x2.toNatClampNeg)).1 = 2 then (if (hgL A 68 (hgR A 1037 (hgR A 128 x0 0) x2.toNatClampNeg) 0) = (-1 : Int64) then ((f_X4_drop A x0 x2).bind fun A9 => k_X4_dropSession_37 rec12 A9 x0 x1 x2) else k_X4_dropSession_37 rec12 A x0 x1 x2) else none else none else none else none)
def k_X4_dropSession_12  (x0 : Nat) (x1 : Int32)  : Nat → Hp → Int32 → Option (Int32 × Hp)
  | 0 => fun _ _ => none
  | fu + 1 => k_X4_dropSession_12s x0 x1  (k_X4_dropSession_12 x0 x1  fu)
set_option maxRecDepth 100000 in
theorem s_X4_dropSession_12 {κ : KT} {r : Int32} {B : Hp}  {x0 : Nat} {x1 : Int32}  (K : Cx κ cX4_dropSession 3 RX4 1 23 0 0) (E : Ed κ (some .int) "dropSession" (.inl (some (.inl r))) B 0 0)  : ∀ (fu : Nat) (A : Hp) (x2 : Int32),  k_X4_dropSession_12 x0 x1  fu A x2 = some (r, B) → Vw κ A 0 0 12 [(0, .inr (.inr x0)), (1, .inl x1), (2, .inl x2)] [] := by
  intro fu
  induction fu with
  | zero => intro A x2 h; cases h
  | succ fu hr12 =>
    intro A x2 h
    have h : k_X4_dropSession_12s x0 x1  (k_X4_dropSession_12 x0 x1  fu) A x2 = some (r, B) := h
    unfold k_X4_dropSession_12s at h
    refine Vw.iload_n (pc := 12) (x := x2) K dX4_dropSession_12 rfl ?_
    refine Vw.if_lt (pc := 13) (tgt := 43) K dX4_dropSession_13 (by decide) (fun c1 => ?_) (fun c1 => ?_)
    · have h := wpos c1 h
      refine Vw.iload_n (pc := 43) (x := x1) K dX4_dropSession_43 rfl ?_
      refine Vw.aload_n (pc := 44) (x := x0) K dX4_dropSession_44 rfl ?_
      obtain ⟨g2, h⟩ := wgd h
      refine Vw.getI (pc := 45) (k := 1) (f := 129) K cls2 rfl rfl u_2_7 g2 dX4_dropSession_45 ?_
      refine Vw.isub (pc := 48) K dX4_dropSession_48 ?_
      exact Vw.iretH (pc := 49) K h E (by decide) (by decide) dX4_dropSession_49
    · have h := wneg c1 h
      refine Vw.aload_n (pc := 16) (x := x0) K dX4_dropSession_16 rfl ?_
      obtain ⟨g3, h⟩ := wgd h
      refine Vw.getR (pc := 17) (k := 0) (f := 128) K cls2 rfl rfl u_2_5 g3 dX4_dropSession_17 ?_
      refine Vw.iload_n (pc := 20) (x := x2) K dX4_dropSession_20 rfl ?_
      obtain ⟨g4, h⟩ := wgd h
      obtain ⟨g5, h⟩ := wgd h
      refine Vw.aaloadC (pc := 21) K g4 g5 dX4_dropSession_21 ?_
      obtain ⟨g6, h⟩ := wgd h
      refine Vw.getL (pc := 22) (k := 4) (f := 68) K cls1 rfl rfl u_1_145 g6 dX4_dropSession_22 ?_
      refine Vw.ldc2 (pc := 25) (v := (-1 : Int64)) K u_2_204 dX4_dropSession_25 ?_
      refine Vw.lcmp_ne (pc := 28) (tgt := 37) K dX4_dropSession_28 dX4_dropSession_29 (by decide) (fun c7 => ?_) (fun c7 => ?_)
      · have h := wneg c7 h
        exact Vw.loc rfl (s_X4_dropSession_37 K E hr12 h)
      · have h := wpos c7 h
        refine Vw.aload_n (pc := 32) (x := x0) K dX4_dropSession_32 rfl ?_
        refine Vw.iload_n (pc := 33) (x := x2) K dX4_dropSession_33 rfl ?_
        obtain ⟨A9, e8, h⟩ := wbd h
        refine Vw.cV0 (pc := 34) (c' := 0) (n' := 0) K (s_X4_drop K.tr e8) cal_X4_drop cls2 u_2_205 g3 rfl ⟨by decide, by decide⟩ ⟨by decide, by decide⟩ rfl (Nat.le_of_ble_eq_true rfl) dX4_dropSession_34 rfl rfl ?_
        exact Vw.loc rfl (s_X4_dropSession_37 K E hr12 h)
def f_X4_dropSession (A : Hp) (x0 : Nat) : Option (Int32 × Hp) := if (hsh A x0).1 = 3 then k_X4_dropSession_12 x0 (hgI A 129 x0 0) FU A ((hgI A 129 x0 0) - (1 : Int32)) else none
set_option maxRecDepth 100000 in
theorem s_X4_dropSession {l : Launch} {g : GT} (hl : l.stackTraces = false) {A : Hp} {x0 : Nat} {r : Int32} {B : Hp} (h : f_X4_dropSession A x0 = some (r, B)) : MetV l g yX4_dropSession (.code yX4_dropSession cX4_dropSession 3 (some .int)) [.inr (.inr x0)] A (.inl (some (.inl r))) B 1 23 0 0 := by
  refine MetV.ofV hl (by decide +kernel) (Nat.le_of_ble_eq_true rfl) (fun κ K E => ?_)
  have K : Cx κ cX4_dropSession 3 RX4 1 23 0 0 := K
  have E : Ed κ (some .int) "dropSession" (.inl (some (.inl r))) B 0 0 := E
  unfold f_X4_dropSession at h
  change Vw κ A 0 0 0 [(0, .inr (.inr x0))] []
  refine Vw.aload_n (pc := 0) (x := x0) K dX4_dropSession_0 rfl ?_
  obtain ⟨g10, h⟩ := wgd h
  refine Vw.getI (pc := 1) (k := 1) (f := 129) K cls2 rfl rfl u_2_7 g10 dX4_dropSession_1 ?_
  refine Vw.istore_n (pc := 4) K dX4_dropSession_4 (by decide) ?_
  refine Vw.aload_n (pc := 5) (x := x0) K dX4_dropSession_5 rfl ?_
  refine Vw.getI (pc := 6) (k := 1) (f := 129) K cls2 rfl rfl u_2_7 g10 dX4_dropSession_6 ?_
  refine Vw.iconst (pc := 9) (v := (1 : Int32)) K (by decide) dX4_dropSession_9 ?_
  refine Vw.isub (pc := 10) K dX4_dropSession_10 ?_
  refine Vw.istore_n (pc := 11) K dX4_dropSession_11 (by decide) ?_
  exact Vw.loc rfl (s_X4_dropSession_12 K E  _ _ _ h)
theorem cal_X4_dropSession : wCalV RX4 yX4_dropSession (.code yX4_dropSession cX4_dropSession 3 (some .int)) 0 := ⟨by decide +kernel, u_2_201, u_2_202, u_1_5, u_2_203⟩
def k_X4_pass_65 (rec23 : Hp → Int32 → Option (Int32 × Hp)) (A : Hp) (x0 : Nat) (x2 : Int32) (x3 : Int32)  : Option (Int32 × Hp) := rec23 A (x3 + (-1 : Int32))
set_option maxRecDepth 100000 in
theorem s_X4_pass_65 {κ : KT} {r : Int32} {B : Hp} {A : Hp} {x0 : Nat} {x2 : Int32} {x3 : Int32}  {rec23 : Hp → Int32 → Option (Int32 × Hp)} (K : Cx κ cX4_pass 4 RX4 1 23 0 0) (E : Ed κ (some .int) "pass" (.inl (some (.inl r))) B 0 0) (hr23 : ∀ (A : Hp) (x3 : Int32), rec23 A x3 = some (r, B) → Vw κ A 0 0 23 [(0, .inr (.inr x0)), (2, .inl x2), (3, .inl x3)] []) (h : k_X4_pass_65 rec23 A x0 x2 x3  = some (r, B)) : Vw κ A 0 0 65 [(0, .inr (.inr x0)), (2, .inl x2), (3, .inl x3)] [] := by
  unfold k_X4_pass_65 at h
  refine Vw.iinc (pc := 65) (x := x3) (v := (-1 : Int32)) K dX4_pass_65 rfl (by decide) (by decide) ?_
  refine Vw.goto (pc := 68) (tgt := 23) K dX4_pass_68 (by decide) ?_
  exact Vw.loc rfl (hr23 _ _ h)
def k_X4_pass_23s  (x0 : Nat) (x2 : Int32)  (rec23 : Hp → Int32 → Option (Int32 × Hp)) (A : Hp) (x3 : Int32) : Option (Int32 × Hp) := (if x3 < (0 : Int32) then if (hsh A x0).1 = 3 then if (hsh A (hgR A 137 x0 0)).1 = 10 then if wix (3 : Int32) (hsh A (hgR A 137 x0 0)).2 then some ((x2 - (hgI (hsI A 1034 (hgR A 137 x0 0) (3 : Int32).toNatClampNeg ((hgI A 1034 (hgR A 137 x0 0) (3 : Int32).toNatClampNeg) + (x2 - (hgI A 129 x0 0)))) 129 x0 0)), (hsI A 1034 (hgR A 137 x0 0) (3 : Int32).toNatClampNeg ((hgI A 1034 (hgR A 137 x0 0) (3 : Int32).toNatClampNeg) + (x2 - (hgI A 129 x0 0))))) else none else none else none else if (hsh A x0).1 = 3 then if (hsh A (hgR A 128 x0 0)).1 = 13 then if wix x3 (hsh A (hgR A 128 x0 0)).2 then if (hsh A (hgR A 1037 (hgR A 128 x0 0) x3.toNatClampNeg)).1 = 2 then (if (hgL A 68 (hgR A 1037 (hgR A 128 x0 0) x3.toNatClampNeg) 0) = (-1 : Int64) then k_X4_pass_65 rec23 A x0 x2 x3 else (if (hgL A 140 x0 0) < (hgL A 68 (hgR A 1037 (hgR A 128 x0 0) x3.toNatClampNeg) 0) then k_X4_pass_65 rec23 A x0 x2 x3 else ((f_X4_drop A x0 x3).bind fun A12 => k_X4_pass_65 rec23 A12 x0 x2 x3))) else none else none else none else none)
def k_X4_pass_23  (x0 : Nat) (x2 : Int32)  : Nat → Hp → Int32 → Option (Int32 × Hp)
  | 0 => fun _ _ => none
  | fu + 1 => k_X4_pass_23s x0 x2  (k_X4_pass_23 x0 x2  fu)
set_option maxRecDepth 100000 in
theorem s_X4_pass_23 {κ : KT} {r : Int32} {B : Hp}  {x0 : Nat} {x2 : Int32}  (K : Cx κ cX4_pass 4 RX4 1 23 0 0) (E : Ed κ (some .int) "pass" (.inl (some (.inl r))) B 0 0)  : ∀ (fu : Nat) (A : Hp) (x3 : Int32),  k_X4_pass_23 x0 x2  fu A x3 = some (r, B) → Vw κ A 0 0 23 [(0, .inr (.inr x0)), (2, .inl x2), (3, .inl x3)] [] := by
  intro fu
  induction fu with
  | zero => intro A x3 h; cases h
  | succ fu hr23 =>
    intro A x3 h
    have h : k_X4_pass_23s x0 x2  (k_X4_pass_23 x0 x2  fu) A x3 = some (r, B) := h
    unfold k_X4_pass_23s at h
    refine Vw.iload_n (pc := 23) (x := x3) K dX4_pass_23 rfl ?_
    refine Vw.if_lt (pc := 24) (tgt := 71) K dX4_pass_24 (by decide) (fun c1 => ?_) (fun c1 => ?_)
    · have h := wpos c1 h
      refine Vw.aload_n (pc := 71) (x := x0) K dX4_pass_71 rfl ?_
      obtain ⟨g2, h⟩ := wgd h
      refine Vw.getR (pc := 72) (k := 9) (f := 137) K cls2 rfl rfl u_2_21 g2 dX4_pass_72 ?_
      refine Vw.iconst (pc := 75) (v := (3 : Int32)) K (by decide) dX4_pass_75 ?_
      refine Vw.dup2 (pc := 76) K rfl rfl dX4_pass_76 ?_
      obtain ⟨g3, h⟩ := wgd h
      obtain ⟨g4, h⟩ := wgd h
      refine Vw.iaload (pc := 77) K g3 g4 dX4_pass_77 ?_
      refine Vw.iload_n (pc := 78) (x := x2) K dX4_pass_78 rfl ?_
      refine Vw.aload_n (pc := 79) (x := x0) K dX4_pass_79 rfl ?_
      refine Vw.getI (pc := 80) (k := 1) (f := 129) K cls2 rfl rfl u_2_7 g2 dX4_pass_80 ?_
      refine Vw.isub (pc := 83) K dX4_pass_83 ?_
      refine Vw.iadd (pc := 84) K dX4_pass_84 ?_
      refine Vw.iastore (pc := 85) K g3 g4 dX4_pass_85 ?_
      refine Vw.iload_n (pc := 86) (x := x2) K dX4_pass_86 rfl ?_
      refine Vw.aload_n (pc := 87) (x := x0) K dX4_pass_87 rfl ?_
      refine Vw.getI (pc := 88) (k := 1) (f := 129) K cls2 rfl rfl u_2_7 g2 dX4_pass_88 ?_
      refine Vw.isub (pc := 91) K dX4_pass_91 ?_
      exact Vw.iretH (pc := 92) K h E (by decide) (by decide) dX4_pass_92
    · have h := wneg c1 h
      refine Vw.aload_n (pc := 27) (x := x0) K dX4_pass_27 rfl ?_
      obtain ⟨g5, h⟩ := wgd h
      refine Vw.getR (pc := 28) (k := 0) (f := 128) K cls2 rfl rfl u_2_5 g5 dX4_pass_28 ?_
      refine Vw.iload_n (pc := 31) (x := x3) K dX4_pass_31 rfl ?_
      obtain ⟨g6, h⟩ := wgd h
      obtain ⟨g7, h⟩ := wgd h
      refine Vw.aaloadC (pc := 32) K g6 g7 dX4_pass_32 ?_
      obtain ⟨g8, h⟩ := wgd h
      refine Vw.getL (pc := 33) (k := 4) (f := 68) K cls1 rfl rfl u_1_145 g8 dX4_pass_33 ?_
      refine Vw.ldc2 (pc := 36) (v := (-1 : Int64)) K u_2_204 dX4_pass_36 ?_
      refine Vw.lcmp_eq (pc := 39) (tgt := 65) K dX4_pass_39 dX4_pass_40 (by decide) (fun c9 => ?_) (fun c9 => ?_)
      · have h := wpos c9 h
        exact Vw.loc rfl (s_X4_pass_65 K E hr23 h)
      · have h := wneg c9 h
        refine Vw.aload_n (pc := 43) (x := x0) K dX4_pass_43 rfl ?_
        refine Vw.getR (pc := 44) (k := 0) (f := 128) K cls2 rfl rfl u_2_5 g5 dX4_pass_44 ?_
        refine Vw.iload_n (pc := 47) (x := x3) K dX4_pass_47 rfl ?_
        refine Vw.aaloadC (pc := 48) K g6 g7 dX4_pass_48 ?_
        refine Vw.getL (pc := 49) (k := 4) (f := 68) K cls1 rfl rfl u_1_145 g8 dX4_pass_49 ?_
        refine Vw.aload_n (pc := 52) (x := x0) K dX4_pass_52 rfl ?_
        refine Vw.getL (pc := 53) (k := 12) (f := 140) K cls2 rfl rfl u_2_27 g5 dX4_pass_53 ?_
        refine Vw.lcmp_gt (pc := 56) (tgt := 65) K dX4_pass_56 dX4_pass_57 (by decide) (fun c10 => ?_) (fun c10 => ?_)
        · have h := wpos c10 h
          exact Vw.loc rfl (s_X4_pass_65 K E hr23 h)
        · have h := wneg c10 h
          refine Vw.aload_n (pc := 60) (x := x0) K dX4_pass_60 rfl ?_
          refine Vw.iload_n (pc := 61) (x := x3) K dX4_pass_61 rfl ?_
          obtain ⟨A12, e11, h⟩ := wbd h
          refine Vw.cV0 (pc := 62) (c' := 0) (n' := 0) K (s_X4_drop K.tr e11) cal_X4_drop cls2 u_2_205 g5 rfl ⟨by decide, by decide⟩ ⟨by decide, by decide⟩ rfl (Nat.le_of_ble_eq_true rfl) dX4_pass_62 rfl rfl ?_
          exact Vw.loc rfl (s_X4_pass_65 K E hr23 h)
def f_X4_pass (A : Hp) (x0 : Nat) (x1 : Int32) : Option (Int32 × Hp) := if (hsh A x0).1 = 3 then k_X4_pass_23 x0 (hgI (hsL A 140 x0 0 ((hgL A 140 x0 0) + x1.toInt64)) 129 x0 0) FU (hsL A 140 x0 0 ((hgL A 140 x0 0) + x1.toInt64)) ((hgI (hsL A 140 x0 0 ((hgL A 140 x0 0) + x1.toInt64)) 129 x0 0) - (1 : Int32)) else none
set_option maxRecDepth 100000 in
theorem s_X4_pass {l : Launch} {g : GT} (hl : l.stackTraces = false) {A : Hp} {x0 : Nat} {x1 : Int32} {r : Int32} {B : Hp} (h : f_X4_pass A x0 x1 = some (r, B)) : MetV l g yX4_pass (.code yX4_pass cX4_pass 4 (some .int)) [.inr (.inr x0), .inl x1] A (.inl (some (.inl r))) B 1 23 0 0 := by
  refine MetV.ofV hl (by decide +kernel) (Nat.le_of_ble_eq_true rfl) (fun κ K E => ?_)
  have K : Cx κ cX4_pass 4 RX4 1 23 0 0 := K
  have E : Ed κ (some .int) "pass" (.inl (some (.inl r))) B 0 0 := E
  unfold f_X4_pass at h
  change Vw κ A 0 0 0 [(0, .inr (.inr x0)), (1, .inl x1)] []
  refine Vw.aload_n (pc := 0) (x := x0) K dX4_pass_0 rfl ?_
  refine Vw.dup (pc := 1) K rfl dX4_pass_1 ?_
  obtain ⟨g13, h⟩ := wgd h
  refine Vw.getL (pc := 2) (k := 12) (f := 140) K cls2 rfl rfl u_2_27 g13 dX4_pass_2 ?_
  refine Vw.iload_n (pc := 5) (x := x1) K dX4_pass_5 rfl ?_
  refine Vw.i2l (pc := 6) K dX4_pass_6 ?_
  refine Vw.ladd (pc := 7) K dX4_pass_7 ?_
  refine Vw.putL (pc := 8) (k := 12) (f := 140) K cls2 rfl rfl u_2_27 g13 (Or.inl rfl) rfl rfl dX4_pass_8 ?_
  refine Vw.aload_n (pc := 11) (x := x0) K dX4_pass_11 rfl ?_
  refine Vw.getI (pc := 12) (k := 1) (f := 129) K cls2 rfl rfl u_2_7 g13 dX4_pass_12 ?_
  refine Vw.istore_n (pc := 15) K dX4_pass_15 (by decide) ?_
  refine Vw.aload_n (pc := 16) (x := x0) K dX4_pass_16 rfl ?_
  refine Vw.getI (pc := 17) (k := 1) (f := 129) K cls2 rfl rfl u_2_7 g13 dX4_pass_17 ?_
  refine Vw.iconst (pc := 20) (v := (1 : Int32)) K (by decide) dX4_pass_20 ?_
  refine Vw.isub (pc := 21) K dX4_pass_21 ?_
  refine Vw.istore_n (pc := 22) K dX4_pass_22 (by decide) ?_
  exact Vw.loc rfl (s_X4_pass_23 K E  _ _ _ h)
theorem cal_X4_pass : wCalV RX4 yX4_pass (.code yX4_pass cX4_pass 4 (some .int)) 1 := ⟨by decide +kernel, u_5_188, u_5_189, u_1_5, u_5_190⟩
def k_X4_earliestExpiry_52 (rec6 : Int64 → Int32 → Option (Int64)) (A : Hp) (x0 : Nat) (x1 : Int64) (x3 : Int32)  : Option (Int64) := rec6 x1 (x3 + (1 : Int32))
set_option maxRecDepth 100000 in
theorem s_X4_earliestExpiry_52 {κ : KT} {r : Int64} {A : Hp} {x0 : Nat} {x1 : Int64} {x3 : Int32}  {rec6 : Int64 → Int32 → Option (Int64)} (K : Cx κ cX4_earliestExpiry 6 RX4 0 0 0 0) (E : Ed κ (some .long) "earliestExpiry" (.inl (some (.inr (.inl r)))) A 0 0) (hr6 : ∀ (x1 : Int64) (x3 : Int32), rec6 x1 x3 = some r → Vw κ A 0 0 6 [(0, .inr (.inr x0)), (1, .inr (.inl x1)), (3, .inl x3)] []) (h : k_X4_earliestExpiry_52 rec6 A x0 x1 x3  = some r) : Vw κ A 0 0 52 [(0, .inr (.inr x0)), (1, .inr (.inl x1)), (3, .inl x3)] [] := by
  unfold k_X4_earliestExpiry_52 at h
  refine Vw.iinc (pc := 52) (x := x3) (v := (1 : Int32)) K dX4_earliestExpiry_52 rfl (by decide) (by decide) ?_
  refine Vw.goto (pc := 55) (tgt := 6) K dX4_earliestExpiry_55 (by decide) ?_
  exact Vw.loc rfl (hr6 _ _ h)
def k_X4_earliestExpiry_49 (rec6 : Int64 → Int32 → Option (Int64)) (A : Hp) (x0 : Nat) (x3 : Int32) (x4 : Int64)  : Option (Int64) := k_X4_earliestExpiry_52 rec6 A x0 x4 x3
set_option maxRecDepth 100000 in
theorem s_X4_earliestExpiry_49 {κ : KT} {r : Int64} {A : Hp} {x0 : Nat} {x3 : Int32} {x4 : Int64}  {rec6 : Int64 → Int32 → Option (Int64)} (K : Cx κ cX4_earliestExpiry 6 RX4 0 0 0 0) (E : Ed κ (some .long) "earliestExpiry" (.inl (some (.inr (.inl r)))) A 0 0) (hr6 : ∀ (x1 : Int64) (x3 : Int32), rec6 x1 x3 = some r → Vw κ A 0 0 6 [(0, .inr (.inr x0)), (1, .inr (.inl x1)), (3, .inl x3)] []) (h : k_X4_earliestExpiry_49 rec6 A x0 x3 x4  = some r) : Vw κ A 0 0 49 [(0, .inr (.inr x0)), (3, .inl x3), (4, .inr (.inl x4))] [] := by
  unfold k_X4_earliestExpiry_49 at h
  refine Vw.lload (pc := 49) (x := x4) K dX4_earliestExpiry_49 rfl ?_
  refine Vw.lstore_n (pc := 51) K dX4_earliestExpiry_51 (by decide) ?_
  exact Vw.loc rfl (s_X4_earliestExpiry_52 K E hr6 h)
def k_X4_earliestExpiry_6s (A : Hp) (x0 : Nat)  (rec6 : Int64 → Int32 → Option (Int64))  (x1 : Int64) (x3 : Int32) : Option (Int64) := if (hsh A x0).1 = 3 then (if (hgI A 129 x0 0) ≤ x3 then some x1 else if (hsh A (hgR A 128 x0 0)).1 = 13 then if wix x3 (hsh A (hgR A 128 x0 0)).2 then if (hsh A (hgR A 1037 (hgR A 128 x0 0) x3.toNatClampNeg)).1 = 2 then (if (hgL A 68 (hgR A 1037 (hgR A 128 x0 0) x3.toNatClampNeg) 0) = (-1 : Int64) then k_X4_earliestExpiry_52 rec6 A x0 x1 x3 else (if x1 = (-1 : Int64) then k_X4_earliestExpiry_49 rec6 A x0 x3 (hgL A 68 (hgR A 1037 (hgR A 128 x0 0) x3.toNatClampNeg) 0) else (if x1 ≤ (hgL A 68 (hgR A 1037 (hgR A 128 x0 0) x3.toNatClampNeg) 0) then k_X4_earliestExpiry_52 rec6 A x0 x1 x3 else k_X4_earliestExpiry_49 rec6 A x0 x3 (hgL A 68 (hgR A 1037 (hgR A 128 x0 0) x3.toNatClampNeg) 0)))) else none else none else none) else none
def k_X4_earliestExpiry_6 (A : Hp) (x0 : Nat)  : Nat → Int64 → Int32 → Option (Int64)
  | 0 => fun _ _ => none
  | fu + 1 => k_X4_earliestExpiry_6s A x0  (k_X4_earliestExpiry_6 A x0  fu)
set_option maxRecDepth 100000 in
theorem s_X4_earliestExpiry_6 {κ : KT} {r : Int64} {A : Hp} {x0 : Nat}  (K : Cx κ cX4_earliestExpiry 6 RX4 0 0 0 0) (E : Ed κ (some .long) "earliestExpiry" (.inl (some (.inr (.inl r)))) A 0 0)  : ∀ (fu : Nat)  (x1 : Int64) (x3 : Int32),  k_X4_earliestExpiry_6 A x0  fu x1 x3 = some r → Vw κ A 0 0 6 [(0, .inr (.inr x0)), (1, .inr (.inl x1)), (3, .inl x3)] [] := by
  intro fu
  induction fu with
  | zero => intro x1 x3 h; cases h
  | succ fu hr6 =>
    intro x1 x3 h
    have h : k_X4_earliestExpiry_6s A x0  (k_X4_earliestExpiry_6 A x0  fu) x1 x3 = some r := h
    unfold k_X4_earliestExpiry_6s at h
    refine Vw.iload_n (pc := 6) (x := x3) K dX4_earliestExpiry_6 rfl ?_
    refine Vw.aload_n (pc := 7) (x := x0) K dX4_earliestExpiry_7 rfl ?_
    obtain ⟨g1, h⟩ := wgd h
    refine Vw.getI (pc := 8) (k := 1) (f := 129) K cls2 rfl rfl u_2_7 g1 dX4_earliestExpiry_8 ?_
    refine Vw.icmp_ge (pc := 11) (tgt := 58) K dX4_earliestExpiry_11 (by decide) (fun c2 => ?_) (fun c2 => ?_)
    · have h := wpos c2 h
      refine Vw.lload_n (pc := 58) (x := x1) K dX4_earliestExpiry_58 rfl ?_
      exact Vw.lretE (pc := 59) K (Option.some.inj h) rfl E (by decide) (by decide) dX4_earliestExpiry_59
    · have h := wneg c2 h
      refine Vw.aload_n (pc := 14) (x := x0) K dX4_earliestExpiry_14 rfl ?_
      refine Vw.getR (pc := 15) (k := 0) (f := 128) K cls2 rfl rfl u_2_5 g1 dX4_earliestExpiry_15 ?_
      refine Vw.iload_n (pc := 18) (x := x3) K dX4_earliestExpiry_18 rfl ?_
      obtain ⟨g3, h⟩ := wgd h
      obtain ⟨g4, h⟩ := wgd h
      refine Vw.aaloadC (pc := 19) K g3 g4 dX4_earliestExpiry_19 ?_
      obtain ⟨g5, h⟩ := wgd h
      refine Vw.getL (pc := 20) (k := 4) (f := 68) K cls1 rfl rfl u_1_145 g5 dX4_earliestExpiry_20 ?_
      refine Vw.lstore (pc := 23) K dX4_earliestExpiry_23 (by decide) ?_
      refine Vw.lload (pc := 25) (x := (hgL A 68 (hgR A 1037 (hgR A 128 x0 0) x3.toNatClampNeg) 0)) K dX4_earliestExpiry_25 rfl ?_
      refine Vw.ldc2 (pc := 27) (v := (-1 : Int64)) K u_2_204 dX4_earliestExpiry_27 ?_
      refine Vw.lcmp_eq (pc := 30) (tgt := 52) K dX4_earliestExpiry_30 dX4_earliestExpiry_31 (by decide) (fun c6 => ?_) (fun c6 => ?_)
      · have h := wpos c6 h
        exact Vw.loc rfl (s_X4_earliestExpiry_52 K E hr6 h)
      · have h := wneg c6 h
        refine Vw.lload_n (pc := 34) (x := x1) K dX4_earliestExpiry_34 rfl ?_
        refine Vw.ldc2 (pc := 35) (v := (-1 : Int64)) K u_2_204 dX4_earliestExpiry_35 ?_
        refine Vw.lcmp_eq (pc := 38) (tgt := 49) K dX4_earliestExpiry_38 dX4_earliestExpiry_39 (by decide) (fun c7 => ?_) (fun c7 => ?_)
        · have h := wpos c7 h
          exact Vw.loc rfl (s_X4_earliestExpiry_49 K E hr6 h)
        · have h := wneg c7 h
          refine Vw.lload (pc := 42) (x := (hgL A 68 (hgR A 1037 (hgR A 128 x0 0) x3.toNatClampNeg) 0)) K dX4_earliestExpiry_42 rfl ?_
          refine Vw.lload_n (pc := 44) (x := x1) K dX4_earliestExpiry_44 rfl ?_
          refine Vw.lcmp_ge (pc := 45) (tgt := 52) K dX4_earliestExpiry_45 dX4_earliestExpiry_46 (by decide) (fun c8 => ?_) (fun c8 => ?_)
          · have h := wpos c8 h
            exact Vw.loc rfl (s_X4_earliestExpiry_52 K E hr6 h)
          · have h := wneg c8 h
            exact Vw.loc rfl (s_X4_earliestExpiry_49 K E hr6 h)
def f_X4_earliestExpiry (A : Hp) (x0 : Nat) : Option (Int64) := k_X4_earliestExpiry_6 A x0 FU (-1 : Int64) (0 : Int32)
set_option maxRecDepth 100000 in
theorem s_X4_earliestExpiry {l : Launch} {g : GT} (hl : l.stackTraces = false) {A : Hp} {x0 : Nat} {r : Int64} (h : f_X4_earliestExpiry A x0 = some r) : MetV l g yX4_earliestExpiry (.code yX4_earliestExpiry cX4_earliestExpiry 6 (some .long)) [.inr (.inr x0)] A (.inl (some (.inr (.inl r)))) A 0 0 0 0 := by
  refine MetV.ofV hl (by decide +kernel) (Nat.le_of_ble_eq_true rfl) (fun κ K E => ?_)
  have K : Cx κ cX4_earliestExpiry 6 RX4 0 0 0 0 := K
  have E : Ed κ (some .long) "earliestExpiry" (.inl (some (.inr (.inl r)))) A 0 0 := E
  unfold f_X4_earliestExpiry at h
  change Vw κ A 0 0 0 [(0, .inr (.inr x0))] []
  refine Vw.ldc2 (pc := 0) (v := (-1 : Int64)) K u_2_204 dX4_earliestExpiry_0 ?_
  refine Vw.lstore_n (pc := 3) K dX4_earliestExpiry_3 (by decide) ?_
  refine Vw.iconst (pc := 4) (v := (0 : Int32)) K (by decide) dX4_earliestExpiry_4 ?_
  refine Vw.istore_n (pc := 5) K dX4_earliestExpiry_5 (by decide) ?_
  exact Vw.loc rfl (s_X4_earliestExpiry_6 K E  _ _ _ h)
theorem cal_X4_earliestExpiry : wCalV RX4 yX4_earliestExpiry (.code yX4_earliestExpiry cX4_earliestExpiry 6 (some .long)) 0 := ⟨by decide +kernel, u_2_218, u_2_219, u_1_5, u_2_220⟩
def k_X4_become_110s  (x0 : Nat) (x1 : Nat)  (rec110 : Hp → Int32 → Option (Hp)) (A : Hp) (x2 : Int32) : Option (Hp) := (if (7 : Int32) ≤ x2 then if (hsh A x1).1 = 3 then if (hsh A x0).1 = 3 then some (hsL (hsI (hsI A 138 x0 0 (hgI A 138 x1 0)) 139 x0 0 (hgI (hsI A 138 x0 0 (hgI A 138 x1 0)) 139 x1 0)) 140 x0 0 (hgL (hsI (hsI A 138 x0 0 (hgI A 138 x1 0)) 139 x0 0 (hgI (hsI A 138 x0 0 (hgI A 138 x1 0)) 139 x1 0)) 140 x1 0)) else none else none else if (hsh A x0).1 = 3 then if (hsh A x1).1 = 3 then if (hsh A (hgR A 137 x1 0)).1 = 10 then if wix x2 (hsh A (hgR A 137 x1 0)).2 then if (hsh A (hgR A 137 x0 0)).1 = 10 then if wix x2 (hsh A (hgR A 137 x0 0)).2 then rec110 (hsI A 1034 (hgR A 137 x0 0) x2.toNatClampNeg (hgI A 1034 (hgR A 137 x1 0) x2.toNatClampNeg)) (x2 + (1 : Int32)) else none else none else none else none else none else none)
def k_X4_become_110  (x0 : Nat) (x1 : Nat)  : Nat → Hp → Int32 → Option (Hp)
  | 0 => fun _ _ => none
  | fu + 1 => k_X4_become_110s x0 x1  (k_X4_become_110 x0 x1  fu)
set_option maxRecDepth 100000 in
theorem s_X4_become_110 {κ : KT} {B : Hp}  {x0 : Nat} {x1 : Nat}  (K : Cx κ cX4_become 3 RX4 4 91 0 0) (E : Ed κ none "become" (.inl none) B 0 0)  : ∀ (fu : Nat) (A : Hp) (x2 : Int32),  k_X4_become_110 x0 x1  fu A x2 = some B → Vw κ A 0 0 110 [(0, .inr (.inr x0)), (1, .inr (.inr x1)), (2, .inl x2)] [] := by
  intro fu
  induction fu with
  | zero => intro A x2 h; cases h
  | succ fu hr110 =>
    intro A x2 h
    have h : k_X4_become_110s x0 x1  (k_X4_become_110 x0 x1  fu) A x2 = some B := h
    unfold k_X4_become_110s at h
    refine Vw.iload_n (pc := 110) (x := x2) K dX4_become_110 rfl ?_
    refine Vw.bipush (pc := 111) (v := (7 : Int32)) K (by decide) dX4_become_111 ?_
    refine Vw.icmp_ge (pc := 113) (tgt := 134) K dX4_become_113 (by decide) (fun c1 => ?_) (fun c1 => ?_)
    · have h := wpos c1 h
      refine Vw.aload_n (pc := 134) (x := x0) K dX4_become_134 rfl ?_
      refine Vw.aload_n (pc := 135) (x := x1) K dX4_become_135 rfl ?_
      obtain ⟨g2, h⟩ := wgd h
      refine Vw.getI (pc := 136) (k := 10) (f := 138) K cls2 rfl rfl u_2_23 g2 dX4_become_136 ?_
      obtain ⟨g3, h⟩ := wgd h
      refine Vw.putI (pc := 139) (k := 10) (f := 138) K cls2 rfl rfl u_2_23 g3 (Or.inl rfl) rfl rfl dX4_become_139 ?_
      refine Vw.aload_n (pc := 142) (x := x0) K dX4_become_142 rfl ?_
      refine Vw.aload_n (pc := 143) (x := x1) K dX4_become_143 rfl ?_
      refine Vw.getI (pc := 144) (k := 11) (f := 139) K cls2 rfl rfl u_2_25 g2 dX4_become_144 ?_
      refine Vw.putI (pc := 147) (k := 11) (f := 139) K cls2 rfl rfl u_2_25 g3 (Or.inl rfl) rfl rfl dX4_become_147 ?_
      refine Vw.aload_n (pc := 150) (x := x0) K dX4_become_150 rfl ?_
      refine Vw.aload_n (pc := 151) (x := x1) K dX4_become_151 rfl ?_
      refine Vw.getL (pc := 152) (k := 12) (f := 140) K cls2 rfl rfl u_2_27 g2 dX4_become_152 ?_
      refine Vw.putL (pc := 155) (k := 12) (f := 140) K cls2 rfl rfl u_2_27 g3 (Or.inl rfl) rfl rfl dX4_become_155 ?_
      exact Vw.vretE (pc := 158) K (Option.some.inj h) E (by decide) (by decide) dX4_become_158
    · have h := wneg c1 h
      refine Vw.aload_n (pc := 116) (x := x0) K dX4_become_116 rfl ?_
      obtain ⟨g4, h⟩ := wgd h
      refine Vw.getR (pc := 117) (k := 9) (f := 137) K cls2 rfl rfl u_2_21 g4 dX4_become_117 ?_
      refine Vw.iload_n (pc := 120) (x := x2) K dX4_become_120 rfl ?_
      refine Vw.aload_n (pc := 121) (x := x1) K dX4_become_121 rfl ?_
      obtain ⟨g5, h⟩ := wgd h
      refine Vw.getR (pc := 122) (k := 9) (f := 137) K cls2 rfl rfl u_2_21 g5 dX4_become_122 ?_
      refine Vw.iload_n (pc := 125) (x := x2) K dX4_become_125 rfl ?_
      obtain ⟨g6, h⟩ := wgd h
      obtain ⟨g7, h⟩ := wgd h
      refine Vw.iaload (pc := 126) K g6 g7 dX4_become_126 ?_
      obtain ⟨g8, h⟩ := wgd h
      obtain ⟨g9, h⟩ := wgd h
      refine Vw.iastore (pc := 127) K g8 g9 dX4_become_127 ?_
      refine Vw.iinc (pc := 128) (x := x2) (v := (1 : Int32)) K dX4_become_128 rfl (by decide) (by decide) ?_
      refine Vw.goto (pc := 131) (tgt := 110) K dX4_become_131 (by decide) ?_
      exact Vw.loc rfl (hr110 _ _ h)
def k_X4_become_85s  (x0 : Nat) (x1 : Nat)  (rec85 : Hp → Int32 → Option (Hp)) (A : Hp) (x2 : Int32) : Option (Hp) := (if (2 : Int32) ≤ x2 then k_X4_become_110 x0 x1 FU A (0 : Int32) else if (hsh A x0).1 = 3 then if (hsh A x1).1 = 3 then if (hsh A (hgR A 136 x1 0)).1 = 10 then if wix x2 (hsh A (hgR A 136 x1 0)).2 then if (hsh A (hgR A 136 x0 0)).1 = 10 then if wix x2 (hsh A (hgR A 136 x0 0)).2 then rec85 (hsI A 1034 (hgR A 136 x0 0) x2.toNatClampNeg (hgI A 1034 (hgR A 136 x1 0) x2.toNatClampNeg)) (x2 + (1 : Int32)) else none else none else none else none else none else none)
def k_X4_become_85  (x0 : Nat) (x1 : Nat)  : Nat → Hp → Int32 → Option (Hp)
  | 0 => fun _ _ => none
  | fu + 1 => k_X4_become_85s x0 x1  (k_X4_become_85 x0 x1  fu)
set_option maxRecDepth 100000 in
theorem s_X4_become_85 {κ : KT} {B : Hp}  {x0 : Nat} {x1 : Nat}  (K : Cx κ cX4_become 3 RX4 4 91 0 0) (E : Ed κ none "become" (.inl none) B 0 0)  : ∀ (fu : Nat) (A : Hp) (x2 : Int32),  k_X4_become_85 x0 x1  fu A x2 = some B → Vw κ A 0 0 85 [(0, .inr (.inr x0)), (1, .inr (.inr x1)), (2, .inl x2)] [] := by
  intro fu
  induction fu with
  | zero => intro A x2 h; cases h
  | succ fu hr85 =>
    intro A x2 h
    have h : k_X4_become_85s x0 x1  (k_X4_become_85 x0 x1  fu) A x2 = some B := h
    unfold k_X4_become_85s at h
    refine Vw.iload_n (pc := 85) (x := x2) K dX4_become_85 rfl ?_
    refine Vw.iconst (pc := 86) (v := (2 : Int32)) K (by decide) dX4_become_86 ?_
    refine Vw.icmp_ge (pc := 87) (tgt := 108) K dX4_become_87 (by decide) (fun c10 => ?_) (fun c10 => ?_)
    · have h := wpos c10 h
      refine Vw.iconst (pc := 108) (v := (0 : Int32)) K (by decide) dX4_become_108 ?_
      refine Vw.istore_n (pc := 109) K dX4_become_109 (by decide) ?_
      exact Vw.loc rfl (s_X4_become_110 K E  _ _ _ h)
    · have h := wneg c10 h
      refine Vw.aload_n (pc := 90) (x := x0) K dX4_become_90 rfl ?_
      obtain ⟨g11, h⟩ := wgd h
      refine Vw.getR (pc := 91) (k := 8) (f := 136) K cls2 rfl rfl u_2_19 g11 dX4_become_91 ?_
      refine Vw.iload_n (pc := 94) (x := x2) K dX4_become_94 rfl ?_
      refine Vw.aload_n (pc := 95) (x := x1) K dX4_become_95 rfl ?_
      obtain ⟨g12, h⟩ := wgd h
      refine Vw.getR (pc := 96) (k := 8) (f := 136) K cls2 rfl rfl u_2_19 g12 dX4_become_96 ?_
      refine Vw.iload_n (pc := 99) (x := x2) K dX4_become_99 rfl ?_
      obtain ⟨g13, h⟩ := wgd h
      obtain ⟨g14, h⟩ := wgd h
      refine Vw.iaload (pc := 100) K g13 g14 dX4_become_100 ?_
      obtain ⟨g15, h⟩ := wgd h
      obtain ⟨g16, h⟩ := wgd h
      refine Vw.iastore (pc := 101) K g15 g16 dX4_become_101 ?_
      refine Vw.iinc (pc := 102) (x := x2) (v := (1 : Int32)) K dX4_become_102 rfl (by decide) (by decide) ?_
      refine Vw.goto (pc := 105) (tgt := 85) K dX4_become_105 (by decide) ?_
      exact Vw.loc rfl (hr85 _ _ h)
def k_X4_become_10s  (x0 : Nat) (x1 : Nat)  (rec10 : Hp → Int32 → Option (Hp)) (A : Hp) (x2 : Int32) : Option (Hp) := if (hsh A x0).1 = 3 then (if (hgI A 129 x0 0) ≤ x2 then if (hsh A x1).1 = 3 then if (hsh A (hgR A 132 x0 0)).1 = 6 then ((f_X7_become A (hgR A 132 x0 0) (hgR A 132 x1 0)).bind fun A22 => if (hsh A22 x0).1 = 3 then if (hsh A22 x1).1 = 3 then if (hsh A22 (hgR A22 133 x0 0)).1 = 1 then ((f_X0_become A22 (hgR A22 133 x0 0) (hgR A22 133 x1 0)).bind fun A27 => if (hsh A27 x0).1 = 3 then if (hsh A27 x1).1 = 3 then if (hsh A27 (hgR A27 134 x0 0)).1 = 1 then ((f_X0_become A27 (hgR A27 134 x0 0) (hgR A27 134 x1 0)).bind fun A32 => if (hsh A32 x0).1 = 3 then if (hsh A32 x1).1 = 3 then if (hsh A32 (hgR A32 135 x0 0)).1 = 5 then ((f_X6_copy A32 (hgR A32 135 x0 0) (hgR A32 135 x1 0)).bind fun A37 => k_X4_become_85 x0 x1 FU A37 (0 : Int32)) else none else none else none) else none else none else none) else none else none else none) else none else none else if (hsh A (hgR A 128 x0 0)).1 = 13 then if wix x2 (hsh A (hgR A 128 x0 0)).2 then if (hsh A x1).1 = 3 then if (hsh A (hgR A 128 x1 0)).1 = 13 then if wix x2 (hsh A (hgR A 128 x1 0)).2 then if (hsh A (hgR A 1037 (hgR A 128 x0 0) x2.toNatClampNeg)).1 = 2 then ((f_X1_become A (hgR A 1037 (hgR A 128 x0 0) x2.toNatClampNeg) (hgR A 1037 (hgR A 128 x1 0) x2.toNatClampNeg)).bind fun A45 => rec10 A45 (x2 + (1 : Int32))) else none else none else none else none else none else none) else none
def k_X4_become_10  (x0 : Nat) (x1 : Nat)  : Nat → Hp → Int32 → Option (Hp)
  | 0 => fun _ _ => none
  | fu + 1 => k_X4_become_10s x0 x1  (k_X4_become_10 x0 x1  fu)
set_option maxRecDepth 100000 in
theorem s_X4_become_10 {κ : KT} {B : Hp}  {x0 : Nat} {x1 : Nat}  (K : Cx κ cX4_become 3 RX4 4 91 0 0) (E : Ed κ none "become" (.inl none) B 0 0)  : ∀ (fu : Nat) (A : Hp) (x2 : Int32),  k_X4_become_10 x0 x1  fu A x2 = some B → Vw κ A 0 0 10 [(0, .inr (.inr x0)), (1, .inr (.inr x1)), (2, .inl x2)] [] := by
  intro fu
  induction fu with
  | zero => intro A x2 h; cases h
  | succ fu hr10 =>
    intro A x2 h
    have h : k_X4_become_10s x0 x1  (k_X4_become_10 x0 x1  fu) A x2 = some B := h
    unfold k_X4_become_10s at h
    refine Vw.iload_n (pc := 10) (x := x2) K dX4_become_10 rfl ?_
    refine Vw.aload_n (pc := 11) (x := x0) K dX4_become_11 rfl ?_
    obtain ⟨g17, h⟩ := wgd h
    refine Vw.getI (pc := 12) (k := 1) (f := 129) K cls2 rfl rfl u_2_7 g17 dX4_become_12 ?_
    refine Vw.icmp_ge (pc := 15) (tgt := 39) K dX4_become_15 (by decide) (fun c18 => ?_) (fun c18 => ?_)
    · have h := wpos c18 h
      refine Vw.aload_n (pc := 39) (x := x0) K dX4_become_39 rfl ?_
      refine Vw.getR (pc := 40) (k := 4) (f := 132) K cls2 rfl rfl u_2_11 g17 dX4_become_40 ?_
      refine Vw.aload_n (pc := 43) (x := x1) K dX4_become_43 rfl ?_
      obtain ⟨g19, h⟩ := wgd h
      refine Vw.getR (pc := 44) (k := 4) (f := 132) K cls2 rfl rfl u_2_11 g19 dX4_become_44 ?_
      obtain ⟨g20, h⟩ := wgd h
      obtain ⟨A22, e21, h⟩ := wbd h
      refine Vw.cV0 (pc := 47) (c' := 0) (n' := 0) K (s_X7_become K.tr e21) cal_X7_become cls5 u_5_232 g20 rfl ⟨by decide, by decide⟩ ⟨by decide, by decide⟩ rfl (Nat.le_of_ble_eq_true rfl) dX4_become_47 rfl rfl ?_
      refine Vw.aload_n (pc := 50) (x := x0) K dX4_become_50 rfl ?_
      obtain ⟨g23, h⟩ := wgd h
      refine Vw.getR (pc := 51) (k := 5) (f := 133) K cls2 rfl rfl u_2_13 g23 dX4_become_51 ?_
      refine Vw.aload_n (pc := 54) (x := x1) K dX4_become_54 rfl ?_
      obtain ⟨g24, h⟩ := wgd h
      refine Vw.getR (pc := 55) (k := 5) (f := 133) K cls2 rfl rfl u_2_13 g24 dX4_become_55 ?_
      obtain ⟨g25, h⟩ := wgd h
      obtain ⟨A27, e26, h⟩ := wbd h
      refine Vw.cV0 (pc := 58) (c' := 0) (n' := 0) K (s_X0_become K.tr e26) cal_X0_become cls0 u_5_236 g25 rfl ⟨by decide, by decide⟩ ⟨by decide, by decide⟩ rfl (Nat.le_of_ble_eq_true rfl) dX4_become_58 rfl rfl ?_
      refine Vw.aload_n (pc := 61) (x := x0) K dX4_become_61 rfl ?_
      obtain ⟨g28, h⟩ := wgd h
      refine Vw.getR (pc := 62) (k := 6) (f := 134) K cls2 rfl rfl u_2_15 g28 dX4_become_62 ?_
      refine Vw.aload_n (pc := 65) (x := x1) K dX4_become_65 rfl ?_
      obtain ⟨g29, h⟩ := wgd h
      refine Vw.getR (pc := 66) (k := 6) (f := 134) K cls2 rfl rfl u_2_15 g29 dX4_become_66 ?_
      obtain ⟨g30, h⟩ := wgd h
      obtain ⟨A32, e31, h⟩ := wbd h
      refine Vw.cV0 (pc := 69) (c' := 0) (n' := 0) K (s_X0_become K.tr e31) cal_X0_become cls0 u_5_236 g30 rfl ⟨by decide, by decide⟩ ⟨by decide, by decide⟩ rfl (Nat.le_of_ble_eq_true rfl) dX4_become_69 rfl rfl ?_
      refine Vw.aload_n (pc := 72) (x := x0) K dX4_become_72 rfl ?_
      obtain ⟨g33, h⟩ := wgd h
      refine Vw.getR (pc := 73) (k := 7) (f := 135) K cls2 rfl rfl u_2_17 g33 dX4_become_73 ?_
      refine Vw.aload_n (pc := 76) (x := x1) K dX4_become_76 rfl ?_
      obtain ⟨g34, h⟩ := wgd h
      refine Vw.getR (pc := 77) (k := 7) (f := 135) K cls2 rfl rfl u_2_17 g34 dX4_become_77 ?_
      obtain ⟨g35, h⟩ := wgd h
      obtain ⟨A37, e36, h⟩ := wbd h
      refine Vw.cV0 (pc := 80) (c' := 0) (n' := 0) K (s_X6_copy K.tr e36) cal_X6_copy cls4 u_4_124 g35 rfl ⟨by decide, by decide⟩ ⟨by decide, by decide⟩ rfl (Nat.le_of_ble_eq_true rfl) dX4_become_80 rfl rfl ?_
      refine Vw.iconst (pc := 83) (v := (0 : Int32)) K (by decide) dX4_become_83 ?_
      refine Vw.istore_n (pc := 84) K dX4_become_84 (by decide) ?_
      exact Vw.loc rfl (s_X4_become_85 K E  _ _ _ h)
    · have h := wneg c18 h
      refine Vw.aload_n (pc := 18) (x := x0) K dX4_become_18 rfl ?_
      refine Vw.getR (pc := 19) (k := 0) (f := 128) K cls2 rfl rfl u_2_5 g17 dX4_become_19 ?_
      refine Vw.iload_n (pc := 22) (x := x2) K dX4_become_22 rfl ?_
      obtain ⟨g38, h⟩ := wgd h
      obtain ⟨g39, h⟩ := wgd h
      refine Vw.aaloadC (pc := 23) K g38 g39 dX4_become_23 ?_
      refine Vw.aload_n (pc := 24) (x := x1) K dX4_become_24 rfl ?_
      obtain ⟨g40, h⟩ := wgd h
      refine Vw.getR (pc := 25) (k := 0) (f := 128) K cls2 rfl rfl u_2_5 g40 dX4_become_25 ?_
      refine Vw.iload_n (pc := 28) (x := x2) K dX4_become_28 rfl ?_
      obtain ⟨g41, h⟩ := wgd h
      obtain ⟨g42, h⟩ := wgd h
      refine Vw.aaloadC (pc := 29) K g41 g42 dX4_become_29 ?_
      obtain ⟨g43, h⟩ := wgd h
      obtain ⟨A45, e44, h⟩ := wbd h
      refine Vw.cV0 (pc := 30) (c' := 0) (n' := 0) K (s_X1_become K.tr e44) cal_X1_become cls1 u_4_206 g43 rfl ⟨by decide, by decide⟩ ⟨by decide, by decide⟩ rfl (Nat.le_of_ble_eq_true rfl) dX4_become_30 rfl rfl ?_
      refine Vw.iinc (pc := 33) (x := x2) (v := (1 : Int32)) K dX4_become_33 rfl (by decide) (by decide) ?_
      refine Vw.goto (pc := 36) (tgt := 10) K dX4_become_36 (by decide) ?_
      exact Vw.loc rfl (hr10 _ _ h)
def f_X4_become (A : Hp) (x0 : Nat) (x1 : Nat) : Option (Hp) := if (hsh A x1).1 = 3 then if (hsh A x0).1 = 3 then k_X4_become_10 x0 x1 FU (hsI A 129 x0 0 (hgI A 129 x1 0)) (0 : Int32) else none else none
set_option maxRecDepth 100000 in
theorem s_X4_become {l : Launch} {g : GT} (hl : l.stackTraces = false) {A : Hp} {x0 : Nat} {x1 : Nat} {B : Hp} (h : f_X4_become A x0 x1 = some B) : MetV l g yX4_become (.code yX4_become cX4_become 3 none) [.inr (.inr x0), .inr (.inr x1)] A (.inl none) B 4 91 0 0 := by
  refine MetV.ofV hl (by decide +kernel) (Nat.le_of_ble_eq_true rfl) (fun κ K E => ?_)
  have K : Cx κ cX4_become 3 RX4 4 91 0 0 := K
  have E : Ed κ none "become" (.inl none) B 0 0 := E
  unfold f_X4_become at h
  change Vw κ A 0 0 0 [(0, .inr (.inr x0)), (1, .inr (.inr x1))] []
  refine Vw.aload_n (pc := 0) (x := x0) K dX4_become_0 rfl ?_
  refine Vw.aload_n (pc := 1) (x := x1) K dX4_become_1 rfl ?_
  obtain ⟨g46, h⟩ := wgd h
  refine Vw.getI (pc := 2) (k := 1) (f := 129) K cls2 rfl rfl u_2_7 g46 dX4_become_2 ?_
  obtain ⟨g47, h⟩ := wgd h
  refine Vw.putI (pc := 5) (k := 1) (f := 129) K cls2 rfl rfl u_2_7 g47 (Or.inl rfl) rfl rfl dX4_become_5 ?_
  refine Vw.iconst (pc := 8) (v := (0 : Int32)) K (by decide) dX4_become_8 ?_
  refine Vw.istore_n (pc := 9) K dX4_become_9 (by decide) ?_
  exact Vw.loc rfl (s_X4_become_10 K E  _ _ _ h)
theorem cal_X4_become : wCalV RX4 yX4_become (.code yX4_become cX4_become 3 none) 1 := ⟨by decide +kernel, u_5_229, u_5_230, u_1_5, u_5_231⟩
def k_X4_mix_38s (A : Hp) (x0 : Nat)  (rec38 : Int64 → Int32 → Option (Int64))  (x1 : Int64) (x3 : Int32) : Option (Int64) := (if (7 : Int32) ≤ x3 then some x1 else if (hsh A x0).1 = 3 then if (hsh A (hgR A 137 x0 0)).1 = 10 then if wix x3 (hsh A (hgR A 137 x0 0)).2 then rec38 (((31 : Int64) * x1) + ((hgI A 1034 (hgR A 137 x0 0) x3.toNatClampNeg).toInt64)) (x3 + (1 : Int32)) else none else none else none)
def k_X4_mix_38 (A : Hp) (x0 : Nat)  : Nat → Int64 → Int32 → Option (Int64)
  | 0 => fun _ _ => none
  | fu + 1 => k_X4_mix_38s A x0  (k_X4_mix_38 A x0  fu)
set_option maxRecDepth 100000 in
theorem s_X4_mix_38 {κ : KT} {r : Int64} {A : Hp} {x0 : Nat}  (K : Cx κ cX4_mix 4 RX4 3 70 0 0) (E : Ed κ (some .long) "mix" (.inl (some (.inr (.inl r)))) A 0 0)  : ∀ (fu : Nat)  (x1 : Int64) (x3 : Int32),  k_X4_mix_38 A x0  fu x1 x3 = some r → Vw κ A 0 0 38 [(0, .inr (.inr x0)), (1, .inr (.inl x1)), (3, .inl x3)] [] := by
  intro fu
  induction fu with
  | zero => intro x1 x3 h; cases h
  | succ fu hr38 =>
    intro x1 x3 h
    have h : k_X4_mix_38s A x0  (k_X4_mix_38 A x0  fu) x1 x3 = some r := h
    unfold k_X4_mix_38s at h
    refine Vw.iload_n (pc := 38) (x := x3) K dX4_mix_38 rfl ?_
    refine Vw.bipush (pc := 39) (v := (7 : Int32)) K (by decide) dX4_mix_39 ?_
    refine Vw.icmp_ge (pc := 41) (tgt := 64) K dX4_mix_41 (by decide) (fun c1 => ?_) (fun c1 => ?_)
    · have h := wpos c1 h
      refine Vw.lload_n (pc := 64) (x := x1) K dX4_mix_64 rfl ?_
      exact Vw.lretE (pc := 65) K (Option.some.inj h) rfl E (by decide) (by decide) dX4_mix_65
    · have h := wneg c1 h
      refine Vw.ldc2 (pc := 44) (v := (31 : Int64)) K u_3_25 dX4_mix_44 ?_
      refine Vw.lload_n (pc := 47) (x := x1) K dX4_mix_47 rfl ?_
      refine Vw.lmul (pc := 48) K dX4_mix_48 ?_
      refine Vw.aload_n (pc := 49) (x := x0) K dX4_mix_49 rfl ?_
      obtain ⟨g2, h⟩ := wgd h
      refine Vw.getR (pc := 50) (k := 9) (f := 137) K cls2 rfl rfl u_2_21 g2 dX4_mix_50 ?_
      refine Vw.iload_n (pc := 53) (x := x3) K dX4_mix_53 rfl ?_
      obtain ⟨g3, h⟩ := wgd h
      obtain ⟨g4, h⟩ := wgd h
      refine Vw.iaload (pc := 54) K g3 g4 dX4_mix_54 ?_
      refine Vw.i2l (pc := 55) K dX4_mix_55 ?_
      refine Vw.ladd (pc := 56) K dX4_mix_56 ?_
      refine Vw.lstore_n (pc := 57) K dX4_mix_57 (by decide) ?_
      refine Vw.iinc (pc := 58) (x := x3) (v := (1 : Int32)) K dX4_mix_58 rfl (by decide) (by decide) ?_
      refine Vw.goto (pc := 61) (tgt := 38) K dX4_mix_61 (by decide) ?_
      exact Vw.loc rfl (hr38 _ _ h)
def k_X4_mix_11s (A : Hp) (x0 : Nat)  (rec11 : Int64 → Int32 → Option (Int64))  (x1 : Int64) (x3 : Int32) : Option (Int64) := if (hsh A x0).1 = 3 then (if (hgI A 129 x0 0) ≤ x3 then k_X4_mix_38 A x0 FU x1 (0 : Int32) else if (hsh A (hgR A 128 x0 0)).1 = 13 then if wix x3 (hsh A (hgR A 128 x0 0)).2 then if (hsh A (hgR A 1037 (hgR A 128 x0 0) x3.toNatClampNeg)).1 = 2 then ((f_X1_mix A (hgR A 1037 (hgR A 128 x0 0) x3.toNatClampNeg) x1).bind fun v11 => rec11 v11 (x3 + (1 : Int32))) else none else none else none) else none
def k_X4_mix_11 (A : Hp) (x0 : Nat)  : Nat → Int64 → Int32 → Option (Int64)
  | 0 => fun _ _ => none
  | fu + 1 => k_X4_mix_11s A x0  (k_X4_mix_11 A x0  fu)
set_option maxRecDepth 100000 in
theorem s_X4_mix_11 {κ : KT} {r : Int64} {A : Hp} {x0 : Nat}  (K : Cx κ cX4_mix 4 RX4 3 70 0 0) (E : Ed κ (some .long) "mix" (.inl (some (.inr (.inl r)))) A 0 0)  : ∀ (fu : Nat)  (x1 : Int64) (x3 : Int32),  k_X4_mix_11 A x0  fu x1 x3 = some r → Vw κ A 0 0 11 [(0, .inr (.inr x0)), (1, .inr (.inl x1)), (3, .inl x3)] [] := by
  intro fu
  induction fu with
  | zero => intro x1 x3 h; cases h
  | succ fu hr11 =>
    intro x1 x3 h
    have h : k_X4_mix_11s A x0  (k_X4_mix_11 A x0  fu) x1 x3 = some r := h
    unfold k_X4_mix_11s at h
    refine Vw.iload_n (pc := 11) (x := x3) K dX4_mix_11 rfl ?_
    refine Vw.aload_n (pc := 12) (x := x0) K dX4_mix_12 rfl ?_
    obtain ⟨g5, h⟩ := wgd h
    refine Vw.getI (pc := 13) (k := 1) (f := 129) K cls2 rfl rfl u_2_7 g5 dX4_mix_13 ?_
    refine Vw.icmp_ge (pc := 16) (tgt := 36) K dX4_mix_16 (by decide) (fun c6 => ?_) (fun c6 => ?_)
    · have h := wpos c6 h
      refine Vw.iconst (pc := 36) (v := (0 : Int32)) K (by decide) dX4_mix_36 ?_
      refine Vw.istore_n (pc := 37) K dX4_mix_37 (by decide) ?_
      exact Vw.loc rfl (s_X4_mix_38 K E  _ _ _ h)
    · have h := wneg c6 h
      refine Vw.aload_n (pc := 19) (x := x0) K dX4_mix_19 rfl ?_
      refine Vw.getR (pc := 20) (k := 0) (f := 128) K cls2 rfl rfl u_2_5 g5 dX4_mix_20 ?_
      refine Vw.iload_n (pc := 23) (x := x3) K dX4_mix_23 rfl ?_
      obtain ⟨g7, h⟩ := wgd h
      obtain ⟨g8, h⟩ := wgd h
      refine Vw.aaloadC (pc := 24) K g7 g8 dX4_mix_24 ?_
      refine Vw.lload_n (pc := 25) (x := x1) K dX4_mix_25 rfl ?_
      obtain ⟨g9, h⟩ := wgd h
      obtain ⟨v11, e10, h⟩ := wbd h
      refine Vw.cV1 (pc := 26) (v := .inr (.inl v11)) (c' := 0) (n' := 0) K (s_X1_mix K.tr e10) cal_X1_mix cls1 u_3_15 g9 rfl ⟨by decide, by decide⟩ ⟨by decide, by decide⟩ rfl (Nat.le_of_ble_eq_true rfl) dX4_mix_26 rfl rfl ?_
      refine Vw.lstore_n (pc := 29) K dX4_mix_29 (by decide) ?_
      refine Vw.iinc (pc := 30) (x := x3) (v := (1 : Int32)) K dX4_mix_30 rfl (by decide) (by decide) ?_
      refine Vw.goto (pc := 33) (tgt := 11) K dX4_mix_33 (by decide) ?_
      exact Vw.loc rfl (hr11 _ _ h)
def f_X4_mix (A : Hp) (x0 : Nat) : Option (Int64) := if (hsh A x0).1 = 3 then k_X4_mix_11 A x0 FU ((713 : Int64) + (hgL A 140 x0 0)) (0 : Int32) else none
set_option maxRecDepth 100000 in
theorem s_X4_mix {l : Launch} {g : GT} (hl : l.stackTraces = false) {A : Hp} {x0 : Nat} {r : Int64} (h : f_X4_mix A x0 = some r) : MetV l g yX4_mix (.code yX4_mix cX4_mix 4 (some .long)) [.inr (.inr x0)] A (.inl (some (.inr (.inl r)))) A 3 70 0 0 := by
  refine MetV.ofV hl (by decide +kernel) (Nat.le_of_ble_eq_true rfl) (fun κ K E => ?_)
  have K : Cx κ cX4_mix 4 RX4 3 70 0 0 := K
  have E : Ed κ (some .long) "mix" (.inl (some (.inr (.inl r)))) A 0 0 := E
  unfold f_X4_mix at h
  change Vw κ A 0 0 0 [(0, .inr (.inr x0))] []
  refine Vw.ldc2 (pc := 0) (v := (713 : Int64)) K u_3_14 dX4_mix_0 ?_
  refine Vw.aload_n (pc := 3) (x := x0) K dX4_mix_3 rfl ?_
  obtain ⟨g12, h⟩ := wgd h
  refine Vw.getL (pc := 4) (k := 12) (f := 140) K cls2 rfl rfl u_2_27 g12 dX4_mix_4 ?_
  refine Vw.ladd (pc := 7) K dX4_mix_7 ?_
  refine Vw.lstore_n (pc := 8) K dX4_mix_8 (by decide) ?_
  refine Vw.iconst (pc := 9) (v := (0 : Int32)) K (by decide) dX4_mix_9 ?_
  refine Vw.istore_n (pc := 10) K dX4_mix_10 (by decide) ?_
  exact Vw.loc rfl (s_X4_mix_11 K E  _ _ _ h)
theorem cal_X4_mix : wCalV RX4 yX4_mix (.code yX4_mix cX4_mix 4 (some .long)) 0 := ⟨by decide +kernel, u_3_11, u_3_12, u_1_5, u_3_13⟩
