def f_L_type (A : Hp) (x0 : Nat) (x1 : Int32) (x2 : Nat) : Option (Int32 × Hp) := if (hsh A x0).1 = 7 then (wcat (f_X8_type A x0 x1) (fun v2 A3 => if (hsh A3 x2).1 = 11 then if wix (0 : Int32) (hsh A3 x2).2 then some ((0 : Int32), (hsL A3 1035 x2 (0 : Int32).toNatClampNeg v2.toInt64)) else none else none) (fun x5 A3 => if x5 = 1 then some ((1 : Int32), A3) else if x5 = 2 then some ((2 : Int32), A3) else none)) else none
set_option maxRecDepth 100000 in
theorem s_L_type {l : Launch} {g : GT} (hl : l.stackTraces = false) {A : Hp} {x0 : Nat} {x1 : Int32} {x2 : Nat} {r : Int32} {B : Hp} (h : f_L_type A x0 x1 x2 = some (r, B)) : MetV l g yL_type (.codeWith yL_type cL_type 4 (some .int) [(0, 9, 12, 13), (0, 9, 15, 15)]) [.inr (.inr x0), .inl x1, .inr (.inr x2)] A (.inl (some (.inl r))) B 7 111 1 6 := by
  refine MetV.ofVH hl (by decide +kernel) (Nat.le_of_ble_eq_true rfl) (fun κ K E => ?_)
  have K : Cx κ cL_type 4 RL 7 111 1 6 := K
  have E : EdH κ (some .int) "type" (.inl (some (.inl r))) B 1 6 [(0, 9, 12, 13), (0, 9, 15, 15)] := E
  unfold f_L_type at h
  change Vw κ A 0 0 0 [(0, .inr (.inr x0)), (1, .inl x1), (2, .inr (.inr x2))] []
  refine Vw.aload_n (pc := 0) (x := x2) K dL_type_0 rfl ?_
  refine Vw.iconst (pc := 1) (v := (0 : Int32)) K (by decide) dL_type_1 ?_
  refine Vw.aload_n (pc := 2) (x := x0) K dL_type_2 rfl ?_
  refine Vw.iload_n (pc := 3) (x := x1) K dL_type_3 rfl ?_
  obtain ⟨g1, h⟩ := wgd h
  rcases wcatE h with ⟨v2, A3, e4, h⟩ | ⟨x5, A3, e4, h⟩
  · refine Vw.cV1 (pc := 4) (v := .inl v2) (c' := 1) (n' := 6) K (s_X8_type K.tr e4) cal_X8_type cls6 u_3_31 g1 rfl ⟨by decide, by decide⟩ ⟨by decide, by decide⟩ rfl (Nat.le_of_ble_eq_true rfl) dL_type_4 rfl rfl ?_
    refine Vw.i2l (pc := 7) K dL_type_7 ?_
    obtain ⟨g6, h⟩ := wgd h
    obtain ⟨g7, h⟩ := wgd h
    refine Vw.lastore (pc := 8) K g6 g7 dL_type_8 ?_
    refine Vw.goto (pc := 9) (tgt := 18) K dL_type_9 (by decide) ?_
    refine Vw.iconst (pc := 18) (v := (0 : Int32)) K (by decide) dL_type_18 ?_
    exact Vw.iretL (pc := 19) K h E (by decide) (by decide) dL_type_19
  · by_cases c8 : x5 = 1
    · subst c8
      have h := wpos rfl h
      refine Vw.cVC (pc := 4) (hp := 12) (pre := []) (x := ⟨0, 9, 12, 13⟩) (suf := [⟨0, 9, 15, 15⟩]) (X := "java/lang/IllegalArgumentException") (c' := 1) (n' := 6) K (s_X8_type K.tr e4) cal_X8_type cls6 u_3_31 g1 rfl ⟨by decide, by decide⟩ ⟨by decide, by decide⟩ rfl (Nat.le_of_ble_eq_true rfl) dL_type_4 E.2.2.2 (fun z hz => by cases hz) (by decide) (by decide) u_3_29 (by decide) rfl dL_type_12 (by decide) rfl rfl ?_
      refine Vw.iconst (pc := 13) (v := (1 : Int32)) K (by decide) dL_type_13 ?_
      exact Vw.iretL (pc := 14) K h E (by decide) (by decide) dL_type_14
    have h := wneg c8 h
    by_cases c9 : x5 = 2
    · subst c9
      have h := wpos rfl h
      refine Vw.cVC (pc := 4) (hp := 15) (pre := [⟨0, 9, 12, 13⟩]) (x := ⟨0, 9, 15, 15⟩) (suf := []) (X := "java/lang/IllegalStateException") (c' := 1) (n' := 6) K (s_X8_type K.tr e4) cal_X8_type cls6 u_3_31 g1 rfl ⟨by decide, by decide⟩ ⟨by decide, by decide⟩ rfl (Nat.le_of_ble_eq_true rfl) dL_type_4 E.2.2.2 (fun z hz => by cases List.mem_singleton.mp hz; exact Or.inr ⟨by decide, "java/lang/IllegalArgumentException", u_3_29, by decide⟩) (by decide) (by decide) u_3_30 (by decide) rfl dL_type_15 (by decide) rfl rfl ?_
      refine Vw.iconst (pc := 16) (v := (2 : Int32)) K (by decide) dL_type_16 ?_
      exact Vw.iretL (pc := 17) K h E (by decide) (by decide) dL_type_17
    · have h := wneg c9 h
      cases h
theorem cal_L_type : wCalH yL_type (.codeWith yL_type cL_type 4 (some .int) [(0, 9, 12, 13), (0, 9, 15, 15)]) 3 := ⟨by decide +kernel, u_3_27, u_1_0, u_3_28⟩
def k_L_isSameSite_14  (A : Hp)  (t0 : Nat) (t1 : Int32) (t2 : Int64) : Option (Int32 × Hp) := if (hsh A t0).1 = 11 then if wix t1 (hsh A t0).2 then some ((0 : Int32), (hsL A 1035 t0 t1.toNatClampNeg t2)) else none else none
set_option maxRecDepth 100000 in
theorem s_L_isSameSite_14 {κ : KT} {r : Int32} {B : Hp} {A : Hp}  {t0 : Nat} {t1 : Int32} {t2 : Int64}  (K : Cx κ cL_isSameSite 3 RL 8 151 1 6) (E : EdH κ (some .int) "isSameSite" (.inl (some (.inl r))) B 1 6 [(0, 15, 18, 15)])  (h : k_L_isSameSite_14  A  t0 t1 t2 = some (r, B)) : Vw κ A 1 6 14 [] [.inr (.inl t2), .inl t1, .inr (.inr t0)] := by
  unfold k_L_isSameSite_14 at h
  obtain ⟨g1, h⟩ := wgd h
  obtain ⟨g2, h⟩ := wgd h
  refine Vw.lastore (pc := 14) K g1 g2 dL_isSameSite_14 ?_
  refine Vw.goto (pc := 15) (tgt := 21) K dL_isSameSite_15 (by decide) ?_
  refine Vw.iconst (pc := 21) (v := (0 : Int32)) K (by decide) dL_isSameSite_21 ?_
  exact Vw.iretL (pc := 22) K h E (by decide) (by decide) dL_isSameSite_22
def f_L_isSameSite (A : Hp) (x0 : Nat) (x1 : Nat) : Option (Int32 × Hp) := if (hsh A x0).1 = 7 then (wcat (f_X8_isSameSite A x0) (fun v4 A5 => (if v4 = (0 : Int32) then k_L_isSameSite_14 A5 x1 (0 : Int32) (0 : Int64) else k_L_isSameSite_14 A5 x1 (0 : Int32) (1 : Int64))) (fun x7 A5 => if x7 = 2 then some ((1 : Int32), A5) else none)) else none
set_option maxRecDepth 100000 in
theorem s_L_isSameSite {l : Launch} {g : GT} (hl : l.stackTraces = false) {A : Hp} {x0 : Nat} {x1 : Nat} {r : Int32} {B : Hp} (h : f_L_isSameSite A x0 x1 = some (r, B)) : MetV l g yL_isSameSite (.codeWith yL_isSameSite cL_isSameSite 3 (some .int) [(0, 15, 18, 15)]) [.inr (.inr x0), .inr (.inr x1)] A (.inl (some (.inl r))) B 8 151 1 6 := by
  refine MetV.ofVH hl (by decide +kernel) (Nat.le_of_ble_eq_true rfl) (fun κ K E => ?_)
  have K : Cx κ cL_isSameSite 3 RL 8 151 1 6 := K
  have E : EdH κ (some .int) "isSameSite" (.inl (some (.inl r))) B 1 6 [(0, 15, 18, 15)] := E
  unfold f_L_isSameSite at h
  change Vw κ A 0 0 0 [(0, .inr (.inr x0)), (1, .inr (.inr x1))] []
  refine Vw.aload_n (pc := 0) (x := x1) K dL_isSameSite_0 rfl ?_
  refine Vw.iconst (pc := 1) (v := (0 : Int32)) K (by decide) dL_isSameSite_1 ?_
  refine Vw.aload_n (pc := 2) (x := x0) K dL_isSameSite_2 rfl ?_
  obtain ⟨g3, h⟩ := wgd h
  rcases wcatE h with ⟨v4, A5, e6, h⟩ | ⟨x7, A5, e6, h⟩
  · refine Vw.cV1 (pc := 3) (v := .inl v4) (c' := 1) (n' := 6) K (s_X8_isSameSite K.tr e6) cal_X8_isSameSite cls6 u_3_122 g3 rfl ⟨by decide, by decide⟩ ⟨by decide, by decide⟩ rfl (Nat.le_of_ble_eq_true rfl) dL_isSameSite_3 rfl rfl ?_
    refine Vw.if_eq (pc := 6) (tgt := 13) K dL_isSameSite_6 (by decide) (fun c8 => ?_) (fun c8 => ?_)
    · have h := wpos c8 h
      refine Vw.lconst (pc := 13) (v := (0 : Int64)) K (by decide) dL_isSameSite_13 ?_
      exact Vw.loc rfl (s_L_isSameSite_14 K E  h)
    · have h := wneg c8 h
      refine Vw.lconst (pc := 9) (v := (1 : Int64)) K (by decide) dL_isSameSite_9 ?_
      refine Vw.goto (pc := 10) (tgt := 14) K dL_isSameSite_10 (by decide) ?_
      exact Vw.loc rfl (s_L_isSameSite_14 K E  h)
  · by_cases c9 : x7 = 2
    · subst c9
      have h := wpos rfl h
      refine Vw.cVC (pc := 3) (hp := 18) (pre := []) (x := ⟨0, 15, 18, 15⟩) (suf := []) (X := "java/lang/IllegalStateException") (c' := 1) (n' := 6) K (s_X8_isSameSite K.tr e6) cal_X8_isSameSite cls6 u_3_122 g3 rfl ⟨by decide, by decide⟩ ⟨by decide, by decide⟩ rfl (Nat.le_of_ble_eq_true rfl) dL_isSameSite_3 E.2.2.2 (fun z hz => by cases hz) (by decide) (by decide) u_3_30 (by decide) rfl dL_isSameSite_18 (by decide) rfl rfl ?_
      refine Vw.iconst (pc := 19) (v := (1 : Int32)) K (by decide) dL_isSameSite_19 ?_
      exact Vw.iretL (pc := 20) K h E (by decide) (by decide) dL_isSameSite_20
    · have h := wneg c9 h
      cases h
theorem cal_L_isSameSite : wCalH yL_isSameSite (.codeWith yL_isSameSite cL_isSameSite 3 (some .int) [(0, 15, 18, 15)]) 2 := ⟨by decide +kernel, u_3_120, u_1_0, u_3_121⟩
def f_L_siteChar (A : Hp) (x0 : Nat) (x1 : Int32) (x2 : Nat) : Option (Int32 × Hp) := if (hsh A x0).1 = 7 then (wcat (f_X8_siteChar A x0 x1) (fun v2 A3 => if (hsh A3 x2).1 = 11 then if wix (0 : Int32) (hsh A3 x2).2 then some ((0 : Int32), (hsL A3 1035 x2 (0 : Int32).toNatClampNeg v2.toInt64)) else none else none) (fun x5 A3 => if x5 = 2 then some ((1 : Int32), A3) else if x5 = 3 then some ((2 : Int32), A3) else none)) else none
set_option maxRecDepth 100000 in
theorem s_L_siteChar {l : Launch} {g : GT} (hl : l.stackTraces = false) {A : Hp} {x0 : Nat} {x1 : Int32} {x2 : Nat} {r : Int32} {B : Hp} (h : f_L_siteChar A x0 x1 x2 = some (r, B)) : MetV l g yL_siteChar (.codeWith yL_siteChar cL_siteChar 4 (some .int) [(0, 9, 12, 15), (0, 9, 15, 24)]) [.inr (.inr x0), .inl x1, .inr (.inr x2)] A (.inl (some (.inl r))) B 8 134 2 12 := by
  refine MetV.ofVH hl (by decide +kernel) (Nat.le_of_ble_eq_true rfl) (fun κ K E => ?_)
  have K : Cx κ cL_siteChar 4 RL 8 134 2 12 := K
  have E : EdH κ (some .int) "siteChar" (.inl (some (.inl r))) B 2 12 [(0, 9, 12, 15), (0, 9, 15, 24)] := E
  unfold f_L_siteChar at h
  change Vw κ A 0 0 0 [(0, .inr (.inr x0)), (1, .inl x1), (2, .inr (.inr x2))] []
  refine Vw.aload_n (pc := 0) (x := x2) K dL_siteChar_0 rfl ?_
  refine Vw.iconst (pc := 1) (v := (0 : Int32)) K (by decide) dL_siteChar_1 ?_
  refine Vw.aload_n (pc := 2) (x := x0) K dL_siteChar_2 rfl ?_
  refine Vw.iload_n (pc := 3) (x := x1) K dL_siteChar_3 rfl ?_
  obtain ⟨g1, h⟩ := wgd h
  rcases wcatE h with ⟨v2, A3, e4, h⟩ | ⟨x5, A3, e4, h⟩
  · refine Vw.cV1 (pc := 4) (v := .inl v2) (c' := 2) (n' := 12) K (s_X8_siteChar K.tr e4) cal_X8_siteChar cls6 u_3_170 g1 rfl ⟨by decide, by decide⟩ ⟨by decide, by decide⟩ rfl (Nat.le_of_ble_eq_true rfl) dL_siteChar_4 rfl rfl ?_
    refine Vw.i2l (pc := 7) K dL_siteChar_7 ?_
    obtain ⟨g6, h⟩ := wgd h
    obtain ⟨g7, h⟩ := wgd h
    refine Vw.lastore (pc := 8) K g6 g7 dL_siteChar_8 ?_
    refine Vw.goto (pc := 9) (tgt := 18) K dL_siteChar_9 (by decide) ?_
    refine Vw.iconst (pc := 18) (v := (0 : Int32)) K (by decide) dL_siteChar_18 ?_
    exact Vw.iretL (pc := 19) K h E (by decide) (by decide) dL_siteChar_19
  · by_cases c8 : x5 = 2
    · subst c8
      have h := wpos rfl h
      refine Vw.cVC (pc := 4) (hp := 12) (pre := []) (x := ⟨0, 9, 12, 15⟩) (suf := [⟨0, 9, 15, 24⟩]) (X := "java/lang/IllegalStateException") (c' := 2) (n' := 12) K (s_X8_siteChar K.tr e4) cal_X8_siteChar cls6 u_3_170 g1 rfl ⟨by decide, by decide⟩ ⟨by decide, by decide⟩ rfl (Nat.le_of_ble_eq_true rfl) dL_siteChar_4 E.2.2.2 (fun z hz => by cases hz) (by decide) (by decide) u_3_30 (by decide) rfl dL_siteChar_12 (by decide) rfl rfl ?_
      refine Vw.iconst (pc := 13) (v := (1 : Int32)) K (by decide) dL_siteChar_13 ?_
      exact Vw.iretL (pc := 14) K h E (by decide) (by decide) dL_siteChar_14
    have h := wneg c8 h
    by_cases c9 : x5 = 3
    · subst c9
      have h := wpos rfl h
      refine Vw.cVC (pc := 4) (hp := 15) (pre := [⟨0, 9, 12, 15⟩]) (x := ⟨0, 9, 15, 24⟩) (suf := []) (X := "java/lang/IndexOutOfBoundsException") (c' := 2) (n' := 12) K (s_X8_siteChar K.tr e4) cal_X8_siteChar cls6 u_3_170 g1 rfl ⟨by decide, by decide⟩ ⟨by decide, by decide⟩ rfl (Nat.le_of_ble_eq_true rfl) dL_siteChar_4 E.2.2.2 (fun z hz => by cases List.mem_singleton.mp hz; exact Or.inr ⟨by decide, "java/lang/IllegalStateException", u_3_30, by decide⟩) (by decide) (by decide) u_3_169 (by decide) rfl dL_siteChar_15 (by decide) rfl rfl ?_
      refine Vw.iconst (pc := 16) (v := (2 : Int32)) K (by decide) dL_siteChar_16 ?_
      exact Vw.iretL (pc := 17) K h E (by decide) (by decide) dL_siteChar_17
    · have h := wneg c9 h
      cases h
theorem cal_L_siteChar : wCalH yL_siteChar (.codeWith yL_siteChar cL_siteChar 4 (some .int) [(0, 9, 12, 15), (0, 9, 15, 24)]) 3 := ⟨by decide +kernel, u_3_167, u_1_0, u_3_168⟩
def f_L_addSuffix (A : Hp) (x0 : Nat) (x1 : Nat) : Option (Int32 × Hp) := if (hsh A x0).1 = 7 then (wcat (f_X8_addSuffix A x0) (fun v2 A3 => if (hsh A3 x1).1 = 11 then if wix (0 : Int32) (hsh A3 x1).2 then some ((0 : Int32), (hsL A3 1035 x1 (0 : Int32).toNatClampNeg v2.toInt64)) else none else none) (fun x5 A3 => if x5 = 1 then some ((1 : Int32), A3) else if x5 = 2 then some ((2 : Int32), A3) else none)) else none
set_option maxRecDepth 100000 in
theorem s_L_addSuffix {l : Launch} {g : GT} (hl : l.stackTraces = false) {A : Hp} {x0 : Nat} {x1 : Nat} {r : Int32} {B : Hp} (h : f_L_addSuffix A x0 x1 = some (r, B)) : MetV l g yL_addSuffix (.codeWith yL_addSuffix cL_addSuffix 3 (some .int) [(0, 8, 11, 13), (0, 8, 14, 15)]) [.inr (.inr x0), .inr (.inr x1)] A (.inl (some (.inl r))) B 7 114 1 6 := by
  refine MetV.ofVH hl (by decide +kernel) (Nat.le_of_ble_eq_true rfl) (fun κ K E => ?_)
  have K : Cx κ cL_addSuffix 3 RL 7 114 1 6 := K
  have E : EdH κ (some .int) "addSuffix" (.inl (some (.inl r))) B 1 6 [(0, 8, 11, 13), (0, 8, 14, 15)] := E
  unfold f_L_addSuffix at h
  change Vw κ A 0 0 0 [(0, .inr (.inr x0)), (1, .inr (.inr x1))] []
  refine Vw.aload_n (pc := 0) (x := x1) K dL_addSuffix_0 rfl ?_
  refine Vw.iconst (pc := 1) (v := (0 : Int32)) K (by decide) dL_addSuffix_1 ?_
  refine Vw.aload_n (pc := 2) (x := x0) K dL_addSuffix_2 rfl ?_
  obtain ⟨g1, h⟩ := wgd h
  rcases wcatE h with ⟨v2, A3, e4, h⟩ | ⟨x5, A3, e4, h⟩
  · refine Vw.cV1 (pc := 3) (v := .inl v2) (c' := 1) (n' := 6) K (s_X8_addSuffix K.tr e4) cal_X8_addSuffix cls6 u_3_199 g1 rfl ⟨by decide, by decide⟩ ⟨by decide, by decide⟩ rfl (Nat.le_of_ble_eq_true rfl) dL_addSuffix_3 rfl rfl ?_
    refine Vw.i2l (pc := 6) K dL_addSuffix_6 ?_
    obtain ⟨g6, h⟩ := wgd h
    obtain ⟨g7, h⟩ := wgd h
    refine Vw.lastore (pc := 7) K g6 g7 dL_addSuffix_7 ?_
    refine Vw.goto (pc := 8) (tgt := 17) K dL_addSuffix_8 (by decide) ?_
    refine Vw.iconst (pc := 17) (v := (0 : Int32)) K (by decide) dL_addSuffix_17 ?_
    exact Vw.iretL (pc := 18) K h E (by decide) (by decide) dL_addSuffix_18
  · by_cases c8 : x5 = 1
    · subst c8
      have h := wpos rfl h
      refine Vw.cVC (pc := 3) (hp := 11) (pre := []) (x := ⟨0, 8, 11, 13⟩) (suf := [⟨0, 8, 14, 15⟩]) (X := "java/lang/IllegalArgumentException") (c' := 1) (n' := 6) K (s_X8_addSuffix K.tr e4) cal_X8_addSuffix cls6 u_3_199 g1 rfl ⟨by decide, by decide⟩ ⟨by decide, by decide⟩ rfl (Nat.le_of_ble_eq_true rfl) dL_addSuffix_3 E.2.2.2 (fun z hz => by cases hz) (by decide) (by decide) u_3_29 (by decide) rfl dL_addSuffix_11 (by decide) rfl rfl ?_
      refine Vw.iconst (pc := 12) (v := (1 : Int32)) K (by decide) dL_addSuffix_12 ?_
      exact Vw.iretL (pc := 13) K h E (by decide) (by decide) dL_addSuffix_13
    have h := wneg c8 h
    by_cases c9 : x5 = 2
    · subst c9
      have h := wpos rfl h
      refine Vw.cVC (pc := 3) (hp := 14) (pre := [⟨0, 8, 11, 13⟩]) (x := ⟨0, 8, 14, 15⟩) (suf := []) (X := "java/lang/IllegalStateException") (c' := 1) (n' := 6) K (s_X8_addSuffix K.tr e4) cal_X8_addSuffix cls6 u_3_199 g1 rfl ⟨by decide, by decide⟩ ⟨by decide, by decide⟩ rfl (Nat.le_of_ble_eq_true rfl) dL_addSuffix_3 E.2.2.2 (fun z hz => by cases List.mem_singleton.mp hz; exact Or.inr ⟨by decide, "java/lang/IllegalArgumentException", u_3_29, by decide⟩) (by decide) (by decide) u_3_30 (by decide) rfl dL_addSuffix_14 (by decide) rfl rfl ?_
      refine Vw.iconst (pc := 15) (v := (2 : Int32)) K (by decide) dL_addSuffix_15 ?_
      exact Vw.iretL (pc := 16) K h E (by decide) (by decide) dL_addSuffix_16
    · have h := wneg c9 h
      cases h
theorem cal_L_addSuffix : wCalH yL_addSuffix (.codeWith yL_addSuffix cL_addSuffix 3 (some .int) [(0, 8, 11, 13), (0, 8, 14, 15)]) 2 := ⟨by decide +kernel, u_3_197, u_1_0, u_3_198⟩
def f_L_receive (A : Hp) (x0 : Nat) (x1 : Int32) (x2 : Nat) : Option (Int32 × Hp) := if (hsh A x0).1 = 7 then (wcat (f_X8_receive A x0 x1) (fun v2 A3 => if (hsh A3 x2).1 = 11 then if wix (0 : Int32) (hsh A3 x2).2 then some ((0 : Int32), (hsL A3 1035 x2 (0 : Int32).toNatClampNeg v2.toInt64)) else none else none) (fun x5 A3 => if x5 = 2 then some ((1 : Int32), A3) else none)) else none
set_option maxRecDepth 100000 in
theorem s_L_receive {l : Launch} {g : GT} (hl : l.stackTraces = false) {A : Hp} {x0 : Nat} {x1 : Int32} {x2 : Nat} {r : Int32} {B : Hp} (h : f_L_receive A x0 x1 x2 = some (r, B)) : MetV l g yL_receive (.codeWith yL_receive cL_receive 4 (some .int) [(0, 9, 12, 15)]) [.inr (.inr x0), .inl x1, .inr (.inr x2)] A (.inl (some (.inl r))) B 10 226 1 6 := by
  refine MetV.ofVH hl (by decide +kernel) (Nat.le_of_ble_eq_true rfl) (fun κ K E => ?_)
  have K : Cx κ cL_receive 4 RL 10 226 1 6 := K
  have E : EdH κ (some .int) "receive" (.inl (some (.inl r))) B 1 6 [(0, 9, 12, 15)] := E
  unfold f_L_receive at h
  change Vw κ A 0 0 0 [(0, .inr (.inr x0)), (1, .inl x1), (2, .inr (.inr x2))] []
  refine Vw.aload_n (pc := 0) (x := x2) K dL_receive_0 rfl ?_
  refine Vw.iconst (pc := 1) (v := (0 : Int32)) K (by decide) dL_receive_1 ?_
  refine Vw.aload_n (pc := 2) (x := x0) K dL_receive_2 rfl ?_
  refine Vw.iload_n (pc := 3) (x := x1) K dL_receive_3 rfl ?_
  obtain ⟨g1, h⟩ := wgd h
  rcases wcatE h with ⟨v2, A3, e4, h⟩ | ⟨x5, A3, e4, h⟩
  · refine Vw.cV1 (pc := 4) (v := .inl v2) (c' := 1) (n' := 6) K (s_X8_receive K.tr e4) cal_X8_receive cls6 u_3_231 g1 rfl ⟨by decide, by decide⟩ ⟨by decide, by decide⟩ rfl (Nat.le_of_ble_eq_true rfl) dL_receive_4 rfl rfl ?_
    refine Vw.i2l (pc := 7) K dL_receive_7 ?_
    obtain ⟨g6, h⟩ := wgd h
    obtain ⟨g7, h⟩ := wgd h
    refine Vw.lastore (pc := 8) K g6 g7 dL_receive_8 ?_
    refine Vw.goto (pc := 9) (tgt := 15) K dL_receive_9 (by decide) ?_
    refine Vw.iconst (pc := 15) (v := (0 : Int32)) K (by decide) dL_receive_15 ?_
    exact Vw.iretL (pc := 16) K h E (by decide) (by decide) dL_receive_16
  · by_cases c8 : x5 = 2
    · subst c8
      have h := wpos rfl h
      refine Vw.cVC (pc := 4) (hp := 12) (pre := []) (x := ⟨0, 9, 12, 15⟩) (suf := []) (X := "java/lang/IllegalStateException") (c' := 1) (n' := 6) K (s_X8_receive K.tr e4) cal_X8_receive cls6 u_3_231 g1 rfl ⟨by decide, by decide⟩ ⟨by decide, by decide⟩ rfl (Nat.le_of_ble_eq_true rfl) dL_receive_4 E.2.2.2 (fun z hz => by cases hz) (by decide) (by decide) u_3_30 (by decide) rfl dL_receive_12 (by decide) rfl rfl ?_
      refine Vw.iconst (pc := 13) (v := (1 : Int32)) K (by decide) dL_receive_13 ?_
      exact Vw.iretL (pc := 14) K h E (by decide) (by decide) dL_receive_14
    · have h := wneg c8 h
      cases h
theorem cal_L_receive : wCalH yL_receive (.codeWith yL_receive cL_receive 4 (some .int) [(0, 9, 12, 15)]) 3 := ⟨by decide +kernel, u_3_229, u_1_0, u_3_230⟩
def f_L_rejection (A : Hp) (x0 : Nat) (x1 : Int32) (x2 : Nat) : Option (Int32 × Hp) := if (hsh A x0).1 = 7 then (wcat (f_X8_rejection A x0 x1) (fun v2 A3 => if (hsh A3 x2).1 = 11 then if wix (0 : Int32) (hsh A3 x2).2 then some ((0 : Int32), (hsL A3 1035 x2 (0 : Int32).toNatClampNeg v2.toInt64)) else none else none) (fun x5 A3 => if x5 = 3 then some ((1 : Int32), A3) else none)) else none
set_option maxRecDepth 100000 in
theorem s_L_rejection {l : Launch} {g : GT} (hl : l.stackTraces = false) {A : Hp} {x0 : Nat} {x1 : Int32} {x2 : Nat} {r : Int32} {B : Hp} (h : f_L_rejection A x0 x1 x2 = some (r, B)) : MetV l g yL_rejection (.codeWith yL_rejection cL_rejection 4 (some .int) [(0, 9, 12, 24)]) [.inr (.inr x0), .inl x1, .inr (.inr x2)] A (.inl (some (.inl r))) B 7 111 1 6 := by
  refine MetV.ofVH hl (by decide +kernel) (Nat.le_of_ble_eq_true rfl) (fun κ K E => ?_)
  have K : Cx κ cL_rejection 4 RL 7 111 1 6 := K
  have E : EdH κ (some .int) "rejection" (.inl (some (.inl r))) B 1 6 [(0, 9, 12, 24)] := E
  unfold f_L_rejection at h
  change Vw κ A 0 0 0 [(0, .inr (.inr x0)), (1, .inl x1), (2, .inr (.inr x2))] []
  refine Vw.aload_n (pc := 0) (x := x2) K dL_rejection_0 rfl ?_
  refine Vw.iconst (pc := 1) (v := (0 : Int32)) K (by decide) dL_rejection_1 ?_
  refine Vw.aload_n (pc := 2) (x := x0) K dL_rejection_2 rfl ?_
  refine Vw.iload_n (pc := 3) (x := x1) K dL_rejection_3 rfl ?_
  obtain ⟨g1, h⟩ := wgd h
  rcases wcatE h with ⟨v2, A3, e4, h⟩ | ⟨x5, A3, e4, h⟩
  · refine Vw.cV1 (pc := 4) (v := .inl v2) (c' := 1) (n' := 6) K (s_X8_rejection K.tr e4) cal_X8_rejection cls6 u_4_235 g1 rfl ⟨by decide, by decide⟩ ⟨by decide, by decide⟩ rfl (Nat.le_of_ble_eq_true rfl) dL_rejection_4 rfl rfl ?_
    refine Vw.i2l (pc := 7) K dL_rejection_7 ?_
    obtain ⟨g6, h⟩ := wgd h
    obtain ⟨g7, h⟩ := wgd h
    refine Vw.lastore (pc := 8) K g6 g7 dL_rejection_8 ?_
    refine Vw.goto (pc := 9) (tgt := 15) K dL_rejection_9 (by decide) ?_
    refine Vw.iconst (pc := 15) (v := (0 : Int32)) K (by decide) dL_rejection_15 ?_
    exact Vw.iretL (pc := 16) K h E (by decide) (by decide) dL_rejection_16
  · by_cases c8 : x5 = 3
    · subst c8
      have h := wpos rfl h
      refine Vw.cVC (pc := 4) (hp := 12) (pre := []) (x := ⟨0, 9, 12, 24⟩) (suf := []) (X := "java/lang/IndexOutOfBoundsException") (c' := 1) (n' := 6) K (s_X8_rejection K.tr e4) cal_X8_rejection cls6 u_4_235 g1 rfl ⟨by decide, by decide⟩ ⟨by decide, by decide⟩ rfl (Nat.le_of_ble_eq_true rfl) dL_rejection_4 E.2.2.2 (fun z hz => by cases hz) (by decide) (by decide) u_3_169 (by decide) rfl dL_rejection_12 (by decide) rfl rfl ?_
      refine Vw.iconst (pc := 13) (v := (1 : Int32)) K (by decide) dL_rejection_13 ?_
      exact Vw.iretL (pc := 14) K h E (by decide) (by decide) dL_rejection_14
    · have h := wneg c8 h
      cases h
theorem cal_L_rejection : wCalH yL_rejection (.codeWith yL_rejection cL_rejection 4 (some .int) [(0, 9, 12, 24)]) 3 := ⟨by decide +kernel, u_4_233, u_1_0, u_4_234⟩
def f_L_send (A : Hp) (x0 : Nat) (x1 : Int32) (x2 : Int32) (x3 : Nat) : Option (Int32 × Hp) := if (hsh A x0).1 = 7 then (wcat (f_X8_send A x0 x1 x2) (fun v2 A3 => if (hsh A3 x3).1 = 11 then if wix (0 : Int32) (hsh A3 x3).2 then some ((0 : Int32), (hsL A3 1035 x3 (0 : Int32).toNatClampNeg v2.toInt64)) else none else none) (fun x5 A3 => if x5 = 2 then some ((1 : Int32), A3) else none)) else none
set_option maxRecDepth 100000 in
theorem s_L_send {l : Launch} {g : GT} (hl : l.stackTraces = false) {A : Hp} {x0 : Nat} {x1 : Int32} {x2 : Int32} {x3 : Nat} {r : Int32} {B : Hp} (h : f_L_send A x0 x1 x2 x3 = some (r, B)) : MetV l g yL_send (.codeWith yL_send cL_send 5 (some .int) [(0, 10, 13, 15)]) [.inr (.inr x0), .inl x1, .inl x2, .inr (.inr x3)] A (.inl (some (.inl r))) B 8 153 1 6 := by
  refine MetV.ofVH hl (by decide +kernel) (Nat.le_of_ble_eq_true rfl) (fun κ K E => ?_)
  have K : Cx κ cL_send 5 RL 8 153 1 6 := K
  have E : EdH κ (some .int) "send" (.inl (some (.inl r))) B 1 6 [(0, 10, 13, 15)] := E
  unfold f_L_send at h
  change Vw κ A 0 0 0 [(0, .inr (.inr x0)), (1, .inl x1), (2, .inl x2), (3, .inr (.inr x3))] []
  refine Vw.aload_n (pc := 0) (x := x3) K dL_send_0 rfl ?_
  refine Vw.iconst (pc := 1) (v := (0 : Int32)) K (by decide) dL_send_1 ?_
  refine Vw.aload_n (pc := 2) (x := x0) K dL_send_2 rfl ?_
  refine Vw.iload_n (pc := 3) (x := x1) K dL_send_3 rfl ?_
  refine Vw.iload_n (pc := 4) (x := x2) K dL_send_4 rfl ?_
  obtain ⟨g1, h⟩ := wgd h
  rcases wcatE h with ⟨v2, A3, e4, h⟩ | ⟨x5, A3, e4, h⟩
  · refine Vw.cV1 (pc := 5) (v := .inl v2) (c' := 1) (n' := 6) K (s_X8_send K.tr e4) cal_X8_send cls6 u_5_3 g1 rfl ⟨by decide, by decide⟩ ⟨by decide, by decide⟩ rfl (Nat.le_of_ble_eq_true rfl) dL_send_5 rfl rfl ?_
    refine Vw.i2l (pc := 8) K dL_send_8 ?_
    obtain ⟨g6, h⟩ := wgd h
    obtain ⟨g7, h⟩ := wgd h
    refine Vw.lastore (pc := 9) K g6 g7 dL_send_9 ?_
    refine Vw.goto (pc := 10) (tgt := 17) K dL_send_10 (by decide) ?_
    refine Vw.iconst (pc := 17) (v := (0 : Int32)) K (by decide) dL_send_17 ?_
    exact Vw.iretL (pc := 18) K h E (by decide) (by decide) dL_send_18
  · by_cases c8 : x5 = 2
    · subst c8
      have h := wpos rfl h
      refine Vw.cVD (pc := 5) (hp := 13) (pre := []) (x := ⟨0, 10, 13, 15⟩) (suf := []) (X := "java/lang/IllegalStateException") (c' := 1) (n' := 6) K (s_X8_send K.tr e4) cal_X8_send cls6 u_5_3 g1 rfl ⟨by decide, by decide⟩ ⟨by decide, by decide⟩ rfl (Nat.le_of_ble_eq_true rfl) dL_send_5 E.2.2.2 (fun z hz => by cases hz) (by decide) (by decide) u_3_30 (by decide) rfl dL_send_13 (by decide) rfl rfl ?_
      refine Vw.iconst (pc := 15) (v := (1 : Int32)) K (by decide) dL_send_15 ?_
      exact Vw.iretL (pc := 16) K h E (by decide) (by decide) dL_send_16
    · have h := wneg c8 h
      cases h
theorem cal_L_send : wCalH yL_send (.codeWith yL_send cL_send 5 (some .int) [(0, 10, 13, 15)]) 4 := ⟨by decide +kernel, u_5_1, u_1_0, u_5_2⟩
def f_L_headerChar (A : Hp) (x0 : Nat) (x1 : Int32) (x2 : Nat) : Option (Int32 × Hp) := if (hsh A x0).1 = 7 then (wcat (f_X8_headerChar A x0 x1) (fun v2 A3 => if (hsh A3 x2).1 = 11 then if wix (0 : Int32) (hsh A3 x2).2 then some ((0 : Int32), (hsL A3 1035 x2 (0 : Int32).toNatClampNeg v2.toInt64)) else none else none) (fun x5 A3 => if x5 = 3 then some ((1 : Int32), A3) else none)) else none
set_option maxRecDepth 100000 in
theorem s_L_headerChar {l : Launch} {g : GT} (hl : l.stackTraces = false) {A : Hp} {x0 : Nat} {x1 : Int32} {x2 : Nat} {r : Int32} {B : Hp} (h : f_L_headerChar A x0 x1 x2 = some (r, B)) : MetV l g yL_headerChar (.codeWith yL_headerChar cL_headerChar 4 (some .int) [(0, 9, 12, 24)]) [.inr (.inr x0), .inl x1, .inr (.inr x2)] A (.inl (some (.inl r))) B 8 132 1 6 := by
  refine MetV.ofVH hl (by decide +kernel) (Nat.le_of_ble_eq_true rfl) (fun κ K E => ?_)
  have K : Cx κ cL_headerChar 4 RL 8 132 1 6 := K
  have E : EdH κ (some .int) "headerChar" (.inl (some (.inl r))) B 1 6 [(0, 9, 12, 24)] := E
  unfold f_L_headerChar at h
  change Vw κ A 0 0 0 [(0, .inr (.inr x0)), (1, .inl x1), (2, .inr (.inr x2))] []
  refine Vw.aload_n (pc := 0) (x := x2) K dL_headerChar_0 rfl ?_
  refine Vw.iconst (pc := 1) (v := (0 : Int32)) K (by decide) dL_headerChar_1 ?_
  refine Vw.aload_n (pc := 2) (x := x0) K dL_headerChar_2 rfl ?_
  refine Vw.iload_n (pc := 3) (x := x1) K dL_headerChar_3 rfl ?_
  obtain ⟨g1, h⟩ := wgd h
  rcases wcatE h with ⟨v2, A3, e4, h⟩ | ⟨x5, A3, e4, h⟩
  · refine Vw.cV1 (pc := 4) (v := .inl v2) (c' := 1) (n' := 6) K (s_X8_headerChar K.tr e4) cal_X8_headerChar cls6 u_5_36 g1 rfl ⟨by decide, by decide⟩ ⟨by decide, by decide⟩ rfl (Nat.le_of_ble_eq_true rfl) dL_headerChar_4 rfl rfl ?_
    refine Vw.i2l (pc := 7) K dL_headerChar_7 ?_
    obtain ⟨g6, h⟩ := wgd h
    obtain ⟨g7, h⟩ := wgd h
    refine Vw.lastore (pc := 8) K g6 g7 dL_headerChar_8 ?_
    refine Vw.goto (pc := 9) (tgt := 15) K dL_headerChar_9 (by decide) ?_
    refine Vw.iconst (pc := 15) (v := (0 : Int32)) K (by decide) dL_headerChar_15 ?_
    exact Vw.iretL (pc := 16) K h E (by decide) (by decide) dL_headerChar_16
  · by_cases c8 : x5 = 3
    · subst c8
      have h := wpos rfl h
      refine Vw.cVC (pc := 4) (hp := 12) (pre := []) (x := ⟨0, 9, 12, 24⟩) (suf := []) (X := "java/lang/IndexOutOfBoundsException") (c' := 1) (n' := 6) K (s_X8_headerChar K.tr e4) cal_X8_headerChar cls6 u_5_36 g1 rfl ⟨by decide, by decide⟩ ⟨by decide, by decide⟩ rfl (Nat.le_of_ble_eq_true rfl) dL_headerChar_4 E.2.2.2 (fun z hz => by cases hz) (by decide) (by decide) u_3_169 (by decide) rfl dL_headerChar_12 (by decide) rfl rfl ?_
      refine Vw.iconst (pc := 13) (v := (1 : Int32)) K (by decide) dL_headerChar_13 ?_
      exact Vw.iretL (pc := 14) K h E (by decide) (by decide) dL_headerChar_14
    · have h := wneg c8 h
      cases h
theorem cal_L_headerChar : wCalH yL_headerChar (.codeWith yL_headerChar cL_headerChar 4 (some .int) [(0, 9, 12, 24)]) 3 := ⟨by decide +kernel, u_5_34, u_1_0, u_5_35⟩
def k_L_wouldSend_18  (A : Hp)  (t0 : Nat) (t1 : Int32) (t2 : Int64) : Option (Int32 × Hp) := if (hsh A t0).1 = 11 then if wix t1 (hsh A t0).2 then some ((0 : Int32), (hsL A 1035 t0 t1.toNatClampNeg t2)) else none else none
set_option maxRecDepth 100000 in
theorem s_L_wouldSend_18 {κ : KT} {r : Int32} {B : Hp} {A : Hp}  {t0 : Nat} {t1 : Int32} {t2 : Int64}  (K : Cx κ cL_wouldSend 6 RL 9 155 2 12) (E : EdH κ (some .int) "wouldSend" (.inl (some (.inl r))) B 2 12 [(0, 19, 22, 15), (0, 19, 26, 24)])  (h : k_L_wouldSend_18  A  t0 t1 t2 = some (r, B)) : Vw κ A 2 12 18 [] [.inr (.inl t2), .inl t1, .inr (.inr t0)] := by
  unfold k_L_wouldSend_18 at h
  obtain ⟨g1, h⟩ := wgd h
  obtain ⟨g2, h⟩ := wgd h
  refine Vw.lastore (pc := 18) K g1 g2 dL_wouldSend_18 ?_
  refine Vw.goto (pc := 19) (tgt := 30) K dL_wouldSend_19 (by decide) ?_
  refine Vw.iconst (pc := 30) (v := (0 : Int32)) K (by decide) dL_wouldSend_30 ?_
  exact Vw.iretL (pc := 31) K h E (by decide) (by decide) dL_wouldSend_31
def f_L_wouldSend (A : Hp) (x0 : Nat) (x1 : Int32) (x2 : Int32) (x3 : Int32) (x4 : Nat) : Option (Int32 × Hp) := if (hsh A x0).1 = 7 then (wcat (f_X8_wouldSend A x0 x1 x2 x3) (fun v4 A5 => (if v4 = (0 : Int32) then k_L_wouldSend_18 A5 x4 (0 : Int32) (0 : Int64) else k_L_wouldSend_18 A5 x4 (0 : Int32) (1 : Int64))) (fun x7 A5 => if x7 = 2 then some ((1 : Int32), A5) else if x7 = 3 then some ((2 : Int32), A5) else none)) else none
set_option maxRecDepth 100000 in
theorem s_L_wouldSend {l : Launch} {g : GT} (hl : l.stackTraces = false) {A : Hp} {x0 : Nat} {x1 : Int32} {x2 : Int32} {x3 : Int32} {x4 : Nat} {r : Int32} {B : Hp} (h : f_L_wouldSend A x0 x1 x2 x3 x4 = some (r, B)) : MetV l g yL_wouldSend (.codeWith yL_wouldSend cL_wouldSend 6 (some .int) [(0, 19, 22, 15), (0, 19, 26, 24)]) [.inr (.inr x0), .inl x1, .inl x2, .inl x3, .inr (.inr x4)] A (.inl (some (.inl r))) B 9 155 2 12 := by
  refine MetV.ofVH hl (by decide +kernel) (Nat.le_of_ble_eq_true rfl) (fun κ K E => ?_)
  have K : Cx κ cL_wouldSend 6 RL 9 155 2 12 := K
  have E : EdH κ (some .int) "wouldSend" (.inl (some (.inl r))) B 2 12 [(0, 19, 22, 15), (0, 19, 26, 24)] := E
  unfold f_L_wouldSend at h
  change Vw κ A 0 0 0 [(0, .inr (.inr x0)), (1, .inl x1), (2, .inl x2), (3, .inl x3), (4, .inr (.inr x4))] []
  refine Vw.aload (pc := 0) (x := x4) K dL_wouldSend_0 rfl ?_
  refine Vw.iconst (pc := 2) (v := (0 : Int32)) K (by decide) dL_wouldSend_2 ?_
  refine Vw.aload_n (pc := 3) (x := x0) K dL_wouldSend_3 rfl ?_
  refine Vw.iload_n (pc := 4) (x := x1) K dL_wouldSend_4 rfl ?_
  refine Vw.iload_n (pc := 5) (x := x2) K dL_wouldSend_5 rfl ?_
  refine Vw.iload_n (pc := 6) (x := x3) K dL_wouldSend_6 rfl ?_
  obtain ⟨g3, h⟩ := wgd h
  rcases wcatE h with ⟨v4, A5, e6, h⟩ | ⟨x7, A5, e6, h⟩
  · refine Vw.cV1 (pc := 7) (v := .inl v4) (c' := 2) (n' := 12) K (s_X8_wouldSend K.tr e6) cal_X8_wouldSend cls6 u_5_43 g3 rfl ⟨by decide, by decide⟩ ⟨by decide, by decide⟩ rfl (Nat.le_of_ble_eq_true rfl) dL_wouldSend_7 rfl rfl ?_
    refine Vw.if_eq (pc := 10) (tgt := 17) K dL_wouldSend_10 (by decide) (fun c8 => ?_) (fun c8 => ?_)
    · have h := wpos c8 h
      refine Vw.lconst (pc := 17) (v := (0 : Int64)) K (by decide) dL_wouldSend_17 ?_
      exact Vw.loc rfl (s_L_wouldSend_18 K E  h)
    · have h := wneg c8 h
      refine Vw.lconst (pc := 13) (v := (1 : Int64)) K (by decide) dL_wouldSend_13 ?_
      refine Vw.goto (pc := 14) (tgt := 18) K dL_wouldSend_14 (by decide) ?_
      exact Vw.loc rfl (s_L_wouldSend_18 K E  h)
  · by_cases c9 : x7 = 2
    · subst c9
      have h := wpos rfl h
      refine Vw.cVD (pc := 7) (hp := 22) (pre := []) (x := ⟨0, 19, 22, 15⟩) (suf := [⟨0, 19, 26, 24⟩]) (X := "java/lang/IllegalStateException") (c' := 2) (n' := 12) K (s_X8_wouldSend K.tr e6) cal_X8_wouldSend cls6 u_5_43 g3 rfl ⟨by decide, by decide⟩ ⟨by decide, by decide⟩ rfl (Nat.le_of_ble_eq_true rfl) dL_wouldSend_7 E.2.2.2 (fun z hz => by cases hz) (by decide) (by decide) u_3_30 (by decide) rfl dL_wouldSend_22 (by decide) rfl rfl ?_
      refine Vw.iconst (pc := 24) (v := (1 : Int32)) K (by decide) dL_wouldSend_24 ?_
      exact Vw.iretL (pc := 25) K h E (by decide) (by decide) dL_wouldSend_25
    have h := wneg c9 h
    by_cases c10 : x7 = 3
    · subst c10
      have h := wpos rfl h
      refine Vw.cVD (pc := 7) (hp := 26) (pre := [⟨0, 19, 22, 15⟩]) (x := ⟨0, 19, 26, 24⟩) (suf := []) (X := "java/lang/IndexOutOfBoundsException") (c' := 2) (n' := 12) K (s_X8_wouldSend K.tr e6) cal_X8_wouldSend cls6 u_5_43 g3 rfl ⟨by decide, by decide⟩ ⟨by decide, by decide⟩ rfl (Nat.le_of_ble_eq_true rfl) dL_wouldSend_7 E.2.2.2 (fun z hz => by cases List.mem_singleton.mp hz; exact Or.inr ⟨by decide, "java/lang/IllegalStateException", u_3_30, by decide⟩) (by decide) (by decide) u_3_169 (by decide) rfl dL_wouldSend_26 (by decide) rfl rfl ?_
      refine Vw.iconst (pc := 28) (v := (2 : Int32)) K (by decide) dL_wouldSend_28 ?_
      exact Vw.iretL (pc := 29) K h E (by decide) (by decide) dL_wouldSend_29
    · have h := wneg c10 h
      cases h
theorem cal_L_wouldSend : wCalH yL_wouldSend (.codeWith yL_wouldSend cL_wouldSend 6 (some .int) [(0, 19, 22, 15), (0, 19, 26, 24)]) 5 := ⟨by decide +kernel, u_5_41, u_1_0, u_5_42⟩
def f_L_nameChar (A : Hp) (x0 : Nat) (x1 : Int32) (x2 : Int32) (x3 : Nat) : Option (Int32 × Hp) := if (hsh A x0).1 = 7 then (wcat (f_X8_nameChar A x0 x1 x2) (fun v2 A3 => if (hsh A3 x3).1 = 11 then if wix (0 : Int32) (hsh A3 x3).2 then some ((0 : Int32), (hsL A3 1035 x3 (0 : Int32).toNatClampNeg v2.toInt64)) else none else none) (fun x5 A3 => if x5 = 3 then some ((1 : Int32), A3) else none)) else none
set_option maxRecDepth 100000 in
theorem s_L_nameChar {l : Launch} {g : GT} (hl : l.stackTraces = false) {A : Hp} {x0 : Nat} {x1 : Int32} {x2 : Int32} {x3 : Nat} {r : Int32} {B : Hp} (h : f_L_nameChar A x0 x1 x2 x3 = some (r, B)) : MetV l g yL_nameChar (.codeWith yL_nameChar cL_nameChar 5 (some .int) [(0, 10, 13, 24)]) [.inr (.inr x0), .inl x1, .inl x2, .inr (.inr x3)] A (.inl (some (.inl r))) B 9 154 2 12 := by
  refine MetV.ofVH hl (by decide +kernel) (Nat.le_of_ble_eq_true rfl) (fun κ K E => ?_)
  have K : Cx κ cL_nameChar 5 RL 9 154 2 12 := K
  have E : EdH κ (some .int) "nameChar" (.inl (some (.inl r))) B 2 12 [(0, 10, 13, 24)] := E
  unfold f_L_nameChar at h
  change Vw κ A 0 0 0 [(0, .inr (.inr x0)), (1, .inl x1), (2, .inl x2), (3, .inr (.inr x3))] []
  refine Vw.aload_n (pc := 0) (x := x3) K dL_nameChar_0 rfl ?_
  refine Vw.iconst (pc := 1) (v := (0 : Int32)) K (by decide) dL_nameChar_1 ?_
  refine Vw.aload_n (pc := 2) (x := x0) K dL_nameChar_2 rfl ?_
  refine Vw.iload_n (pc := 3) (x := x1) K dL_nameChar_3 rfl ?_
  refine Vw.iload_n (pc := 4) (x := x2) K dL_nameChar_4 rfl ?_
  obtain ⟨g1, h⟩ := wgd h
  rcases wcatE h with ⟨v2, A3, e4, h⟩ | ⟨x5, A3, e4, h⟩
  · refine Vw.cV1 (pc := 5) (v := .inl v2) (c' := 2) (n' := 12) K (s_X8_nameChar K.tr e4) cal_X8_nameChar cls6 u_5_60 g1 rfl ⟨by decide, by decide⟩ ⟨by decide, by decide⟩ rfl (Nat.le_of_ble_eq_true rfl) dL_nameChar_5 rfl rfl ?_
    refine Vw.i2l (pc := 8) K dL_nameChar_8 ?_
    obtain ⟨g6, h⟩ := wgd h
    obtain ⟨g7, h⟩ := wgd h
    refine Vw.lastore (pc := 9) K g6 g7 dL_nameChar_9 ?_
    refine Vw.goto (pc := 10) (tgt := 17) K dL_nameChar_10 (by decide) ?_
    refine Vw.iconst (pc := 17) (v := (0 : Int32)) K (by decide) dL_nameChar_17 ?_
    exact Vw.iretL (pc := 18) K h E (by decide) (by decide) dL_nameChar_18
  · by_cases c8 : x5 = 3
    · subst c8
      have h := wpos rfl h
      refine Vw.cVD (pc := 5) (hp := 13) (pre := []) (x := ⟨0, 10, 13, 24⟩) (suf := []) (X := "java/lang/IndexOutOfBoundsException") (c' := 2) (n' := 12) K (s_X8_nameChar K.tr e4) cal_X8_nameChar cls6 u_5_60 g1 rfl ⟨by decide, by decide⟩ ⟨by decide, by decide⟩ rfl (Nat.le_of_ble_eq_true rfl) dL_nameChar_5 E.2.2.2 (fun z hz => by cases hz) (by decide) (by decide) u_3_169 (by decide) rfl dL_nameChar_13 (by decide) rfl rfl ?_
      refine Vw.iconst (pc := 15) (v := (1 : Int32)) K (by decide) dL_nameChar_15 ?_
      exact Vw.iretL (pc := 16) K h E (by decide) (by decide) dL_nameChar_16
    · have h := wneg c8 h
      cases h
theorem cal_L_nameChar : wCalH yL_nameChar (.codeWith yL_nameChar cL_nameChar 5 (some .int) [(0, 10, 13, 24)]) 4 := ⟨by decide +kernel, u_5_58, u_1_0, u_5_59⟩
def f_L_valueChar (A : Hp) (x0 : Nat) (x1 : Int32) (x2 : Int32) (x3 : Nat) : Option (Int32 × Hp) := if (hsh A x0).1 = 7 then (wcat (f_X8_valueChar A x0 x1 x2) (fun v2 A3 => if (hsh A3 x3).1 = 11 then if wix (0 : Int32) (hsh A3 x3).2 then some ((0 : Int32), (hsL A3 1035 x3 (0 : Int32).toNatClampNeg v2.toInt64)) else none else none) (fun x5 A3 => if x5 = 3 then some ((1 : Int32), A3) else none)) else none
set_option maxRecDepth 100000 in
theorem s_L_valueChar {l : Launch} {g : GT} (hl : l.stackTraces = false) {A : Hp} {x0 : Nat} {x1 : Int32} {x2 : Int32} {x3 : Nat} {r : Int32} {B : Hp} (h : f_L_valueChar A x0 x1 x2 x3 = some (r, B)) : MetV l g yL_valueChar (.codeWith yL_valueChar cL_valueChar 5 (some .int) [(0, 10, 13, 24)]) [.inr (.inr x0), .inl x1, .inl x2, .inr (.inr x3)] A (.inl (some (.inl r))) B 9 154 2 12 := by
  refine MetV.ofVH hl (by decide +kernel) (Nat.le_of_ble_eq_true rfl) (fun κ K E => ?_)
  have K : Cx κ cL_valueChar 5 RL 9 154 2 12 := K
  have E : EdH κ (some .int) "valueChar" (.inl (some (.inl r))) B 2 12 [(0, 10, 13, 24)] := E
  unfold f_L_valueChar at h
  change Vw κ A 0 0 0 [(0, .inr (.inr x0)), (1, .inl x1), (2, .inl x2), (3, .inr (.inr x3))] []
  refine Vw.aload_n (pc := 0) (x := x3) K dL_valueChar_0 rfl ?_
  refine Vw.iconst (pc := 1) (v := (0 : Int32)) K (by decide) dL_valueChar_1 ?_
  refine Vw.aload_n (pc := 2) (x := x0) K dL_valueChar_2 rfl ?_
  refine Vw.iload_n (pc := 3) (x := x1) K dL_valueChar_3 rfl ?_
  refine Vw.iload_n (pc := 4) (x := x2) K dL_valueChar_4 rfl ?_
  obtain ⟨g1, h⟩ := wgd h
  rcases wcatE h with ⟨v2, A3, e4, h⟩ | ⟨x5, A3, e4, h⟩
  · refine Vw.cV1 (pc := 5) (v := .inl v2) (c' := 2) (n' := 12) K (s_X8_valueChar K.tr e4) cal_X8_valueChar cls6 u_5_67 g1 rfl ⟨by decide, by decide⟩ ⟨by decide, by decide⟩ rfl (Nat.le_of_ble_eq_true rfl) dL_valueChar_5 rfl rfl ?_
    refine Vw.i2l (pc := 8) K dL_valueChar_8 ?_
    obtain ⟨g6, h⟩ := wgd h
    obtain ⟨g7, h⟩ := wgd h
    refine Vw.lastore (pc := 9) K g6 g7 dL_valueChar_9 ?_
    refine Vw.goto (pc := 10) (tgt := 17) K dL_valueChar_10 (by decide) ?_
    refine Vw.iconst (pc := 17) (v := (0 : Int32)) K (by decide) dL_valueChar_17 ?_
    exact Vw.iretL (pc := 18) K h E (by decide) (by decide) dL_valueChar_18
  · by_cases c8 : x5 = 3
    · subst c8
      have h := wpos rfl h
      refine Vw.cVD (pc := 5) (hp := 13) (pre := []) (x := ⟨0, 10, 13, 24⟩) (suf := []) (X := "java/lang/IndexOutOfBoundsException") (c' := 2) (n' := 12) K (s_X8_valueChar K.tr e4) cal_X8_valueChar cls6 u_5_67 g1 rfl ⟨by decide, by decide⟩ ⟨by decide, by decide⟩ rfl (Nat.le_of_ble_eq_true rfl) dL_valueChar_5 E.2.2.2 (fun z hz => by cases hz) (by decide) (by decide) u_3_169 (by decide) rfl dL_valueChar_13 (by decide) rfl rfl ?_
      refine Vw.iconst (pc := 15) (v := (1 : Int32)) K (by decide) dL_valueChar_15 ?_
      exact Vw.iretL (pc := 16) K h E (by decide) (by decide) dL_valueChar_16
    · have h := wneg c8 h
      cases h
theorem cal_L_valueChar : wCalH yL_valueChar (.codeWith yL_valueChar cL_valueChar 5 (some .int) [(0, 10, 13, 24)]) 4 := ⟨by decide +kernel, u_5_65, u_1_0, u_5_66⟩
def f_L_domainChar (A : Hp) (x0 : Nat) (x1 : Int32) (x2 : Int32) (x3 : Nat) : Option (Int32 × Hp) := if (hsh A x0).1 = 7 then (wcat (f_X8_domainChar A x0 x1 x2) (fun v2 A3 => if (hsh A3 x3).1 = 11 then if wix (0 : Int32) (hsh A3 x3).2 then some ((0 : Int32), (hsL A3 1035 x3 (0 : Int32).toNatClampNeg v2.toInt64)) else none else none) (fun x5 A3 => if x5 = 3 then some ((1 : Int32), A3) else none)) else none
set_option maxRecDepth 100000 in
theorem s_L_domainChar {l : Launch} {g : GT} (hl : l.stackTraces = false) {A : Hp} {x0 : Nat} {x1 : Int32} {x2 : Int32} {x3 : Nat} {r : Int32} {B : Hp} (h : f_L_domainChar A x0 x1 x2 x3 = some (r, B)) : MetV l g yL_domainChar (.codeWith yL_domainChar cL_domainChar 5 (some .int) [(0, 10, 13, 24)]) [.inr (.inr x0), .inl x1, .inl x2, .inr (.inr x3)] A (.inl (some (.inl r))) B 9 154 2 12 := by
  refine MetV.ofVH hl (by decide +kernel) (Nat.le_of_ble_eq_true rfl) (fun κ K E => ?_)
  have K : Cx κ cL_domainChar 5 RL 9 154 2 12 := K
  have E : EdH κ (some .int) "domainChar" (.inl (some (.inl r))) B 2 12 [(0, 10, 13, 24)] := E
  unfold f_L_domainChar at h
  change Vw κ A 0 0 0 [(0, .inr (.inr x0)), (1, .inl x1), (2, .inl x2), (3, .inr (.inr x3))] []
  refine Vw.aload_n (pc := 0) (x := x3) K dL_domainChar_0 rfl ?_
  refine Vw.iconst (pc := 1) (v := (0 : Int32)) K (by decide) dL_domainChar_1 ?_
  refine Vw.aload_n (pc := 2) (x := x0) K dL_domainChar_2 rfl ?_
  refine Vw.iload_n (pc := 3) (x := x1) K dL_domainChar_3 rfl ?_
  refine Vw.iload_n (pc := 4) (x := x2) K dL_domainChar_4 rfl ?_
  obtain ⟨g1, h⟩ := wgd h
  rcases wcatE h with ⟨v2, A3, e4, h⟩ | ⟨x5, A3, e4, h⟩
  · refine Vw.cV1 (pc := 5) (v := .inl v2) (c' := 2) (n' := 12) K (s_X8_domainChar K.tr e4) cal_X8_domainChar cls6 u_5_74 g1 rfl ⟨by decide, by decide⟩ ⟨by decide, by decide⟩ rfl (Nat.le_of_ble_eq_true rfl) dL_domainChar_5 rfl rfl ?_
    refine Vw.i2l (pc := 8) K dL_domainChar_8 ?_
    obtain ⟨g6, h⟩ := wgd h
    obtain ⟨g7, h⟩ := wgd h
    refine Vw.lastore (pc := 9) K g6 g7 dL_domainChar_9 ?_
    refine Vw.goto (pc := 10) (tgt := 17) K dL_domainChar_10 (by decide) ?_
    refine Vw.iconst (pc := 17) (v := (0 : Int32)) K (by decide) dL_domainChar_17 ?_
    exact Vw.iretL (pc := 18) K h E (by decide) (by decide) dL_domainChar_18
  · by_cases c8 : x5 = 3
    · subst c8
      have h := wpos rfl h
      refine Vw.cVD (pc := 5) (hp := 13) (pre := []) (x := ⟨0, 10, 13, 24⟩) (suf := []) (X := "java/lang/IndexOutOfBoundsException") (c' := 2) (n' := 12) K (s_X8_domainChar K.tr e4) cal_X8_domainChar cls6 u_5_74 g1 rfl ⟨by decide, by decide⟩ ⟨by decide, by decide⟩ rfl (Nat.le_of_ble_eq_true rfl) dL_domainChar_5 E.2.2.2 (fun z hz => by cases hz) (by decide) (by decide) u_3_169 (by decide) rfl dL_domainChar_13 (by decide) rfl rfl ?_
      refine Vw.iconst (pc := 15) (v := (1 : Int32)) K (by decide) dL_domainChar_15 ?_
      exact Vw.iretL (pc := 16) K h E (by decide) (by decide) dL_domainChar_16
    · have h := wneg c8 h
      cases h
theorem cal_L_domainChar : wCalH yL_domainChar (.codeWith yL_domainChar cL_domainChar 5 (some .int) [(0, 10, 13, 24)]) 4 := ⟨by decide +kernel, u_5_72, u_1_0, u_5_73⟩
def f_L_pathChar (A : Hp) (x0 : Nat) (x1 : Int32) (x2 : Int32) (x3 : Nat) : Option (Int32 × Hp) := if (hsh A x0).1 = 7 then (wcat (f_X8_pathChar A x0 x1 x2) (fun v2 A3 => if (hsh A3 x3).1 = 11 then if wix (0 : Int32) (hsh A3 x3).2 then some ((0 : Int32), (hsL A3 1035 x3 (0 : Int32).toNatClampNeg v2.toInt64)) else none else none) (fun x5 A3 => if x5 = 3 then some ((1 : Int32), A3) else none)) else none
set_option maxRecDepth 100000 in
theorem s_L_pathChar {l : Launch} {g : GT} (hl : l.stackTraces = false) {A : Hp} {x0 : Nat} {x1 : Int32} {x2 : Int32} {x3 : Nat} {r : Int32} {B : Hp} (h : f_L_pathChar A x0 x1 x2 x3 = some (r, B)) : MetV l g yL_pathChar (.codeWith yL_pathChar cL_pathChar 5 (some .int) [(0, 10, 13, 24)]) [.inr (.inr x0), .inl x1, .inl x2, .inr (.inr x3)] A (.inl (some (.inl r))) B 9 154 2 12 := by
  refine MetV.ofVH hl (by decide +kernel) (Nat.le_of_ble_eq_true rfl) (fun κ K E => ?_)
  have K : Cx κ cL_pathChar 5 RL 9 154 2 12 := K
  have E : EdH κ (some .int) "pathChar" (.inl (some (.inl r))) B 2 12 [(0, 10, 13, 24)] := E
  unfold f_L_pathChar at h
  change Vw κ A 0 0 0 [(0, .inr (.inr x0)), (1, .inl x1), (2, .inl x2), (3, .inr (.inr x3))] []
  refine Vw.aload_n (pc := 0) (x := x3) K dL_pathChar_0 rfl ?_
  refine Vw.iconst (pc := 1) (v := (0 : Int32)) K (by decide) dL_pathChar_1 ?_
  refine Vw.aload_n (pc := 2) (x := x0) K dL_pathChar_2 rfl ?_
  refine Vw.iload_n (pc := 3) (x := x1) K dL_pathChar_3 rfl ?_
  refine Vw.iload_n (pc := 4) (x := x2) K dL_pathChar_4 rfl ?_
  obtain ⟨g1, h⟩ := wgd h
  rcases wcatE h with ⟨v2, A3, e4, h⟩ | ⟨x5, A3, e4, h⟩
  · refine Vw.cV1 (pc := 5) (v := .inl v2) (c' := 2) (n' := 12) K (s_X8_pathChar K.tr e4) cal_X8_pathChar cls6 u_5_81 g1 rfl ⟨by decide, by decide⟩ ⟨by decide, by decide⟩ rfl (Nat.le_of_ble_eq_true rfl) dL_pathChar_5 rfl rfl ?_
    refine Vw.i2l (pc := 8) K dL_pathChar_8 ?_
    obtain ⟨g6, h⟩ := wgd h
    obtain ⟨g7, h⟩ := wgd h
    refine Vw.lastore (pc := 9) K g6 g7 dL_pathChar_9 ?_
    refine Vw.goto (pc := 10) (tgt := 17) K dL_pathChar_10 (by decide) ?_
    refine Vw.iconst (pc := 17) (v := (0 : Int32)) K (by decide) dL_pathChar_17 ?_
    exact Vw.iretL (pc := 18) K h E (by decide) (by decide) dL_pathChar_18
  · by_cases c8 : x5 = 3
    · subst c8
      have h := wpos rfl h
      refine Vw.cVD (pc := 5) (hp := 13) (pre := []) (x := ⟨0, 10, 13, 24⟩) (suf := []) (X := "java/lang/IndexOutOfBoundsException") (c' := 2) (n' := 12) K (s_X8_pathChar K.tr e4) cal_X8_pathChar cls6 u_5_81 g1 rfl ⟨by decide, by decide⟩ ⟨by decide, by decide⟩ rfl (Nat.le_of_ble_eq_true rfl) dL_pathChar_5 E.2.2.2 (fun z hz => by cases hz) (by decide) (by decide) u_3_169 (by decide) rfl dL_pathChar_13 (by decide) rfl rfl ?_
      refine Vw.iconst (pc := 15) (v := (1 : Int32)) K (by decide) dL_pathChar_15 ?_
      exact Vw.iretL (pc := 16) K h E (by decide) (by decide) dL_pathChar_16
    · have h := wneg c8 h
      cases h
theorem cal_L_pathChar : wCalH yL_pathChar (.codeWith yL_pathChar cL_pathChar 5 (some .int) [(0, 10, 13, 24)]) 4 := ⟨by decide +kernel, u_5_79, u_1_0, u_5_80⟩
def f_L_expiry (A : Hp) (x0 : Nat) (x1 : Int32) (x2 : Nat) : Option (Int32 × Hp) := if (hsh A x0).1 = 7 then (wcat (f_X8_expiry A x0 x1) (fun v2 A3 => if (hsh A3 x2).1 = 11 then if wix (0 : Int32) (hsh A3 x2).2 then some ((0 : Int32), (hsL A3 1035 x2 (0 : Int32).toNatClampNeg v2)) else none else none) (fun x5 A3 => if x5 = 3 then some ((1 : Int32), A3) else none)) else none
set_option maxRecDepth 100000 in
theorem s_L_expiry {l : Launch} {g : GT} (hl : l.stackTraces = false) {A : Hp} {x0 : Nat} {x1 : Int32} {x2 : Nat} {r : Int32} {B : Hp} (h : f_L_expiry A x0 x1 x2 = some (r, B)) : MetV l g yL_expiry (.codeWith yL_expiry cL_expiry 4 (some .int) [(0, 8, 11, 24)]) [.inr (.inr x0), .inl x1, .inr (.inr x2)] A (.inl (some (.inl r))) B 9 153 1 6 := by
  refine MetV.ofVH hl (by decide +kernel) (Nat.le_of_ble_eq_true rfl) (fun κ K E => ?_)
  have K : Cx κ cL_expiry 4 RL 9 153 1 6 := K
  have E : EdH κ (some .int) "expiry" (.inl (some (.inl r))) B 1 6 [(0, 8, 11, 24)] := E
  unfold f_L_expiry at h
  change Vw κ A 0 0 0 [(0, .inr (.inr x0)), (1, .inl x1), (2, .inr (.inr x2))] []
  refine Vw.aload_n (pc := 0) (x := x2) K dL_expiry_0 rfl ?_
  refine Vw.iconst (pc := 1) (v := (0 : Int32)) K (by decide) dL_expiry_1 ?_
  refine Vw.aload_n (pc := 2) (x := x0) K dL_expiry_2 rfl ?_
  refine Vw.iload_n (pc := 3) (x := x1) K dL_expiry_3 rfl ?_
  obtain ⟨g1, h⟩ := wgd h
  rcases wcatE h with ⟨v2, A3, e4, h⟩ | ⟨x5, A3, e4, h⟩
  · refine Vw.cV1 (pc := 4) (v := .inr (.inl v2)) (c' := 1) (n' := 6) K (s_X8_expiry K.tr e4) cal_X8_expiry cls6 u_5_88 g1 rfl ⟨by decide, by decide⟩ ⟨by decide, by decide⟩ rfl (Nat.le_of_ble_eq_true rfl) dL_expiry_4 rfl rfl ?_
    obtain ⟨g6, h⟩ := wgd h
    obtain ⟨g7, h⟩ := wgd h
    refine Vw.lastore (pc := 7) K g6 g7 dL_expiry_7 ?_
    refine Vw.goto (pc := 8) (tgt := 14) K dL_expiry_8 (by decide) ?_
    refine Vw.iconst (pc := 14) (v := (0 : Int32)) K (by decide) dL_expiry_14 ?_
    exact Vw.iretL (pc := 15) K h E (by decide) (by decide) dL_expiry_15
  · by_cases c8 : x5 = 3
    · subst c8
      have h := wpos rfl h
      refine Vw.cVC (pc := 4) (hp := 11) (pre := []) (x := ⟨0, 8, 11, 24⟩) (suf := []) (X := "java/lang/IndexOutOfBoundsException") (c' := 1) (n' := 6) K (s_X8_expiry K.tr e4) cal_X8_expiry cls6 u_5_88 g1 rfl ⟨by decide, by decide⟩ ⟨by decide, by decide⟩ rfl (Nat.le_of_ble_eq_true rfl) dL_expiry_4 E.2.2.2 (fun z hz => by cases hz) (by decide) (by decide) u_3_169 (by decide) rfl dL_expiry_11 (by decide) rfl rfl ?_
      refine Vw.iconst (pc := 12) (v := (1 : Int32)) K (by decide) dL_expiry_12 ?_
      exact Vw.iretL (pc := 13) K h E (by decide) (by decide) dL_expiry_13
    · have h := wneg c8 h
      cases h
theorem cal_L_expiry : wCalH yL_expiry (.codeWith yL_expiry cL_expiry 4 (some .int) [(0, 8, 11, 24)]) 3 := ⟨by decide +kernel, u_5_86, u_1_0, u_5_87⟩
def f_L_created (A : Hp) (x0 : Nat) (x1 : Int32) (x2 : Nat) : Option (Int32 × Hp) := if (hsh A x0).1 = 7 then (wcat (f_X8_created A x0 x1) (fun v2 A3 => if (hsh A3 x2).1 = 11 then if wix (0 : Int32) (hsh A3 x2).2 then some ((0 : Int32), (hsL A3 1035 x2 (0 : Int32).toNatClampNeg v2)) else none else none) (fun x5 A3 => if x5 = 3 then some ((1 : Int32), A3) else none)) else none
set_option maxRecDepth 100000 in
theorem s_L_created {l : Launch} {g : GT} (hl : l.stackTraces = false) {A : Hp} {x0 : Nat} {x1 : Int32} {x2 : Nat} {r : Int32} {B : Hp} (h : f_L_created A x0 x1 x2 = some (r, B)) : MetV l g yL_created (.codeWith yL_created cL_created 4 (some .int) [(0, 8, 11, 24)]) [.inr (.inr x0), .inl x1, .inr (.inr x2)] A (.inl (some (.inl r))) B 9 153 1 6 := by
  refine MetV.ofVH hl (by decide +kernel) (Nat.le_of_ble_eq_true rfl) (fun κ K E => ?_)
  have K : Cx κ cL_created 4 RL 9 153 1 6 := K
  have E : EdH κ (some .int) "created" (.inl (some (.inl r))) B 1 6 [(0, 8, 11, 24)] := E
  unfold f_L_created at h
  change Vw κ A 0 0 0 [(0, .inr (.inr x0)), (1, .inl x1), (2, .inr (.inr x2))] []
  refine Vw.aload_n (pc := 0) (x := x2) K dL_created_0 rfl ?_
  refine Vw.iconst (pc := 1) (v := (0 : Int32)) K (by decide) dL_created_1 ?_
  refine Vw.aload_n (pc := 2) (x := x0) K dL_created_2 rfl ?_
  refine Vw.iload_n (pc := 3) (x := x1) K dL_created_3 rfl ?_
  obtain ⟨g1, h⟩ := wgd h
  rcases wcatE h with ⟨v2, A3, e4, h⟩ | ⟨x5, A3, e4, h⟩
  · refine Vw.cV1 (pc := 4) (v := .inr (.inl v2)) (c' := 1) (n' := 6) K (s_X8_created K.tr e4) cal_X8_created cls6 u_5_95 g1 rfl ⟨by decide, by decide⟩ ⟨by decide, by decide⟩ rfl (Nat.le_of_ble_eq_true rfl) dL_created_4 rfl rfl ?_
    obtain ⟨g6, h⟩ := wgd h
    obtain ⟨g7, h⟩ := wgd h
    refine Vw.lastore (pc := 7) K g6 g7 dL_created_7 ?_
    refine Vw.goto (pc := 8) (tgt := 14) K dL_created_8 (by decide) ?_
    refine Vw.iconst (pc := 14) (v := (0 : Int32)) K (by decide) dL_created_14 ?_
    exact Vw.iretL (pc := 15) K h E (by decide) (by decide) dL_created_15
  · by_cases c8 : x5 = 3
    · subst c8
      have h := wpos rfl h
      refine Vw.cVC (pc := 4) (hp := 11) (pre := []) (x := ⟨0, 8, 11, 24⟩) (suf := []) (X := "java/lang/IndexOutOfBoundsException") (c' := 1) (n' := 6) K (s_X8_created K.tr e4) cal_X8_created cls6 u_5_95 g1 rfl ⟨by decide, by decide⟩ ⟨by decide, by decide⟩ rfl (Nat.le_of_ble_eq_true rfl) dL_created_4 E.2.2.2 (fun z hz => by cases hz) (by decide) (by decide) u_3_169 (by decide) rfl dL_created_11 (by decide) rfl rfl ?_
      refine Vw.iconst (pc := 12) (v := (1 : Int32)) K (by decide) dL_created_12 ?_
      exact Vw.iretL (pc := 13) K h E (by decide) (by decide) dL_created_13
    · have h := wneg c8 h
      cases h
theorem cal_L_created : wCalH yL_created (.codeWith yL_created cL_created 4 (some .int) [(0, 8, 11, 24)]) 3 := ⟨by decide +kernel, u_5_93, u_1_0, u_5_94⟩
def f_L_accessed (A : Hp) (x0 : Nat) (x1 : Int32) (x2 : Nat) : Option (Int32 × Hp) := if (hsh A x0).1 = 7 then (wcat (f_X8_accessed A x0 x1) (fun v2 A3 => if (hsh A3 x2).1 = 11 then if wix (0 : Int32) (hsh A3 x2).2 then some ((0 : Int32), (hsL A3 1035 x2 (0 : Int32).toNatClampNeg v2)) else none else none) (fun x5 A3 => if x5 = 3 then some ((1 : Int32), A3) else none)) else none
set_option maxRecDepth 100000 in
theorem s_L_accessed {l : Launch} {g : GT} (hl : l.stackTraces = false) {A : Hp} {x0 : Nat} {x1 : Int32} {x2 : Nat} {r : Int32} {B : Hp} (h : f_L_accessed A x0 x1 x2 = some (r, B)) : MetV l g yL_accessed (.codeWith yL_accessed cL_accessed 4 (some .int) [(0, 8, 11, 24)]) [.inr (.inr x0), .inl x1, .inr (.inr x2)] A (.inl (some (.inl r))) B 9 153 1 6 := by
  refine MetV.ofVH hl (by decide +kernel) (Nat.le_of_ble_eq_true rfl) (fun κ K E => ?_)
  have K : Cx κ cL_accessed 4 RL 9 153 1 6 := K
  have E : EdH κ (some .int) "accessed" (.inl (some (.inl r))) B 1 6 [(0, 8, 11, 24)] := E
  unfold f_L_accessed at h
  change Vw κ A 0 0 0 [(0, .inr (.inr x0)), (1, .inl x1), (2, .inr (.inr x2))] []
  refine Vw.aload_n (pc := 0) (x := x2) K dL_accessed_0 rfl ?_
  refine Vw.iconst (pc := 1) (v := (0 : Int32)) K (by decide) dL_accessed_1 ?_
  refine Vw.aload_n (pc := 2) (x := x0) K dL_accessed_2 rfl ?_
  refine Vw.iload_n (pc := 3) (x := x1) K dL_accessed_3 rfl ?_
  obtain ⟨g1, h⟩ := wgd h
  rcases wcatE h with ⟨v2, A3, e4, h⟩ | ⟨x5, A3, e4, h⟩
  · refine Vw.cV1 (pc := 4) (v := .inr (.inl v2)) (c' := 1) (n' := 6) K (s_X8_accessed K.tr e4) cal_X8_accessed cls6 u_5_102 g1 rfl ⟨by decide, by decide⟩ ⟨by decide, by decide⟩ rfl (Nat.le_of_ble_eq_true rfl) dL_accessed_4 rfl rfl ?_
    obtain ⟨g6, h⟩ := wgd h
    obtain ⟨g7, h⟩ := wgd h
    refine Vw.lastore (pc := 7) K g6 g7 dL_accessed_7 ?_
    refine Vw.goto (pc := 8) (tgt := 14) K dL_accessed_8 (by decide) ?_
    refine Vw.iconst (pc := 14) (v := (0 : Int32)) K (by decide) dL_accessed_14 ?_
    exact Vw.iretL (pc := 15) K h E (by decide) (by decide) dL_accessed_15
  · by_cases c8 : x5 = 3
    · subst c8
      have h := wpos rfl h
      refine Vw.cVC (pc := 4) (hp := 11) (pre := []) (x := ⟨0, 8, 11, 24⟩) (suf := []) (X := "java/lang/IndexOutOfBoundsException") (c' := 1) (n' := 6) K (s_X8_accessed K.tr e4) cal_X8_accessed cls6 u_5_102 g1 rfl ⟨by decide, by decide⟩ ⟨by decide, by decide⟩ rfl (Nat.le_of_ble_eq_true rfl) dL_accessed_4 E.2.2.2 (fun z hz => by cases hz) (by decide) (by decide) u_3_169 (by decide) rfl dL_accessed_11 (by decide) rfl rfl ?_
      refine Vw.iconst (pc := 12) (v := (1 : Int32)) K (by decide) dL_accessed_12 ?_
      exact Vw.iretL (pc := 13) K h E (by decide) (by decide) dL_accessed_13
    · have h := wneg c8 h
      cases h
theorem cal_L_accessed : wCalH yL_accessed (.codeWith yL_accessed cL_accessed 4 (some .int) [(0, 8, 11, 24)]) 3 := ⟨by decide +kernel, u_5_100, u_1_0, u_5_101⟩
def f_L_serial (A : Hp) (x0 : Nat) (x1 : Int32) (x2 : Nat) : Option (Int32 × Hp) := if (hsh A x0).1 = 7 then (wcat (f_X8_serial A x0 x1) (fun v2 A3 => if (hsh A3 x2).1 = 11 then if wix (0 : Int32) (hsh A3 x2).2 then some ((0 : Int32), (hsL A3 1035 x2 (0 : Int32).toNatClampNeg v2.toInt64)) else none else none) (fun x5 A3 => if x5 = 3 then some ((1 : Int32), A3) else none)) else none
set_option maxRecDepth 100000 in
theorem s_L_serial {l : Launch} {g : GT} (hl : l.stackTraces = false) {A : Hp} {x0 : Nat} {x1 : Int32} {x2 : Nat} {r : Int32} {B : Hp} (h : f_L_serial A x0 x1 x2 = some (r, B)) : MetV l g yL_serial (.codeWith yL_serial cL_serial 4 (some .int) [(0, 9, 12, 24)]) [.inr (.inr x0), .inl x1, .inr (.inr x2)] A (.inl (some (.inl r))) B 9 153 1 6 := by
  refine MetV.ofVH hl (by decide +kernel) (Nat.le_of_ble_eq_true rfl) (fun κ K E => ?_)
  have K : Cx κ cL_serial 4 RL 9 153 1 6 := K
  have E : EdH κ (some .int) "serial" (.inl (some (.inl r))) B 1 6 [(0, 9, 12, 24)] := E
  unfold f_L_serial at h
  change Vw κ A 0 0 0 [(0, .inr (.inr x0)), (1, .inl x1), (2, .inr (.inr x2))] []
  refine Vw.aload_n (pc := 0) (x := x2) K dL_serial_0 rfl ?_
  refine Vw.iconst (pc := 1) (v := (0 : Int32)) K (by decide) dL_serial_1 ?_
  refine Vw.aload_n (pc := 2) (x := x0) K dL_serial_2 rfl ?_
  refine Vw.iload_n (pc := 3) (x := x1) K dL_serial_3 rfl ?_
  obtain ⟨g1, h⟩ := wgd h
  rcases wcatE h with ⟨v2, A3, e4, h⟩ | ⟨x5, A3, e4, h⟩
  · refine Vw.cV1 (pc := 4) (v := .inl v2) (c' := 1) (n' := 6) K (s_X8_serial K.tr e4) cal_X8_serial cls6 u_5_109 g1 rfl ⟨by decide, by decide⟩ ⟨by decide, by decide⟩ rfl (Nat.le_of_ble_eq_true rfl) dL_serial_4 rfl rfl ?_
    refine Vw.i2l (pc := 7) K dL_serial_7 ?_
    obtain ⟨g6, h⟩ := wgd h
    obtain ⟨g7, h⟩ := wgd h
    refine Vw.lastore (pc := 8) K g6 g7 dL_serial_8 ?_
    refine Vw.goto (pc := 9) (tgt := 15) K dL_serial_9 (by decide) ?_
    refine Vw.iconst (pc := 15) (v := (0 : Int32)) K (by decide) dL_serial_15 ?_
    exact Vw.iretL (pc := 16) K h E (by decide) (by decide) dL_serial_16
  · by_cases c8 : x5 = 3
    · subst c8
      have h := wpos rfl h
      refine Vw.cVC (pc := 4) (hp := 12) (pre := []) (x := ⟨0, 9, 12, 24⟩) (suf := []) (X := "java/lang/IndexOutOfBoundsException") (c' := 1) (n' := 6) K (s_X8_serial K.tr e4) cal_X8_serial cls6 u_5_109 g1 rfl ⟨by decide, by decide⟩ ⟨by decide, by decide⟩ rfl (Nat.le_of_ble_eq_true rfl) dL_serial_4 E.2.2.2 (fun z hz => by cases hz) (by decide) (by decide) u_3_169 (by decide) rfl dL_serial_12 (by decide) rfl rfl ?_
      refine Vw.iconst (pc := 13) (v := (1 : Int32)) K (by decide) dL_serial_13 ?_
      exact Vw.iretL (pc := 14) K h E (by decide) (by decide) dL_serial_14
    · have h := wneg c8 h
      cases h
theorem cal_L_serial : wCalH yL_serial (.codeWith yL_serial cL_serial 4 (some .int) [(0, 9, 12, 24)]) 3 := ⟨by decide +kernel, u_5_107, u_1_0, u_5_108⟩
def k_L_isHostOnly_15  (A : Hp)  (t0 : Nat) (t1 : Int32) (t2 : Int64) : Option (Int32 × Hp) := if (hsh A t0).1 = 11 then if wix t1 (hsh A t0).2 then some ((0 : Int32), (hsL A 1035 t0 t1.toNatClampNeg t2)) else none else none
set_option maxRecDepth 100000 in
theorem s_L_isHostOnly_15 {κ : KT} {r : Int32} {B : Hp} {A : Hp}  {t0 : Nat} {t1 : Int32} {t2 : Int64}  (K : Cx κ cL_isHostOnly 4 RL 9 153 1 6) (E : EdH κ (some .int) "isHostOnly" (.inl (some (.inl r))) B 1 6 [(0, 16, 19, 24)])  (h : k_L_isHostOnly_15  A  t0 t1 t2 = some (r, B)) : Vw κ A 1 6 15 [] [.inr (.inl t2), .inl t1, .inr (.inr t0)] := by
  unfold k_L_isHostOnly_15 at h
  obtain ⟨g1, h⟩ := wgd h
  obtain ⟨g2, h⟩ := wgd h
  refine Vw.lastore (pc := 15) K g1 g2 dL_isHostOnly_15 ?_
  refine Vw.goto (pc := 16) (tgt := 22) K dL_isHostOnly_16 (by decide) ?_
  refine Vw.iconst (pc := 22) (v := (0 : Int32)) K (by decide) dL_isHostOnly_22 ?_
  exact Vw.iretL (pc := 23) K h E (by decide) (by decide) dL_isHostOnly_23
def f_L_isHostOnly (A : Hp) (x0 : Nat) (x1 : Int32) (x2 : Nat) : Option (Int32 × Hp) := if (hsh A x0).1 = 7 then (wcat (f_X8_isHostOnly A x0 x1) (fun v4 A5 => (if v4 = (0 : Int32) then k_L_isHostOnly_15 A5 x2 (0 : Int32) (0 : Int64) else k_L_isHostOnly_15 A5 x2 (0 : Int32) (1 : Int64))) (fun x7 A5 => if x7 = 3 then some ((1 : Int32), A5) else none)) else none
set_option maxRecDepth 100000 in
theorem s_L_isHostOnly {l : Launch} {g : GT} (hl : l.stackTraces = false) {A : Hp} {x0 : Nat} {x1 : Int32} {x2 : Nat} {r : Int32} {B : Hp} (h : f_L_isHostOnly A x0 x1 x2 = some (r, B)) : MetV l g yL_isHostOnly (.codeWith yL_isHostOnly cL_isHostOnly 4 (some .int) [(0, 16, 19, 24)]) [.inr (.inr x0), .inl x1, .inr (.inr x2)] A (.inl (some (.inl r))) B 9 153 1 6 := by
  refine MetV.ofVH hl (by decide +kernel) (Nat.le_of_ble_eq_true rfl) (fun κ K E => ?_)
  have K : Cx κ cL_isHostOnly 4 RL 9 153 1 6 := K
  have E : EdH κ (some .int) "isHostOnly" (.inl (some (.inl r))) B 1 6 [(0, 16, 19, 24)] := E
  unfold f_L_isHostOnly at h
  change Vw κ A 0 0 0 [(0, .inr (.inr x0)), (1, .inl x1), (2, .inr (.inr x2))] []
  refine Vw.aload_n (pc := 0) (x := x2) K dL_isHostOnly_0 rfl ?_
  refine Vw.iconst (pc := 1) (v := (0 : Int32)) K (by decide) dL_isHostOnly_1 ?_
  refine Vw.aload_n (pc := 2) (x := x0) K dL_isHostOnly_2 rfl ?_
  refine Vw.iload_n (pc := 3) (x := x1) K dL_isHostOnly_3 rfl ?_
  obtain ⟨g3, h⟩ := wgd h
  rcases wcatE h with ⟨v4, A5, e6, h⟩ | ⟨x7, A5, e6, h⟩
  · refine Vw.cV1 (pc := 4) (v := .inl v4) (c' := 1) (n' := 6) K (s_X8_isHostOnly K.tr e6) cal_X8_isHostOnly cls6 u_5_116 g3 rfl ⟨by decide, by decide⟩ ⟨by decide, by decide⟩ rfl (Nat.le_of_ble_eq_true rfl) dL_isHostOnly_4 rfl rfl ?_
    refine Vw.if_eq (pc := 7) (tgt := 14) K dL_isHostOnly_7 (by decide) (fun c8 => ?_) (fun c8 => ?_)
    · have h := wpos c8 h
      refine Vw.lconst (pc := 14) (v := (0 : Int64)) K (by decide) dL_isHostOnly_14 ?_
      exact Vw.loc rfl (s_L_isHostOnly_15 K E  h)
    · have h := wneg c8 h
      refine Vw.lconst (pc := 10) (v := (1 : Int64)) K (by decide) dL_isHostOnly_10 ?_
      refine Vw.goto (pc := 11) (tgt := 15) K dL_isHostOnly_11 (by decide) ?_
      exact Vw.loc rfl (s_L_isHostOnly_15 K E  h)
  · by_cases c9 : x7 = 3
    · subst c9
      have h := wpos rfl h
      refine Vw.cVC (pc := 4) (hp := 19) (pre := []) (x := ⟨0, 16, 19, 24⟩) (suf := []) (X := "java/lang/IndexOutOfBoundsException") (c' := 1) (n' := 6) K (s_X8_isHostOnly K.tr e6) cal_X8_isHostOnly cls6 u_5_116 g3 rfl ⟨by decide, by decide⟩ ⟨by decide, by decide⟩ rfl (Nat.le_of_ble_eq_true rfl) dL_isHostOnly_4 E.2.2.2 (fun z hz => by cases hz) (by decide) (by decide) u_3_169 (by decide) rfl dL_isHostOnly_19 (by decide) rfl rfl ?_
      refine Vw.iconst (pc := 20) (v := (1 : Int32)) K (by decide) dL_isHostOnly_20 ?_
      exact Vw.iretL (pc := 21) K h E (by decide) (by decide) dL_isHostOnly_21
    · have h := wneg c9 h
      cases h
theorem cal_L_isHostOnly : wCalH yL_isHostOnly (.codeWith yL_isHostOnly cL_isHostOnly 4 (some .int) [(0, 16, 19, 24)]) 3 := ⟨by decide +kernel, u_5_114, u_1_0, u_5_115⟩
def k_L_isSecure_15  (A : Hp)  (t0 : Nat) (t1 : Int32) (t2 : Int64) : Option (Int32 × Hp) := if (hsh A t0).1 = 11 then if wix t1 (hsh A t0).2 then some ((0 : Int32), (hsL A 1035 t0 t1.toNatClampNeg t2)) else none else none
set_option maxRecDepth 100000 in
theorem s_L_isSecure_15 {κ : KT} {r : Int32} {B : Hp} {A : Hp}  {t0 : Nat} {t1 : Int32} {t2 : Int64}  (K : Cx κ cL_isSecure 4 RL 9 153 1 6) (E : EdH κ (some .int) "isSecure" (.inl (some (.inl r))) B 1 6 [(0, 16, 19, 24)])  (h : k_L_isSecure_15  A  t0 t1 t2 = some (r, B)) : Vw κ A 1 6 15 [] [.inr (.inl t2), .inl t1, .inr (.inr t0)] := by
  unfold k_L_isSecure_15 at h
  obtain ⟨g1, h⟩ := wgd h
  obtain ⟨g2, h⟩ := wgd h
  refine Vw.lastore (pc := 15) K g1 g2 dL_isSecure_15 ?_
  refine Vw.goto (pc := 16) (tgt := 22) K dL_isSecure_16 (by decide) ?_
  refine Vw.iconst (pc := 22) (v := (0 : Int32)) K (by decide) dL_isSecure_22 ?_
  exact Vw.iretL (pc := 23) K h E (by decide) (by decide) dL_isSecure_23
def f_L_isSecure (A : Hp) (x0 : Nat) (x1 : Int32) (x2 : Nat) : Option (Int32 × Hp) := if (hsh A x0).1 = 7 then (wcat (f_X8_isSecure A x0 x1) (fun v4 A5 => (if v4 = (0 : Int32) then k_L_isSecure_15 A5 x2 (0 : Int32) (0 : Int64) else k_L_isSecure_15 A5 x2 (0 : Int32) (1 : Int64))) (fun x7 A5 => if x7 = 3 then some ((1 : Int32), A5) else none)) else none
set_option maxRecDepth 100000 in
theorem s_L_isSecure {l : Launch} {g : GT} (hl : l.stackTraces = false) {A : Hp} {x0 : Nat} {x1 : Int32} {x2 : Nat} {r : Int32} {B : Hp} (h : f_L_isSecure A x0 x1 x2 = some (r, B)) : MetV l g yL_isSecure (.codeWith yL_isSecure cL_isSecure 4 (some .int) [(0, 16, 19, 24)]) [.inr (.inr x0), .inl x1, .inr (.inr x2)] A (.inl (some (.inl r))) B 9 153 1 6 := by
  refine MetV.ofVH hl (by decide +kernel) (Nat.le_of_ble_eq_true rfl) (fun κ K E => ?_)
  have K : Cx κ cL_isSecure 4 RL 9 153 1 6 := K
  have E : EdH κ (some .int) "isSecure" (.inl (some (.inl r))) B 1 6 [(0, 16, 19, 24)] := E
  unfold f_L_isSecure at h
  change Vw κ A 0 0 0 [(0, .inr (.inr x0)), (1, .inl x1), (2, .inr (.inr x2))] []
  refine Vw.aload_n (pc := 0) (x := x2) K dL_isSecure_0 rfl ?_
  refine Vw.iconst (pc := 1) (v := (0 : Int32)) K (by decide) dL_isSecure_1 ?_
  refine Vw.aload_n (pc := 2) (x := x0) K dL_isSecure_2 rfl ?_
  refine Vw.iload_n (pc := 3) (x := x1) K dL_isSecure_3 rfl ?_
  obtain ⟨g3, h⟩ := wgd h
  rcases wcatE h with ⟨v4, A5, e6, h⟩ | ⟨x7, A5, e6, h⟩
  · refine Vw.cV1 (pc := 4) (v := .inl v4) (c' := 1) (n' := 6) K (s_X8_isSecure K.tr e6) cal_X8_isSecure cls6 u_5_123 g3 rfl ⟨by decide, by decide⟩ ⟨by decide, by decide⟩ rfl (Nat.le_of_ble_eq_true rfl) dL_isSecure_4 rfl rfl ?_
    refine Vw.if_eq (pc := 7) (tgt := 14) K dL_isSecure_7 (by decide) (fun c8 => ?_) (fun c8 => ?_)
    · have h := wpos c8 h
      refine Vw.lconst (pc := 14) (v := (0 : Int64)) K (by decide) dL_isSecure_14 ?_
      exact Vw.loc rfl (s_L_isSecure_15 K E  h)
    · have h := wneg c8 h
      refine Vw.lconst (pc := 10) (v := (1 : Int64)) K (by decide) dL_isSecure_10 ?_
      refine Vw.goto (pc := 11) (tgt := 15) K dL_isSecure_11 (by decide) ?_
      exact Vw.loc rfl (s_L_isSecure_15 K E  h)
  · by_cases c9 : x7 = 3
    · subst c9
      have h := wpos rfl h
      refine Vw.cVC (pc := 4) (hp := 19) (pre := []) (x := ⟨0, 16, 19, 24⟩) (suf := []) (X := "java/lang/IndexOutOfBoundsException") (c' := 1) (n' := 6) K (s_X8_isSecure K.tr e6) cal_X8_isSecure cls6 u_5_123 g3 rfl ⟨by decide, by decide⟩ ⟨by decide, by decide⟩ rfl (Nat.le_of_ble_eq_true rfl) dL_isSecure_4 E.2.2.2 (fun z hz => by cases hz) (by decide) (by decide) u_3_169 (by decide) rfl dL_isSecure_19 (by decide) rfl rfl ?_
      refine Vw.iconst (pc := 20) (v := (1 : Int32)) K (by decide) dL_isSecure_20 ?_
      exact Vw.iretL (pc := 21) K h E (by decide) (by decide) dL_isSecure_21
    · have h := wneg c9 h
      cases h
theorem cal_L_isSecure : wCalH yL_isSecure (.codeWith yL_isSecure cL_isSecure 4 (some .int) [(0, 16, 19, 24)]) 3 := ⟨by decide +kernel, u_5_121, u_1_0, u_5_122⟩
def k_L_isHttpOnly_15  (A : Hp)  (t0 : Nat) (t1 : Int32) (t2 : Int64) : Option (Int32 × Hp) := if (hsh A t0).1 = 11 then if wix t1 (hsh A t0).2 then some ((0 : Int32), (hsL A 1035 t0 t1.toNatClampNeg t2)) else none else none
set_option maxRecDepth 100000 in
theorem s_L_isHttpOnly_15 {κ : KT} {r : Int32} {B : Hp} {A : Hp}  {t0 : Nat} {t1 : Int32} {t2 : Int64}  (K : Cx κ cL_isHttpOnly 4 RL 9 153 1 6) (E : EdH κ (some .int) "isHttpOnly" (.inl (some (.inl r))) B 1 6 [(0, 16, 19, 24)])  (h : k_L_isHttpOnly_15  A  t0 t1 t2 = some (r, B)) : Vw κ A 1 6 15 [] [.inr (.inl t2), .inl t1, .inr (.inr t0)] := by
  unfold k_L_isHttpOnly_15 at h
  obtain ⟨g1, h⟩ := wgd h
  obtain ⟨g2, h⟩ := wgd h
  refine Vw.lastore (pc := 15) K g1 g2 dL_isHttpOnly_15 ?_
  refine Vw.goto (pc := 16) (tgt := 22) K dL_isHttpOnly_16 (by decide) ?_
  refine Vw.iconst (pc := 22) (v := (0 : Int32)) K (by decide) dL_isHttpOnly_22 ?_
  exact Vw.iretL (pc := 23) K h E (by decide) (by decide) dL_isHttpOnly_23
def f_L_isHttpOnly (A : Hp) (x0 : Nat) (x1 : Int32) (x2 : Nat) : Option (Int32 × Hp) := if (hsh A x0).1 = 7 then (wcat (f_X8_isHttpOnly A x0 x1) (fun v4 A5 => (if v4 = (0 : Int32) then k_L_isHttpOnly_15 A5 x2 (0 : Int32) (0 : Int64) else k_L_isHttpOnly_15 A5 x2 (0 : Int32) (1 : Int64))) (fun x7 A5 => if x7 = 3 then some ((1 : Int32), A5) else none)) else none
set_option maxRecDepth 100000 in
theorem s_L_isHttpOnly {l : Launch} {g : GT} (hl : l.stackTraces = false) {A : Hp} {x0 : Nat} {x1 : Int32} {x2 : Nat} {r : Int32} {B : Hp} (h : f_L_isHttpOnly A x0 x1 x2 = some (r, B)) : MetV l g yL_isHttpOnly (.codeWith yL_isHttpOnly cL_isHttpOnly 4 (some .int) [(0, 16, 19, 24)]) [.inr (.inr x0), .inl x1, .inr (.inr x2)] A (.inl (some (.inl r))) B 9 153 1 6 := by
  refine MetV.ofVH hl (by decide +kernel) (Nat.le_of_ble_eq_true rfl) (fun κ K E => ?_)
  have K : Cx κ cL_isHttpOnly 4 RL 9 153 1 6 := K
  have E : EdH κ (some .int) "isHttpOnly" (.inl (some (.inl r))) B 1 6 [(0, 16, 19, 24)] := E
  unfold f_L_isHttpOnly at h
  change Vw κ A 0 0 0 [(0, .inr (.inr x0)), (1, .inl x1), (2, .inr (.inr x2))] []
  refine Vw.aload_n (pc := 0) (x := x2) K dL_isHttpOnly_0 rfl ?_
  refine Vw.iconst (pc := 1) (v := (0 : Int32)) K (by decide) dL_isHttpOnly_1 ?_
  refine Vw.aload_n (pc := 2) (x := x0) K dL_isHttpOnly_2 rfl ?_
  refine Vw.iload_n (pc := 3) (x := x1) K dL_isHttpOnly_3 rfl ?_
  obtain ⟨g3, h⟩ := wgd h
  rcases wcatE h with ⟨v4, A5, e6, h⟩ | ⟨x7, A5, e6, h⟩
  · refine Vw.cV1 (pc := 4) (v := .inl v4) (c' := 1) (n' := 6) K (s_X8_isHttpOnly K.tr e6) cal_X8_isHttpOnly cls6 u_5_130 g3 rfl ⟨by decide, by decide⟩ ⟨by decide, by decide⟩ rfl (Nat.le_of_ble_eq_true rfl) dL_isHttpOnly_4 rfl rfl ?_
    refine Vw.if_eq (pc := 7) (tgt := 14) K dL_isHttpOnly_7 (by decide) (fun c8 => ?_) (fun c8 => ?_)
    · have h := wpos c8 h
      refine Vw.lconst (pc := 14) (v := (0 : Int64)) K (by decide) dL_isHttpOnly_14 ?_
      exact Vw.loc rfl (s_L_isHttpOnly_15 K E  h)
    · have h := wneg c8 h
      refine Vw.lconst (pc := 10) (v := (1 : Int64)) K (by decide) dL_isHttpOnly_10 ?_
      refine Vw.goto (pc := 11) (tgt := 15) K dL_isHttpOnly_11 (by decide) ?_
      exact Vw.loc rfl (s_L_isHttpOnly_15 K E  h)
  · by_cases c9 : x7 = 3
    · subst c9
      have h := wpos rfl h
      refine Vw.cVC (pc := 4) (hp := 19) (pre := []) (x := ⟨0, 16, 19, 24⟩) (suf := []) (X := "java/lang/IndexOutOfBoundsException") (c' := 1) (n' := 6) K (s_X8_isHttpOnly K.tr e6) cal_X8_isHttpOnly cls6 u_5_130 g3 rfl ⟨by decide, by decide⟩ ⟨by decide, by decide⟩ rfl (Nat.le_of_ble_eq_true rfl) dL_isHttpOnly_4 E.2.2.2 (fun z hz => by cases hz) (by decide) (by decide) u_3_169 (by decide) rfl dL_isHttpOnly_19 (by decide) rfl rfl ?_
      refine Vw.iconst (pc := 20) (v := (1 : Int32)) K (by decide) dL_isHttpOnly_20 ?_
      exact Vw.iretL (pc := 21) K h E (by decide) (by decide) dL_isHttpOnly_21
    · have h := wneg c9 h
      cases h
theorem cal_L_isHttpOnly : wCalH yL_isHttpOnly (.codeWith yL_isHttpOnly cL_isHttpOnly 4 (some .int) [(0, 16, 19, 24)]) 3 := ⟨by decide +kernel, u_5_128, u_1_0, u_5_129⟩
def f_L_sameSite (A : Hp) (x0 : Nat) (x1 : Int32) (x2 : Nat) : Option (Int32 × Hp) := if (hsh A x0).1 = 7 then (wcat (f_X8_sameSite A x0 x1) (fun v2 A3 => if (hsh A3 x2).1 = 11 then if wix (0 : Int32) (hsh A3 x2).2 then some ((0 : Int32), (hsL A3 1035 x2 (0 : Int32).toNatClampNeg v2.toInt64)) else none else none) (fun x5 A3 => if x5 = 3 then some ((1 : Int32), A3) else none)) else none
set_option maxRecDepth 100000 in
theorem s_L_sameSite {l : Launch} {g : GT} (hl : l.stackTraces = false) {A : Hp} {x0 : Nat} {x1 : Int32} {x2 : Nat} {r : Int32} {B : Hp} (h : f_L_sameSite A x0 x1 x2 = some (r, B)) : MetV l g yL_sameSite (.codeWith yL_sameSite cL_sameSite 4 (some .int) [(0, 9, 12, 24)]) [.inr (.inr x0), .inl x1, .inr (.inr x2)] A (.inl (some (.inl r))) B 9 153 1 6 := by
  refine MetV.ofVH hl (by decide +kernel) (Nat.le_of_ble_eq_true rfl) (fun κ K E => ?_)
  have K : Cx κ cL_sameSite 4 RL 9 153 1 6 := K
  have E : EdH κ (some .int) "sameSite" (.inl (some (.inl r))) B 1 6 [(0, 9, 12, 24)] := E
  unfold f_L_sameSite at h
  change Vw κ A 0 0 0 [(0, .inr (.inr x0)), (1, .inl x1), (2, .inr (.inr x2))] []
  refine Vw.aload_n (pc := 0) (x := x2) K dL_sameSite_0 rfl ?_
  refine Vw.iconst (pc := 1) (v := (0 : Int32)) K (by decide) dL_sameSite_1 ?_
  refine Vw.aload_n (pc := 2) (x := x0) K dL_sameSite_2 rfl ?_
  refine Vw.iload_n (pc := 3) (x := x1) K dL_sameSite_3 rfl ?_
  obtain ⟨g1, h⟩ := wgd h
  rcases wcatE h with ⟨v2, A3, e4, h⟩ | ⟨x5, A3, e4, h⟩
  · refine Vw.cV1 (pc := 4) (v := .inl v2) (c' := 1) (n' := 6) K (s_X8_sameSite K.tr e4) cal_X8_sameSite cls6 u_5_137 g1 rfl ⟨by decide, by decide⟩ ⟨by decide, by decide⟩ rfl (Nat.le_of_ble_eq_true rfl) dL_sameSite_4 rfl rfl ?_
    refine Vw.i2l (pc := 7) K dL_sameSite_7 ?_
    obtain ⟨g6, h⟩ := wgd h
    obtain ⟨g7, h⟩ := wgd h
    refine Vw.lastore (pc := 8) K g6 g7 dL_sameSite_8 ?_
    refine Vw.goto (pc := 9) (tgt := 15) K dL_sameSite_9 (by decide) ?_
    refine Vw.iconst (pc := 15) (v := (0 : Int32)) K (by decide) dL_sameSite_15 ?_
    exact Vw.iretL (pc := 16) K h E (by decide) (by decide) dL_sameSite_16
  · by_cases c8 : x5 = 3
    · subst c8
      have h := wpos rfl h
      refine Vw.cVC (pc := 4) (hp := 12) (pre := []) (x := ⟨0, 9, 12, 24⟩) (suf := []) (X := "java/lang/IndexOutOfBoundsException") (c' := 1) (n' := 6) K (s_X8_sameSite K.tr e4) cal_X8_sameSite cls6 u_5_137 g1 rfl ⟨by decide, by decide⟩ ⟨by decide, by decide⟩ rfl (Nat.le_of_ble_eq_true rfl) dL_sameSite_4 E.2.2.2 (fun z hz => by cases hz) (by decide) (by decide) u_3_169 (by decide) rfl dL_sameSite_12 (by decide) rfl rfl ?_
      refine Vw.iconst (pc := 13) (v := (1 : Int32)) K (by decide) dL_sameSite_13 ?_
      exact Vw.iretL (pc := 14) K h E (by decide) (by decide) dL_sameSite_14
    · have h := wneg c8 h
      cases h
theorem cal_L_sameSite : wCalH yL_sameSite (.codeWith yL_sameSite cL_sameSite 4 (some .int) [(0, 9, 12, 24)]) 3 := ⟨by decide +kernel, u_5_135, u_1_0, u_5_136⟩
def f_L_priority (A : Hp) (x0 : Nat) (x1 : Int32) (x2 : Nat) : Option (Int32 × Hp) := if (hsh A x0).1 = 7 then (wcat (f_X8_priority A x0 x1) (fun v2 A3 => if (hsh A3 x2).1 = 11 then if wix (0 : Int32) (hsh A3 x2).2 then some ((0 : Int32), (hsL A3 1035 x2 (0 : Int32).toNatClampNeg v2.toInt64)) else none else none) (fun x5 A3 => if x5 = 3 then some ((1 : Int32), A3) else none)) else none
set_option maxRecDepth 100000 in
theorem s_L_priority {l : Launch} {g : GT} (hl : l.stackTraces = false) {A : Hp} {x0 : Nat} {x1 : Int32} {x2 : Nat} {r : Int32} {B : Hp} (h : f_L_priority A x0 x1 x2 = some (r, B)) : MetV l g yL_priority (.codeWith yL_priority cL_priority 4 (some .int) [(0, 9, 12, 24)]) [.inr (.inr x0), .inl x1, .inr (.inr x2)] A (.inl (some (.inl r))) B 9 153 1 6 := by
  refine MetV.ofVH hl (by decide +kernel) (Nat.le_of_ble_eq_true rfl) (fun κ K E => ?_)
  have K : Cx κ cL_priority 4 RL 9 153 1 6 := K
  have E : EdH κ (some .int) "priority" (.inl (some (.inl r))) B 1 6 [(0, 9, 12, 24)] := E
  unfold f_L_priority at h
  change Vw κ A 0 0 0 [(0, .inr (.inr x0)), (1, .inl x1), (2, .inr (.inr x2))] []
  refine Vw.aload_n (pc := 0) (x := x2) K dL_priority_0 rfl ?_
  refine Vw.iconst (pc := 1) (v := (0 : Int32)) K (by decide) dL_priority_1 ?_
  refine Vw.aload_n (pc := 2) (x := x0) K dL_priority_2 rfl ?_
  refine Vw.iload_n (pc := 3) (x := x1) K dL_priority_3 rfl ?_
  obtain ⟨g1, h⟩ := wgd h
  rcases wcatE h with ⟨v2, A3, e4, h⟩ | ⟨x5, A3, e4, h⟩
  · refine Vw.cV1 (pc := 4) (v := .inl v2) (c' := 1) (n' := 6) K (s_X8_priority K.tr e4) cal_X8_priority cls6 u_5_144 g1 rfl ⟨by decide, by decide⟩ ⟨by decide, by decide⟩ rfl (Nat.le_of_ble_eq_true rfl) dL_priority_4 rfl rfl ?_
    refine Vw.i2l (pc := 7) K dL_priority_7 ?_
    obtain ⟨g6, h⟩ := wgd h
    obtain ⟨g7, h⟩ := wgd h
    refine Vw.lastore (pc := 8) K g6 g7 dL_priority_8 ?_
    refine Vw.goto (pc := 9) (tgt := 15) K dL_priority_9 (by decide) ?_
    refine Vw.iconst (pc := 15) (v := (0 : Int32)) K (by decide) dL_priority_15 ?_
    exact Vw.iretL (pc := 16) K h E (by decide) (by decide) dL_priority_16
  · by_cases c8 : x5 = 3
    · subst c8
      have h := wpos rfl h
      refine Vw.cVC (pc := 4) (hp := 12) (pre := []) (x := ⟨0, 9, 12, 24⟩) (suf := []) (X := "java/lang/IndexOutOfBoundsException") (c' := 1) (n' := 6) K (s_X8_priority K.tr e4) cal_X8_priority cls6 u_5_144 g1 rfl ⟨by decide, by decide⟩ ⟨by decide, by decide⟩ rfl (Nat.le_of_ble_eq_true rfl) dL_priority_4 E.2.2.2 (fun z hz => by cases hz) (by decide) (by decide) u_3_169 (by decide) rfl dL_priority_12 (by decide) rfl rfl ?_
      refine Vw.iconst (pc := 13) (v := (1 : Int32)) K (by decide) dL_priority_13 ?_
      exact Vw.iretL (pc := 14) K h E (by decide) (by decide) dL_priority_14
    · have h := wneg c8 h
      cases h
theorem cal_L_priority : wCalH yL_priority (.codeWith yL_priority cL_priority 4 (some .int) [(0, 9, 12, 24)]) 3 := ⟨by decide +kernel, u_5_142, u_1_0, u_5_143⟩
def f_L_firstFrom (A : Hp) (x0 : Nat) (x1 : Nat) : Option (Int32 × Hp) := if (hsh A x0).1 = 7 then (wcat (f_X8_firstFrom A x0) (fun v2 A3 => if (hsh A3 x1).1 = 11 then if wix (0 : Int32) (hsh A3 x1).2 then some ((0 : Int32), (hsL A3 1035 x1 (0 : Int32).toNatClampNeg v2.toInt64)) else none else none) (fun x5 A3 => if x5 = 1 then some ((1 : Int32), A3) else none)) else none
set_option maxRecDepth 100000 in
theorem s_L_firstFrom {l : Launch} {g : GT} (hl : l.stackTraces = false) {A : Hp} {x0 : Nat} {x1 : Nat} {r : Int32} {B : Hp} (h : f_L_firstFrom A x0 x1 = some (r, B)) : MetV l g yL_firstFrom (.codeWith yL_firstFrom cL_firstFrom 3 (some .int) [(0, 8, 11, 13)]) [.inr (.inr x0), .inr (.inr x1)] A (.inl (some (.inl r))) B 7 120 1 6 := by
  refine MetV.ofVH hl (by decide +kernel) (Nat.le_of_ble_eq_true rfl) (fun κ K E => ?_)
  have K : Cx κ cL_firstFrom 3 RL 7 120 1 6 := K
  have E : EdH κ (some .int) "firstFrom" (.inl (some (.inl r))) B 1 6 [(0, 8, 11, 13)] := E
  unfold f_L_firstFrom at h
  change Vw κ A 0 0 0 [(0, .inr (.inr x0)), (1, .inr (.inr x1))] []
  refine Vw.aload_n (pc := 0) (x := x1) K dL_firstFrom_0 rfl ?_
  refine Vw.iconst (pc := 1) (v := (0 : Int32)) K (by decide) dL_firstFrom_1 ?_
  refine Vw.aload_n (pc := 2) (x := x0) K dL_firstFrom_2 rfl ?_
  obtain ⟨g1, h⟩ := wgd h
  rcases wcatE h with ⟨v2, A3, e4, h⟩ | ⟨x5, A3, e4, h⟩
  · refine Vw.cV1 (pc := 3) (v := .inl v2) (c' := 1) (n' := 6) K (s_X8_firstFrom K.tr e4) cal_X8_firstFrom cls6 u_5_151 g1 rfl ⟨by decide, by decide⟩ ⟨by decide, by decide⟩ rfl (Nat.le_of_ble_eq_true rfl) dL_firstFrom_3 rfl rfl ?_
    refine Vw.i2l (pc := 6) K dL_firstFrom_6 ?_
    obtain ⟨g6, h⟩ := wgd h
    obtain ⟨g7, h⟩ := wgd h
    refine Vw.lastore (pc := 7) K g6 g7 dL_firstFrom_7 ?_
    refine Vw.goto (pc := 8) (tgt := 14) K dL_firstFrom_8 (by decide) ?_
    refine Vw.iconst (pc := 14) (v := (0 : Int32)) K (by decide) dL_firstFrom_14 ?_
    exact Vw.iretL (pc := 15) K h E (by decide) (by decide) dL_firstFrom_15
  · by_cases c8 : x5 = 1
    · subst c8
      have h := wpos rfl h
      refine Vw.cVC (pc := 3) (hp := 11) (pre := []) (x := ⟨0, 8, 11, 13⟩) (suf := []) (X := "java/lang/IllegalArgumentException") (c' := 1) (n' := 6) K (s_X8_firstFrom K.tr e4) cal_X8_firstFrom cls6 u_5_151 g1 rfl ⟨by decide, by decide⟩ ⟨by decide, by decide⟩ rfl (Nat.le_of_ble_eq_true rfl) dL_firstFrom_3 E.2.2.2 (fun z hz => by cases hz) (by decide) (by decide) u_3_29 (by decide) rfl dL_firstFrom_11 (by decide) rfl rfl ?_
      refine Vw.iconst (pc := 12) (v := (1 : Int32)) K (by decide) dL_firstFrom_12 ?_
      exact Vw.iretL (pc := 13) K h E (by decide) (by decide) dL_firstFrom_13
    · have h := wneg c8 h
      cases h
theorem cal_L_firstFrom : wCalH yL_firstFrom (.codeWith yL_firstFrom cL_firstFrom 3 (some .int) [(0, 8, 11, 13)]) 2 := ⟨by decide +kernel, u_5_149, u_1_0, u_5_150⟩
def f_L_remove (A : Hp) (x0 : Nat) (x1 : Int32) (x2 : Nat) : Option (Int32 × Hp) := if (hsh A x0).1 = 7 then (wcat (f_X8_remove A x0 x1) (fun v2 A3 => if (hsh A3 x2).1 = 11 then if wix (0 : Int32) (hsh A3 x2).2 then some ((0 : Int32), (hsL A3 1035 x2 (0 : Int32).toNatClampNeg v2.toInt64)) else none else none) (fun x5 A3 => if x5 = 3 then some ((1 : Int32), A3) else none)) else none
set_option maxRecDepth 100000 in
theorem s_L_remove {l : Launch} {g : GT} (hl : l.stackTraces = false) {A : Hp} {x0 : Nat} {x1 : Int32} {x2 : Nat} {r : Int32} {B : Hp} (h : f_L_remove A x0 x1 x2 = some (r, B)) : MetV l g yL_remove (.codeWith yL_remove cL_remove 4 (some .int) [(0, 9, 12, 24)]) [.inr (.inr x0), .inl x1, .inr (.inr x2)] A (.inl (some (.inl r))) B 8 132 1 6 := by
  refine MetV.ofVH hl (by decide +kernel) (Nat.le_of_ble_eq_true rfl) (fun κ K E => ?_)
  have K : Cx κ cL_remove 4 RL 8 132 1 6 := K
  have E : EdH κ (some .int) "remove" (.inl (some (.inl r))) B 1 6 [(0, 9, 12, 24)] := E
  unfold f_L_remove at h
  change Vw κ A 0 0 0 [(0, .inr (.inr x0)), (1, .inl x1), (2, .inr (.inr x2))] []
  refine Vw.aload_n (pc := 0) (x := x2) K dL_remove_0 rfl ?_
  refine Vw.iconst (pc := 1) (v := (0 : Int32)) K (by decide) dL_remove_1 ?_
  refine Vw.aload_n (pc := 2) (x := x0) K dL_remove_2 rfl ?_
  refine Vw.iload_n (pc := 3) (x := x1) K dL_remove_3 rfl ?_
  obtain ⟨g1, h⟩ := wgd h
  rcases wcatE h with ⟨v2, A3, e4, h⟩ | ⟨x5, A3, e4, h⟩
  · refine Vw.cV1 (pc := 4) (v := .inl v2) (c' := 1) (n' := 6) K (s_X8_remove K.tr e4) cal_X8_remove cls6 u_5_163 g1 rfl ⟨by decide, by decide⟩ ⟨by decide, by decide⟩ rfl (Nat.le_of_ble_eq_true rfl) dL_remove_4 rfl rfl ?_
    refine Vw.i2l (pc := 7) K dL_remove_7 ?_
    obtain ⟨g6, h⟩ := wgd h
    obtain ⟨g7, h⟩ := wgd h
    refine Vw.lastore (pc := 8) K g6 g7 dL_remove_8 ?_
    refine Vw.goto (pc := 9) (tgt := 15) K dL_remove_9 (by decide) ?_
    refine Vw.iconst (pc := 15) (v := (0 : Int32)) K (by decide) dL_remove_15 ?_
    exact Vw.iretL (pc := 16) K h E (by decide) (by decide) dL_remove_16
  · by_cases c8 : x5 = 3
    · subst c8
      have h := wpos rfl h
      refine Vw.cVC (pc := 4) (hp := 12) (pre := []) (x := ⟨0, 9, 12, 24⟩) (suf := []) (X := "java/lang/IndexOutOfBoundsException") (c' := 1) (n' := 6) K (s_X8_remove K.tr e4) cal_X8_remove cls6 u_5_163 g1 rfl ⟨by decide, by decide⟩ ⟨by decide, by decide⟩ rfl (Nat.le_of_ble_eq_true rfl) dL_remove_4 E.2.2.2 (fun z hz => by cases hz) (by decide) (by decide) u_3_169 (by decide) rfl dL_remove_12 (by decide) rfl rfl ?_
      refine Vw.iconst (pc := 13) (v := (1 : Int32)) K (by decide) dL_remove_13 ?_
      exact Vw.iretL (pc := 14) K h E (by decide) (by decide) dL_remove_14
    · have h := wneg c8 h
      cases h
theorem cal_L_remove : wCalH yL_remove (.codeWith yL_remove cL_remove 4 (some .int) [(0, 9, 12, 24)]) 3 := ⟨by decide +kernel, u_5_161, u_1_0, u_5_162⟩
def f_L_clearSite (A : Hp) (x0 : Nat) (x1 : Nat) : Option (Int32 × Hp) := if (hsh A x0).1 = 7 then (wcat (f_X8_clearSite A x0) (fun v2 A3 => if (hsh A3 x1).1 = 11 then if wix (0 : Int32) (hsh A3 x1).2 then some ((0 : Int32), (hsL A3 1035 x1 (0 : Int32).toNatClampNeg v2.toInt64)) else none else none) (fun x5 A3 => if x5 = 2 then some ((1 : Int32), A3) else none)) else none
set_option maxRecDepth 100000 in
theorem s_L_clearSite {l : Launch} {g : GT} (hl : l.stackTraces = false) {A : Hp} {x0 : Nat} {x1 : Nat} {r : Int32} {B : Hp} (h : f_L_clearSite A x0 x1 = some (r, B)) : MetV l g yL_clearSite (.codeWith yL_clearSite cL_clearSite 3 (some .int) [(0, 8, 11, 15)]) [.inr (.inr x0), .inr (.inr x1)] A (.inl (some (.inl r))) B 8 154 1 6 := by
  refine MetV.ofVH hl (by decide +kernel) (Nat.le_of_ble_eq_true rfl) (fun κ K E => ?_)
  have K : Cx κ cL_clearSite 3 RL 8 154 1 6 := K
  have E : EdH κ (some .int) "clearSite" (.inl (some (.inl r))) B 1 6 [(0, 8, 11, 15)] := E
  unfold f_L_clearSite at h
  change Vw κ A 0 0 0 [(0, .inr (.inr x0)), (1, .inr (.inr x1))] []
  refine Vw.aload_n (pc := 0) (x := x1) K dL_clearSite_0 rfl ?_
  refine Vw.iconst (pc := 1) (v := (0 : Int32)) K (by decide) dL_clearSite_1 ?_
  refine Vw.aload_n (pc := 2) (x := x0) K dL_clearSite_2 rfl ?_
  obtain ⟨g1, h⟩ := wgd h
  rcases wcatE h with ⟨v2, A3, e4, h⟩ | ⟨x5, A3, e4, h⟩
  · refine Vw.cV1 (pc := 3) (v := .inl v2) (c' := 1) (n' := 6) K (s_X8_clearSite K.tr e4) cal_X8_clearSite cls6 u_5_171 g1 rfl ⟨by decide, by decide⟩ ⟨by decide, by decide⟩ rfl (Nat.le_of_ble_eq_true rfl) dL_clearSite_3 rfl rfl ?_
    refine Vw.i2l (pc := 6) K dL_clearSite_6 ?_
    obtain ⟨g6, h⟩ := wgd h
    obtain ⟨g7, h⟩ := wgd h
    refine Vw.lastore (pc := 7) K g6 g7 dL_clearSite_7 ?_
    refine Vw.goto (pc := 8) (tgt := 14) K dL_clearSite_8 (by decide) ?_
    refine Vw.iconst (pc := 14) (v := (0 : Int32)) K (by decide) dL_clearSite_14 ?_
    exact Vw.iretL (pc := 15) K h E (by decide) (by decide) dL_clearSite_15
  · by_cases c8 : x5 = 2
    · subst c8
      have h := wpos rfl h
      refine Vw.cVC (pc := 3) (hp := 11) (pre := []) (x := ⟨0, 8, 11, 15⟩) (suf := []) (X := "java/lang/IllegalStateException") (c' := 1) (n' := 6) K (s_X8_clearSite K.tr e4) cal_X8_clearSite cls6 u_5_171 g1 rfl ⟨by decide, by decide⟩ ⟨by decide, by decide⟩ rfl (Nat.le_of_ble_eq_true rfl) dL_clearSite_3 E.2.2.2 (fun z hz => by cases hz) (by decide) (by decide) u_3_30 (by decide) rfl dL_clearSite_11 (by decide) rfl rfl ?_
      refine Vw.iconst (pc := 12) (v := (1 : Int32)) K (by decide) dL_clearSite_12 ?_
      exact Vw.iretL (pc := 13) K h E (by decide) (by decide) dL_clearSite_13
    · have h := wneg c8 h
      cases h
theorem cal_L_clearSite : wCalH yL_clearSite (.codeWith yL_clearSite cL_clearSite 3 (some .int) [(0, 8, 11, 15)]) 2 := ⟨by decide +kernel, u_5_169, u_1_0, u_5_170⟩
def f_L_advance (A : Hp) (x0 : Nat) (x1 : Int32) (x2 : Nat) : Option (Int32 × Hp) := if (hsh A x0).1 = 7 then (wcat (f_X8_advance A x0 x1) (fun v2 A3 => if (hsh A3 x2).1 = 11 then if wix (0 : Int32) (hsh A3 x2).2 then some ((0 : Int32), (hsL A3 1035 x2 (0 : Int32).toNatClampNeg v2.toInt64)) else none else none) (fun x5 A3 => if x5 = 1 then some ((1 : Int32), A3) else none)) else none
set_option maxRecDepth 100000 in
theorem s_L_advance {l : Launch} {g : GT} (hl : l.stackTraces = false) {A : Hp} {x0 : Nat} {x1 : Int32} {x2 : Nat} {r : Int32} {B : Hp} (h : f_L_advance A x0 x1 x2 = some (r, B)) : MetV l g yL_advance (.codeWith yL_advance cL_advance 4 (some .int) [(0, 9, 12, 13)]) [.inr (.inr x0), .inl x1, .inr (.inr x2)] A (.inl (some (.inl r))) B 7 111 1 6 := by
  refine MetV.ofVH hl (by decide +kernel) (Nat.le_of_ble_eq_true rfl) (fun κ K E => ?_)
  have K : Cx κ cL_advance 4 RL 7 111 1 6 := K
  have E : EdH κ (some .int) "advance" (.inl (some (.inl r))) B 1 6 [(0, 9, 12, 13)] := E
  unfold f_L_advance at h
  change Vw κ A 0 0 0 [(0, .inr (.inr x0)), (1, .inl x1), (2, .inr (.inr x2))] []
  refine Vw.aload_n (pc := 0) (x := x2) K dL_advance_0 rfl ?_
  refine Vw.iconst (pc := 1) (v := (0 : Int32)) K (by decide) dL_advance_1 ?_
  refine Vw.aload_n (pc := 2) (x := x0) K dL_advance_2 rfl ?_
  refine Vw.iload_n (pc := 3) (x := x1) K dL_advance_3 rfl ?_
  obtain ⟨g1, h⟩ := wgd h
  rcases wcatE h with ⟨v2, A3, e4, h⟩ | ⟨x5, A3, e4, h⟩
  · refine Vw.cV1 (pc := 4) (v := .inl v2) (c' := 1) (n' := 6) K (s_X8_advance K.tr e4) cal_X8_advance cls6 u_5_182 g1 rfl ⟨by decide, by decide⟩ ⟨by decide, by decide⟩ rfl (Nat.le_of_ble_eq_true rfl) dL_advance_4 rfl rfl ?_
    refine Vw.i2l (pc := 7) K dL_advance_7 ?_
    obtain ⟨g6, h⟩ := wgd h
    obtain ⟨g7, h⟩ := wgd h
    refine Vw.lastore (pc := 8) K g6 g7 dL_advance_8 ?_
    refine Vw.goto (pc := 9) (tgt := 15) K dL_advance_9 (by decide) ?_
    refine Vw.iconst (pc := 15) (v := (0 : Int32)) K (by decide) dL_advance_15 ?_
    exact Vw.iretL (pc := 16) K h E (by decide) (by decide) dL_advance_16
  · by_cases c8 : x5 = 1
    · subst c8
      have h := wpos rfl h
      refine Vw.cVC (pc := 4) (hp := 12) (pre := []) (x := ⟨0, 9, 12, 13⟩) (suf := []) (X := "java/lang/IllegalArgumentException") (c' := 1) (n' := 6) K (s_X8_advance K.tr e4) cal_X8_advance cls6 u_5_182 g1 rfl ⟨by decide, by decide⟩ ⟨by decide, by decide⟩ rfl (Nat.le_of_ble_eq_true rfl) dL_advance_4 E.2.2.2 (fun z hz => by cases hz) (by decide) (by decide) u_3_29 (by decide) rfl dL_advance_12 (by decide) rfl rfl ?_
      refine Vw.iconst (pc := 13) (v := (1 : Int32)) K (by decide) dL_advance_13 ?_
      exact Vw.iretL (pc := 14) K h E (by decide) (by decide) dL_advance_14
    · have h := wneg c8 h
      cases h
theorem cal_L_advance : wCalH yL_advance (.codeWith yL_advance cL_advance 4 (some .int) [(0, 9, 12, 13)]) 3 := ⟨by decide +kernel, u_5_180, u_1_0, u_5_181⟩
def f_L_setLimit (A : Hp) (x0 : Nat) (x1 : Int32) (x2 : Int32) (x3 : Nat) : Option (Int32 × Hp) := if (hsh A x0).1 = 7 then (wcat (f_X8_setLimit A x0 x1 x2) (fun v2 A3 => if (hsh A3 x3).1 = 11 then if wix (0 : Int32) (hsh A3 x3).2 then some ((0 : Int32), (hsL A3 1035 x3 (0 : Int32).toNatClampNeg v2.toInt64)) else none else none) (fun x5 A3 => if x5 = 3 then some ((1 : Int32), A3) else if x5 = 1 then some ((2 : Int32), A3) else none)) else none
set_option maxRecDepth 100000 in
theorem s_L_setLimit {l : Launch} {g : GT} (hl : l.stackTraces = false) {A : Hp} {x0 : Nat} {x1 : Int32} {x2 : Int32} {x3 : Nat} {r : Int32} {B : Hp} (h : f_L_setLimit A x0 x1 x2 x3 = some (r, B)) : MetV l g yL_setLimit (.codeWith yL_setLimit cL_setLimit 5 (some .int) [(0, 10, 13, 24), (0, 10, 17, 13)]) [.inr (.inr x0), .inl x1, .inl x2, .inr (.inr x3)] A (.inl (some (.inl r))) B 7 113 1 6 := by
  refine MetV.ofVH hl (by decide +kernel) (Nat.le_of_ble_eq_true rfl) (fun κ K E => ?_)
  have K : Cx κ cL_setLimit 5 RL 7 113 1 6 := K
  have E : EdH κ (some .int) "setLimit" (.inl (some (.inl r))) B 1 6 [(0, 10, 13, 24), (0, 10, 17, 13)] := E
  unfold f_L_setLimit at h
  change Vw κ A 0 0 0 [(0, .inr (.inr x0)), (1, .inl x1), (2, .inl x2), (3, .inr (.inr x3))] []
  refine Vw.aload_n (pc := 0) (x := x3) K dL_setLimit_0 rfl ?_
  refine Vw.iconst (pc := 1) (v := (0 : Int32)) K (by decide) dL_setLimit_1 ?_
  refine Vw.aload_n (pc := 2) (x := x0) K dL_setLimit_2 rfl ?_
  refine Vw.iload_n (pc := 3) (x := x1) K dL_setLimit_3 rfl ?_
  refine Vw.iload_n (pc := 4) (x := x2) K dL_setLimit_4 rfl ?_
  obtain ⟨g1, h⟩ := wgd h
  rcases wcatE h with ⟨v2, A3, e4, h⟩ | ⟨x5, A3, e4, h⟩
  · refine Vw.cV1 (pc := 5) (v := .inl v2) (c' := 1) (n' := 6) K (s_X8_setLimit K.tr e4) cal_X8_setLimit cls6 u_5_194 g1 rfl ⟨by decide, by decide⟩ ⟨by decide, by decide⟩ rfl (Nat.le_of_ble_eq_true rfl) dL_setLimit_5 rfl rfl ?_
    refine Vw.i2l (pc := 8) K dL_setLimit_8 ?_
    obtain ⟨g6, h⟩ := wgd h
    obtain ⟨g7, h⟩ := wgd h
    refine Vw.lastore (pc := 9) K g6 g7 dL_setLimit_9 ?_
    refine Vw.goto (pc := 10) (tgt := 21) K dL_setLimit_10 (by decide) ?_
    refine Vw.iconst (pc := 21) (v := (0 : Int32)) K (by decide) dL_setLimit_21 ?_
    exact Vw.iretL (pc := 22) K h E (by decide) (by decide) dL_setLimit_22
  · by_cases c8 : x5 = 3
    · subst c8
      have h := wpos rfl h
      refine Vw.cVD (pc := 5) (hp := 13) (pre := []) (x := ⟨0, 10, 13, 24⟩) (suf := [⟨0, 10, 17, 13⟩]) (X := "java/lang/IndexOutOfBoundsException") (c' := 1) (n' := 6) K (s_X8_setLimit K.tr e4) cal_X8_setLimit cls6 u_5_194 g1 rfl ⟨by decide, by decide⟩ ⟨by decide, by decide⟩ rfl (Nat.le_of_ble_eq_true rfl) dL_setLimit_5 E.2.2.2 (fun z hz => by cases hz) (by decide) (by decide) u_3_169 (by decide) rfl dL_setLimit_13 (by decide) rfl rfl ?_
      refine Vw.iconst (pc := 15) (v := (1 : Int32)) K (by decide) dL_setLimit_15 ?_
      exact Vw.iretL (pc := 16) K h E (by decide) (by decide) dL_setLimit_16
    have h := wneg c8 h
    by_cases c9 : x5 = 1
    · subst c9
      have h := wpos rfl h
      refine Vw.cVD (pc := 5) (hp := 17) (pre := [⟨0, 10, 13, 24⟩]) (x := ⟨0, 10, 17, 13⟩) (suf := []) (X := "java/lang/IllegalArgumentException") (c' := 1) (n' := 6) K (s_X8_setLimit K.tr e4) cal_X8_setLimit cls6 u_5_194 g1 rfl ⟨by decide, by decide⟩ ⟨by decide, by decide⟩ rfl (Nat.le_of_ble_eq_true rfl) dL_setLimit_5 E.2.2.2 (fun z hz => by cases List.mem_singleton.mp hz; exact Or.inr ⟨by decide, "java/lang/IndexOutOfBoundsException", u_3_169, by decide⟩) (by decide) (by decide) u_3_29 (by decide) rfl dL_setLimit_17 (by decide) rfl rfl ?_
      refine Vw.iconst (pc := 19) (v := (2 : Int32)) K (by decide) dL_setLimit_19 ?_
      exact Vw.iretL (pc := 20) K h E (by decide) (by decide) dL_setLimit_20
    · have h := wneg c9 h
      cases h
theorem cal_L_setLimit : wCalH yL_setLimit (.codeWith yL_setLimit cL_setLimit 5 (some .int) [(0, 10, 13, 24), (0, 10, 17, 13)]) 4 := ⟨by decide +kernel, u_5_192, u_1_0, u_5_193⟩
def f_L_setPolicy (A : Hp) (x0 : Nat) (x1 : Int32) (x2 : Nat) : Option (Int32 × Hp) := if (hsh A x0).1 = 7 then (wcat (f_X8_setPolicy A x0 x1) (fun v2 A3 => if (hsh A3 x2).1 = 11 then if wix (0 : Int32) (hsh A3 x2).2 then some ((0 : Int32), (hsL A3 1035 x2 (0 : Int32).toNatClampNeg v2.toInt64)) else none else none) (fun x5 A3 => if x5 = 1 then some ((1 : Int32), A3) else none)) else none
set_option maxRecDepth 100000 in
theorem s_L_setPolicy {l : Launch} {g : GT} (hl : l.stackTraces = false) {A : Hp} {x0 : Nat} {x1 : Int32} {x2 : Nat} {r : Int32} {B : Hp} (h : f_L_setPolicy A x0 x1 x2 = some (r, B)) : MetV l g yL_setPolicy (.codeWith yL_setPolicy cL_setPolicy 4 (some .int) [(0, 9, 12, 13)]) [.inr (.inr x0), .inl x1, .inr (.inr x2)] A (.inl (some (.inl r))) B 7 112 1 6 := by
  refine MetV.ofVH hl (by decide +kernel) (Nat.le_of_ble_eq_true rfl) (fun κ K E => ?_)
  have K : Cx κ cL_setPolicy 4 RL 7 112 1 6 := K
  have E : EdH κ (some .int) "setPolicy" (.inl (some (.inl r))) B 1 6 [(0, 9, 12, 13)] := E
  unfold f_L_setPolicy at h
  change Vw κ A 0 0 0 [(0, .inr (.inr x0)), (1, .inl x1), (2, .inr (.inr x2))] []
  refine Vw.aload_n (pc := 0) (x := x2) K dL_setPolicy_0 rfl ?_
  refine Vw.iconst (pc := 1) (v := (0 : Int32)) K (by decide) dL_setPolicy_1 ?_
  refine Vw.aload_n (pc := 2) (x := x0) K dL_setPolicy_2 rfl ?_
  refine Vw.iload_n (pc := 3) (x := x1) K dL_setPolicy_3 rfl ?_
  obtain ⟨g1, h⟩ := wgd h
  rcases wcatE h with ⟨v2, A3, e4, h⟩ | ⟨x5, A3, e4, h⟩
  · refine Vw.cV1 (pc := 4) (v := .inl v2) (c' := 1) (n' := 6) K (s_X8_setPolicy K.tr e4) cal_X8_setPolicy cls6 u_5_203 g1 rfl ⟨by decide, by decide⟩ ⟨by decide, by decide⟩ rfl (Nat.le_of_ble_eq_true rfl) dL_setPolicy_4 rfl rfl ?_
    refine Vw.i2l (pc := 7) K dL_setPolicy_7 ?_
    obtain ⟨g6, h⟩ := wgd h
    obtain ⟨g7, h⟩ := wgd h
    refine Vw.lastore (pc := 8) K g6 g7 dL_setPolicy_8 ?_
    refine Vw.goto (pc := 9) (tgt := 15) K dL_setPolicy_9 (by decide) ?_
    refine Vw.iconst (pc := 15) (v := (0 : Int32)) K (by decide) dL_setPolicy_15 ?_
    exact Vw.iretL (pc := 16) K h E (by decide) (by decide) dL_setPolicy_16
  · by_cases c8 : x5 = 1
    · subst c8
      have h := wpos rfl h
      refine Vw.cVC (pc := 4) (hp := 12) (pre := []) (x := ⟨0, 9, 12, 13⟩) (suf := []) (X := "java/lang/IllegalArgumentException") (c' := 1) (n' := 6) K (s_X8_setPolicy K.tr e4) cal_X8_setPolicy cls6 u_5_203 g1 rfl ⟨by decide, by decide⟩ ⟨by decide, by decide⟩ rfl (Nat.le_of_ble_eq_true rfl) dL_setPolicy_4 E.2.2.2 (fun z hz => by cases hz) (by decide) (by decide) u_3_29 (by decide) rfl dL_setPolicy_12 (by decide) rfl rfl ?_
      refine Vw.iconst (pc := 13) (v := (1 : Int32)) K (by decide) dL_setPolicy_13 ?_
      exact Vw.iretL (pc := 14) K h E (by decide) (by decide) dL_setPolicy_14
    · have h := wneg c8 h
      cases h
theorem cal_L_setPolicy : wCalH yL_setPolicy (.codeWith yL_setPolicy cL_setPolicy 4 (some .int) [(0, 9, 12, 13)]) 3 := ⟨by decide +kernel, u_5_201, u_1_0, u_5_202⟩
def f_L_count (A : Hp) (x0 : Nat) (x1 : Int32) (x2 : Nat) : Option (Int32 × Hp) := if (hsh A x0).1 = 7 then (wcat (f_X8_count A x0 x1) (fun v2 A3 => if (hsh A3 x2).1 = 11 then if wix (0 : Int32) (hsh A3 x2).2 then some ((0 : Int32), (hsL A3 1035 x2 (0 : Int32).toNatClampNeg v2.toInt64)) else none else none) (fun x5 A3 => if x5 = 3 then some ((1 : Int32), A3) else none)) else none
set_option maxRecDepth 100000 in
theorem s_L_count {l : Launch} {g : GT} (hl : l.stackTraces = false) {A : Hp} {x0 : Nat} {x1 : Int32} {x2 : Nat} {r : Int32} {B : Hp} (h : f_L_count A x0 x1 x2 = some (r, B)) : MetV l g yL_count (.codeWith yL_count cL_count 4 (some .int) [(0, 9, 12, 24)]) [.inr (.inr x0), .inl x1, .inr (.inr x2)] A (.inl (some (.inl r))) B 7 111 1 6 := by
  refine MetV.ofVH hl (by decide +kernel) (Nat.le_of_ble_eq_true rfl) (fun κ K E => ?_)
  have K : Cx κ cL_count 4 RL 7 111 1 6 := K
  have E : EdH κ (some .int) "count" (.inl (some (.inl r))) B 1 6 [(0, 9, 12, 24)] := E
  unfold f_L_count at h
  change Vw κ A 0 0 0 [(0, .inr (.inr x0)), (1, .inl x1), (2, .inr (.inr x2))] []
  refine Vw.aload_n (pc := 0) (x := x2) K dL_count_0 rfl ?_
  refine Vw.iconst (pc := 1) (v := (0 : Int32)) K (by decide) dL_count_1 ?_
  refine Vw.aload_n (pc := 2) (x := x0) K dL_count_2 rfl ?_
  refine Vw.iload_n (pc := 3) (x := x1) K dL_count_3 rfl ?_
  obtain ⟨g1, h⟩ := wgd h
  rcases wcatE h with ⟨v2, A3, e4, h⟩ | ⟨x5, A3, e4, h⟩
  · refine Vw.cV1 (pc := 4) (v := .inl v2) (c' := 1) (n' := 6) K (s_X8_count K.tr e4) cal_X8_count cls6 u_5_211 g1 rfl ⟨by decide, by decide⟩ ⟨by decide, by decide⟩ rfl (Nat.le_of_ble_eq_true rfl) dL_count_4 rfl rfl ?_
    refine Vw.i2l (pc := 7) K dL_count_7 ?_
    obtain ⟨g6, h⟩ := wgd h
    obtain ⟨g7, h⟩ := wgd h
    refine Vw.lastore (pc := 8) K g6 g7 dL_count_8 ?_
    refine Vw.goto (pc := 9) (tgt := 15) K dL_count_9 (by decide) ?_
    refine Vw.iconst (pc := 15) (v := (0 : Int32)) K (by decide) dL_count_15 ?_
    exact Vw.iretL (pc := 16) K h E (by decide) (by decide) dL_count_16
  · by_cases c8 : x5 = 3
    · subst c8
      have h := wpos rfl h
      refine Vw.cVC (pc := 4) (hp := 12) (pre := []) (x := ⟨0, 9, 12, 24⟩) (suf := []) (X := "java/lang/IndexOutOfBoundsException") (c' := 1) (n' := 6) K (s_X8_count K.tr e4) cal_X8_count cls6 u_5_211 g1 rfl ⟨by decide, by decide⟩ ⟨by decide, by decide⟩ rfl (Nat.le_of_ble_eq_true rfl) dL_count_4 E.2.2.2 (fun z hz => by cases hz) (by decide) (by decide) u_3_169 (by decide) rfl dL_count_12 (by decide) rfl rfl ?_
      refine Vw.iconst (pc := 13) (v := (1 : Int32)) K (by decide) dL_count_13 ?_
      exact Vw.iretL (pc := 14) K h E (by decide) (by decide) dL_count_14
    · have h := wneg c8 h
      cases h
theorem cal_L_count : wCalH yL_count (.codeWith yL_count cL_count 4 (some .int) [(0, 9, 12, 24)]) 3 := ⟨by decide +kernel, u_5_209, u_1_0, u_5_210⟩
def f_L_save (A : Hp) (x0 : Nat) (x1 : Int32) (x2 : Nat) : Option (Int32 × Hp) := if (hsh A x0).1 = 7 then (wcat (f_X8_save A x0 x1) (fun v2 A3 => if (hsh A3 x2).1 = 11 then if wix (0 : Int32) (hsh A3 x2).2 then some ((0 : Int32), (hsL A3 1035 x2 (0 : Int32).toNatClampNeg v2.toInt64)) else none else none) (fun x5 A3 => if x5 = 3 then some ((1 : Int32), A3) else none)) else none
set_option maxRecDepth 100000 in
theorem s_L_save {l : Launch} {g : GT} (hl : l.stackTraces = false) {A : Hp} {x0 : Nat} {x1 : Int32} {x2 : Nat} {r : Int32} {B : Hp} (h : f_L_save A x0 x1 x2 = some (r, B)) : MetV l g yL_save (.codeWith yL_save cL_save 4 (some .int) [(0, 9, 12, 24)]) [.inr (.inr x0), .inl x1, .inr (.inr x2)] A (.inl (some (.inl r))) B 8 135 423 8600 := by
  refine MetV.ofVH hl (by decide +kernel) (Nat.le_of_ble_eq_true rfl) (fun κ K E => ?_)
  have K : Cx κ cL_save 4 RL 8 135 423 8600 := K
  have E : EdH κ (some .int) "save" (.inl (some (.inl r))) B 423 8600 [(0, 9, 12, 24)] := E
  unfold f_L_save at h
  change Vw κ A 0 0 0 [(0, .inr (.inr x0)), (1, .inl x1), (2, .inr (.inr x2))] []
  refine Vw.aload_n (pc := 0) (x := x2) K dL_save_0 rfl ?_
  refine Vw.iconst (pc := 1) (v := (0 : Int32)) K (by decide) dL_save_1 ?_
  refine Vw.aload_n (pc := 2) (x := x0) K dL_save_2 rfl ?_
  refine Vw.iload_n (pc := 3) (x := x1) K dL_save_3 rfl ?_
  obtain ⟨g1, h⟩ := wgd h
  rcases wcatE h with ⟨v2, A3, e4, h⟩ | ⟨x5, A3, e4, h⟩
  · refine Vw.cV1 (pc := 4) (v := .inl v2) (c' := 423) (n' := 8600) K (s_X8_save K.tr e4) cal_X8_save cls6 u_5_219 g1 rfl ⟨by decide, by decide⟩ ⟨by decide, by decide⟩ rfl (Nat.le_of_ble_eq_true rfl) dL_save_4 rfl rfl ?_
    refine Vw.i2l (pc := 7) K dL_save_7 ?_
    obtain ⟨g6, h⟩ := wgd h
    obtain ⟨g7, h⟩ := wgd h
    refine Vw.lastore (pc := 8) K g6 g7 dL_save_8 ?_
    refine Vw.goto (pc := 9) (tgt := 15) K dL_save_9 (by decide) ?_
    refine Vw.iconst (pc := 15) (v := (0 : Int32)) K (by decide) dL_save_15 ?_
    exact Vw.iretL (pc := 16) K h E (by decide) (by decide) dL_save_16
  · by_cases c8 : x5 = 3
    · subst c8
      have h := wpos rfl h
      refine Vw.cVC (pc := 4) (hp := 12) (pre := []) (x := ⟨0, 9, 12, 24⟩) (suf := []) (X := "java/lang/IndexOutOfBoundsException") (c' := 423) (n' := 8600) K (s_X8_save K.tr e4) cal_X8_save cls6 u_5_219 g1 rfl ⟨by decide, by decide⟩ ⟨by decide, by decide⟩ rfl (Nat.le_of_ble_eq_true rfl) dL_save_4 E.2.2.2 (fun z hz => by cases hz) (by decide) (by decide) u_3_169 (by decide) rfl dL_save_12 (by decide) rfl rfl ?_
      refine Vw.iconst (pc := 13) (v := (1 : Int32)) K (by decide) dL_save_13 ?_
      exact Vw.iretL (pc := 14) K h E (by decide) (by decide) dL_save_14
    · have h := wneg c8 h
      cases h
theorem cal_L_save : wCalH yL_save (.codeWith yL_save cL_save 4 (some .int) [(0, 9, 12, 24)]) 3 := ⟨by decide +kernel, u_5_217, u_1_0, u_5_218⟩
def f_L_restore (A : Hp) (x0 : Nat) (x1 : Int32) (x2 : Nat) : Option (Int32 × Hp) := if (hsh A x0).1 = 7 then (wcat (f_X8_restore A x0 x1) (fun v2 A3 => if (hsh A3 x2).1 = 11 then if wix (0 : Int32) (hsh A3 x2).2 then some ((0 : Int32), (hsL A3 1035 x2 (0 : Int32).toNatClampNeg v2.toInt64)) else none else none) (fun x5 A3 => if x5 = 3 then some ((1 : Int32), A3) else if x5 = 2 then some ((2 : Int32), A3) else none)) else none
set_option maxRecDepth 100000 in
theorem s_L_restore {l : Launch} {g : GT} (hl : l.stackTraces = false) {A : Hp} {x0 : Nat} {x1 : Int32} {x2 : Nat} {r : Int32} {B : Hp} (h : f_L_restore A x0 x1 x2 = some (r, B)) : MetV l g yL_restore (.codeWith yL_restore cL_restore 4 (some .int) [(0, 9, 12, 24), (0, 9, 15, 15)]) [.inr (.inr x0), .inl x1, .inr (.inr x2)] A (.inl (some (.inl r))) B 8 135 2 12 := by
  refine MetV.ofVH hl (by decide +kernel) (Nat.le_of_ble_eq_true rfl) (fun κ K E => ?_)
  have K : Cx κ cL_restore 4 RL 8 135 2 12 := K
  have E : EdH κ (some .int) "restore" (.inl (some (.inl r))) B 2 12 [(0, 9, 12, 24), (0, 9, 15, 15)] := E
  unfold f_L_restore at h
  change Vw κ A 0 0 0 [(0, .inr (.inr x0)), (1, .inl x1), (2, .inr (.inr x2))] []
  refine Vw.aload_n (pc := 0) (x := x2) K dL_restore_0 rfl ?_
  refine Vw.iconst (pc := 1) (v := (0 : Int32)) K (by decide) dL_restore_1 ?_
  refine Vw.aload_n (pc := 2) (x := x0) K dL_restore_2 rfl ?_
  refine Vw.iload_n (pc := 3) (x := x1) K dL_restore_3 rfl ?_
  obtain ⟨g1, h⟩ := wgd h
  rcases wcatE h with ⟨v2, A3, e4, h⟩ | ⟨x5, A3, e4, h⟩
  · refine Vw.cV1 (pc := 4) (v := .inl v2) (c' := 2) (n' := 12) K (s_X8_restore K.tr e4) cal_X8_restore cls6 u_6_4 g1 rfl ⟨by decide, by decide⟩ ⟨by decide, by decide⟩ rfl (Nat.le_of_ble_eq_true rfl) dL_restore_4 rfl rfl ?_
    refine Vw.i2l (pc := 7) K dL_restore_7 ?_
    obtain ⟨g6, h⟩ := wgd h
    obtain ⟨g7, h⟩ := wgd h
    refine Vw.lastore (pc := 8) K g6 g7 dL_restore_8 ?_
    refine Vw.goto (pc := 9) (tgt := 18) K dL_restore_9 (by decide) ?_
    refine Vw.iconst (pc := 18) (v := (0 : Int32)) K (by decide) dL_restore_18 ?_
    exact Vw.iretL (pc := 19) K h E (by decide) (by decide) dL_restore_19
  · by_cases c8 : x5 = 3
    · subst c8
      have h := wpos rfl h
      refine Vw.cVC (pc := 4) (hp := 12) (pre := []) (x := ⟨0, 9, 12, 24⟩) (suf := [⟨0, 9, 15, 15⟩]) (X := "java/lang/IndexOutOfBoundsException") (c' := 2) (n' := 12) K (s_X8_restore K.tr e4) cal_X8_restore cls6 u_6_4 g1 rfl ⟨by decide, by decide⟩ ⟨by decide, by decide⟩ rfl (Nat.le_of_ble_eq_true rfl) dL_restore_4 E.2.2.2 (fun z hz => by cases hz) (by decide) (by decide) u_3_169 (by decide) rfl dL_restore_12 (by decide) rfl rfl ?_
      refine Vw.iconst (pc := 13) (v := (1 : Int32)) K (by decide) dL_restore_13 ?_
      exact Vw.iretL (pc := 14) K h E (by decide) (by decide) dL_restore_14
    have h := wneg c8 h
    by_cases c9 : x5 = 2
    · subst c9
      have h := wpos rfl h
      refine Vw.cVC (pc := 4) (hp := 15) (pre := [⟨0, 9, 12, 24⟩]) (x := ⟨0, 9, 15, 15⟩) (suf := []) (X := "java/lang/IllegalStateException") (c' := 2) (n' := 12) K (s_X8_restore K.tr e4) cal_X8_restore cls6 u_6_4 g1 rfl ⟨by decide, by decide⟩ ⟨by decide, by decide⟩ rfl (Nat.le_of_ble_eq_true rfl) dL_restore_4 E.2.2.2 (fun z hz => by cases List.mem_singleton.mp hz; exact Or.inr ⟨by decide, "java/lang/IndexOutOfBoundsException", u_3_169, by decide⟩) (by decide) (by decide) u_3_30 (by decide) rfl dL_restore_15 (by decide) rfl rfl ?_
      refine Vw.iconst (pc := 16) (v := (2 : Int32)) K (by decide) dL_restore_16 ?_
      exact Vw.iretL (pc := 17) K h E (by decide) (by decide) dL_restore_17
    · have h := wneg c9 h
      cases h
theorem cal_L_restore : wCalH yL_restore (.codeWith yL_restore cL_restore 4 (some .int) [(0, 9, 12, 24), (0, 9, 15, 15)]) 3 := ⟨by decide +kernel, u_6_2, u_1_0, u_6_3⟩
