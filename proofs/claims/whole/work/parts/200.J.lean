def f_J0_coder_7d493 (A : Hp) (x0 : Nat) : Option (Int32) := (if (1 : Int32) = (0 : Int32) then some (1 : Int32) else if wSn x0 then some (0 : Int32) else none)
set_option maxRecDepth 100000 in
theorem s_J0_coder_7d493 {l : Launch} {g : GT} (hl : l.stackTraces = false) {A : Hp} {x0 : Nat} {r : Int32} (h : f_J0_coder_7d493 A x0 = some r) : MetV l g yJ0_coder_7d493 (.code yJ0_coder_7d493 cJ0_coder_7d493 1 (some .byte)) [.inr (.inr x0)] A (.inl (some (.inl r))) A 0 0 0 0 := by
  refine MetV.ofV hl (by decide +kernel) (Nat.le_of_ble_eq_true rfl) (fun κ K E => ?_)
  have K : Cx κ cJ0_coder_7d493 1 RJ0 0 0 0 0 := K
  have E : Ed κ (some .byte) "coder" (.inl (some (.inl r))) A 0 0 := E
  unfold f_J0_coder_7d493 at h
  change Vw κ A 0 0 0 [(0, .inr (.inr x0))] []
  refine Vw.gstC (pc := 0) K u_2_108 dJ0_coder_7d493_0 ?_
  refine Vw.if_eq (pc := 3) (tgt := 13) K dJ0_coder_7d493_3 (by decide) (fun c1 => ?_) (fun c1 => ?_)
  · have h := wpos c1 h
    refine Vw.iconst (pc := 13) (v := (1 : Int32)) K (by decide) dJ0_coder_7d493_13 ?_
    exact Vw.bret (pc := 14) K (by decide) (Option.some.inj h) rfl E (by decide) (by decide) dJ0_coder_7d493_14
  · have h := wneg c1 h
    refine Vw.aload_n (pc := 6) (x := x0) K dJ0_coder_7d493_6 rfl ?_
    obtain ⟨g2, h⟩ := wgd h
    refine Vw.getSC (pc := 7) K g2 u_8_120 dJ0_coder_7d493_7 ?_
    refine Vw.goto (pc := 10) (tgt := 14) K dJ0_coder_7d493_10 (by decide) ?_
    exact Vw.bret (pc := 14) K (by decide) (Option.some.inj h) rfl E (by decide) (by decide) dJ0_coder_7d493_14
theorem cal_J0_coder_7d493 : wCalV RJ0 yJ0_coder_7d493 (.code yJ0_coder_7d493 cJ0_coder_7d493 1 (some .byte)) 0 := ⟨by decide +kernel, u_2_105, u_2_106, u_1_15, u_2_107⟩
def f_J0_length_8abf5 (A : Hp) (x0 : Nat) : Option (Int32) := if wSn x0 then if wBn (40 + x0) then ((f_J0_coder_7d493 A x0).bind fun v4 => some ((nI (wsc ((40 + x0) - 40)).length) >>> (v4 &&& 31))) else none else none
set_option maxRecDepth 100000 in
theorem s_J0_length_8abf5 {l : Launch} {g : GT} (hl : l.stackTraces = false) {A : Hp} {x0 : Nat} {r : Int32} (h : f_J0_length_8abf5 A x0 = some r) : MetV l g yJ0_length_8abf5 (.code yJ0_length_8abf5 cJ0_length_8abf5 1 (some .int)) [.inr (.inr x0)] A (.inl (some (.inl r))) A 1 20 0 0 := by
  refine MetV.ofV hl (by decide +kernel) (Nat.le_of_ble_eq_true rfl) (fun κ K E => ?_)
  have K : Cx κ cJ0_length_8abf5 1 RJ0 1 20 0 0 := K
  have E : Ed κ (some .int) "length" (.inl (some (.inl r))) A 0 0 := E
  unfold f_J0_length_8abf5 at h
  change Vw κ A 0 0 0 [(0, .inr (.inr x0))] []
  refine Vw.aload_n (pc := 0) (x := x0) K dJ0_length_8abf5_0 rfl ?_
  obtain ⟨g1, h⟩ := wgd h
  refine Vw.getSV (pc := 1) K g1 u_8_119 dJ0_length_8abf5_1 ?_
  obtain ⟨g2, h⟩ := wgd h
  refine Vw.alenB (pc := 4) K g2 dJ0_length_8abf5_4 ?_
  refine Vw.aload_n (pc := 5) (x := x0) K dJ0_length_8abf5_5 rfl ?_
  obtain ⟨v4, e3, h⟩ := wbd h
  refine Vw.cStr (pc := 6) (v := .inl v4) K (s_J0_coder_7d493 K.tr e3) cal_J0_coder_7d493 u_2_104 g1 rfl ⟨by decide, by decide⟩ ⟨by decide, by decide⟩ rfl (Nat.le_of_ble_eq_true rfl) dJ0_length_8abf5_6 ?_
  refine Vw.ishr (pc := 9) K dJ0_length_8abf5_9 ?_
  exact Vw.iretE (pc := 10) K (Option.some.inj h) rfl E (by decide) (by decide) dJ0_length_8abf5_10
theorem cal_J0_length_8abf5 : wCalV RJ0 yJ0_length_8abf5 (.code yJ0_length_8abf5 cJ0_length_8abf5 1 (some .int)) 0 := ⟨by decide +kernel, u_2_101, u_2_102, u_1_15, u_2_103⟩
def f_J0_isLatin1_aae02 (A : Hp) (x0 : Nat) : Option (Int32) := (if (1 : Int32) = (0 : Int32) then some (0 : Int32) else if wSn x0 then (if (0 : Int32) = (0 : Int32) then some (1 : Int32) else some (0 : Int32)) else none)
set_option maxRecDepth 100000 in
theorem s_J0_isLatin1_aae02 {l : Launch} {g : GT} (hl : l.stackTraces = false) {A : Hp} {x0 : Nat} {r : Int32} (h : f_J0_isLatin1_aae02 A x0 = some r) : MetV l g yJ0_isLatin1_aae02 (.code yJ0_isLatin1_aae02 cJ0_isLatin1_aae02 1 (some .boolean)) [.inr (.inr x0)] A (.inl (some (.inl r))) A 0 0 0 0 := by
  refine MetV.ofV hl (by decide +kernel) (Nat.le_of_ble_eq_true rfl) (fun κ K E => ?_)
  have K : Cx κ cJ0_isLatin1_aae02 1 RJ0 0 0 0 0 := K
  have E : Ed κ (some .boolean) "isLatin1" (.inl (some (.inl r))) A 0 0 := E
  unfold f_J0_isLatin1_aae02 at h
  change Vw κ A 0 0 0 [(0, .inr (.inr x0))] []
  refine Vw.gstC (pc := 0) K u_2_108 dJ0_isLatin1_aae02_0 ?_
  refine Vw.if_eq (pc := 3) (tgt := 17) K dJ0_isLatin1_aae02_3 (by decide) (fun c1 => ?_) (fun c1 => ?_)
  · have h := wpos c1 h
    refine Vw.iconst (pc := 17) (v := (0 : Int32)) K (by decide) dJ0_isLatin1_aae02_17 ?_
    exact Vw.zretE (pc := 18) K (Or.inl rfl) (Option.some.inj h) rfl E (by decide) (by decide) dJ0_isLatin1_aae02_18
  · have h := wneg c1 h
    refine Vw.aload_n (pc := 6) (x := x0) K dJ0_isLatin1_aae02_6 rfl ?_
    obtain ⟨g2, h⟩ := wgd h
    refine Vw.getSC (pc := 7) K g2 u_8_120 dJ0_isLatin1_aae02_7 ?_
    refine Vw.if_ne (pc := 10) (tgt := 17) K dJ0_isLatin1_aae02_10 (by decide) (fun c3 => ?_) (fun c3 => ?_)
    · have h := wneg c3 h
      refine Vw.iconst (pc := 17) (v := (0 : Int32)) K (by decide) dJ0_isLatin1_aae02_17 ?_
      exact Vw.zretE (pc := 18) K (Or.inl rfl) (Option.some.inj h) rfl E (by decide) (by decide) dJ0_isLatin1_aae02_18
    · have h := wpos c3 h
      refine Vw.iconst (pc := 13) (v := (1 : Int32)) K (by decide) dJ0_isLatin1_aae02_13 ?_
      refine Vw.goto (pc := 14) (tgt := 18) K dJ0_isLatin1_aae02_14 (by decide) ?_
      exact Vw.zretE (pc := 18) K (Or.inr rfl) (Option.some.inj h) rfl E (by decide) (by decide) dJ0_isLatin1_aae02_18
theorem cal_J0_isLatin1_aae02 : wCalV RJ0 yJ0_isLatin1_aae02 (.code yJ0_isLatin1_aae02 cJ0_isLatin1_aae02 1 (some .boolean)) 0 := ⟨by decide +kernel, u_2_116, u_2_117, u_1_15, u_2_118⟩
def f_J3_checkIndex_8e157 (A : Hp) (x0 : Int32) (x1 : Int32) (x2 : Nat) : Option (Int32) := (if x0 < (0 : Int32) then none else (if x0 < x1 then some x0 else none))
set_option maxRecDepth 100000 in
theorem s_J3_checkIndex_8e157 {l : Launch} {g : GT} (hl : l.stackTraces = false) {A : Hp} {x0 : Int32} {x1 : Int32} {x2 : Nat} {r : Int32} (h : f_J3_checkIndex_8e157 A x0 x1 x2 = some r) : MetV l g yJ3_checkIndex_8e157 (.code yJ3_checkIndex_8e157 cJ3_checkIndex_8e157 3 (some .int)) [.inl x0, .inl x1, .inr (.inr x2)] A (.inl (some (.inl r))) A 0 0 0 0 := by
  refine MetV.ofV hl (by decide +kernel) (Nat.le_of_ble_eq_true rfl) (fun κ K E => ?_)
  have K : Cx κ cJ3_checkIndex_8e157 3 RJ3 0 0 0 0 := K
  have E : Ed κ (some .int) "checkIndex" (.inl (some (.inl r))) A 0 0 := E
  unfold f_J3_checkIndex_8e157 at h
  change Vw κ A 0 0 0 [(0, .inl x0), (1, .inl x1), (2, .inr (.inr x2))] []
  refine Vw.iload_n (pc := 0) (x := x0) K dJ3_checkIndex_8e157_0 rfl ?_
  refine Vw.if_lt (pc := 1) (tgt := 9) K dJ3_checkIndex_8e157_1 (by decide) (fun c1 => ?_) (fun c1 => ?_)
  · have h := wpos c1 h
    cases h
  · have h := wneg c1 h
    refine Vw.iload_n (pc := 4) (x := x0) K dJ3_checkIndex_8e157_4 rfl ?_
    refine Vw.iload_n (pc := 5) (x := x1) K dJ3_checkIndex_8e157_5 rfl ?_
    refine Vw.icmp_lt (pc := 6) (tgt := 16) K dJ3_checkIndex_8e157_6 (by decide) (fun c2 => ?_) (fun c2 => ?_)
    · have h := wpos c2 h
      refine Vw.iload_n (pc := 16) (x := x0) K dJ3_checkIndex_8e157_16 rfl ?_
      exact Vw.iretE (pc := 17) K (Option.some.inj h) rfl E (by decide) (by decide) dJ3_checkIndex_8e157_17
    · have h := wneg c2 h
      cases h
theorem cal_J3_checkIndex_8e157 : wCalS yJ3_checkIndex_8e157 (.code yJ3_checkIndex_8e157 cJ3_checkIndex_8e157 3 (some .int)) 3 := ⟨by decide +kernel, u_2_128, u_1_17, u_2_129⟩
def f_J0_checkIndex_df160 (A : Hp) (x0 : Int32) (x1 : Int32) : Option (Unit) := ((f_J3_checkIndex_8e157 A x0 x1 0).bind fun v2 => some ())
set_option maxRecDepth 100000 in
theorem s_J0_checkIndex_df160 {l : Launch} {g : GT} (hl : l.stackTraces = false) {A : Hp} {x0 : Int32} {x1 : Int32}  (h : f_J0_checkIndex_df160 A x0 x1 = some ()) : MetV l g yJ0_checkIndex_df160 (.code yJ0_checkIndex_df160 cJ0_checkIndex_df160 2 none) [.inl x0, .inl x1] A (.inl none) A 1 22 0 0 := by
  refine MetV.ofV hl (by decide +kernel) (Nat.le_of_ble_eq_true rfl) (fun κ K E => ?_)
  have K : Cx κ cJ0_checkIndex_df160 2 RJ0 1 22 0 0 := K
  have E : Ed κ none "checkIndex" (.inl none) A 0 0 := E
  unfold f_J0_checkIndex_df160 at h
  change Vw κ A 0 0 0 [(0, .inl x0), (1, .inl x1)] []
  refine Vw.iload_n (pc := 0) (x := x0) K dJ0_checkIndex_df160_0 rfl ?_
  refine Vw.iload_n (pc := 1) (x := x1) K dJ0_checkIndex_df160_1 rfl ?_
  refine Vw.gstF (pc := 2) K u_2_125 dJ0_checkIndex_df160_2 (fun x91 => ?_)
  obtain ⟨v2, e1, h⟩ := wbd h
  refine Vw.cS1 (pc := 5) (v := .inl v2) (c' := 0) (n' := 0) K (s_J3_checkIndex_8e157 (x2 := x91) K.tr e1) cal_J3_checkIndex_8e157 u_2_127 rfl ⟨by decide, by decide⟩ ⟨by decide, by decide⟩ rfl (Nat.le_of_ble_eq_true rfl) dJ0_checkIndex_df160_5 rfl rfl ?_
  refine Vw.pop (pc := 8) K rfl dJ0_checkIndex_df160_8 ?_
  exact Vw.vretE (pc := 9) K rfl E (by decide) (by decide) dJ0_checkIndex_df160_9
theorem cal_J0_checkIndex_df160 : wCalS yJ0_checkIndex_df160 (.code yJ0_checkIndex_df160 cJ0_checkIndex_df160 2 none) 2 := ⟨by decide +kernel, u_2_123, u_1_15, u_2_124⟩
def f_J1_charAt_3b067 (A : Hp) (x0 : Nat) (x1 : Int32) : Option (Int32) := if wBn x0 then ((f_J0_checkIndex_df160 A x1 (nI (wsc (x0 - 40)).length)).bind fun v3 => if wix x1 (wsc (x0 - 40)).length then some (((((wsc (x0 - 40)).getD x1.toNatClampNeg 0) &&& (255 : Int32)).toUInt32 % 65536).toInt32) else none) else none
set_option maxRecDepth 100000 in
theorem s_J1_charAt_3b067 {l : Launch} {g : GT} (hl : l.stackTraces = false) {A : Hp} {x0 : Nat} {x1 : Int32} {r : Int32} (h : f_J1_charAt_3b067 A x0 x1 = some r) : MetV l g yJ1_charAt_3b067 (.code yJ1_charAt_3b067 cJ1_charAt_3b067 2 (some .char)) [.inr (.inr x0), .inl x1] A (.inl (some (.inl r))) A 2 43 0 0 := by
  refine MetV.ofV hl (by decide +kernel) (Nat.le_of_ble_eq_true rfl) (fun κ K E => ?_)
  have K : Cx κ cJ1_charAt_3b067 2 RJ1 2 43 0 0 := K
  have E : Ed κ (some .char) "charAt" (.inl (some (.inl r))) A 0 0 := E
  unfold f_J1_charAt_3b067 at h
  change Vw κ A 0 0 0 [(0, .inr (.inr x0)), (1, .inl x1)] []
  refine Vw.iload_n (pc := 0) (x := x1) K dJ1_charAt_3b067_0 rfl ?_
  refine Vw.aload_n (pc := 1) (x := x0) K dJ1_charAt_3b067_1 rfl ?_
  obtain ⟨g1, h⟩ := wgd h
  refine Vw.alenB (pc := 2) K g1 dJ1_charAt_3b067_2 ?_
  obtain ⟨v3, e2, h⟩ := wbd h
  refine Vw.cS0 (pc := 3) (c' := 0) (n' := 0) K (s_J0_checkIndex_df160 K.tr e2) cal_J0_checkIndex_df160 u_2_122 rfl ⟨by decide, by decide⟩ ⟨by decide, by decide⟩ rfl (Nat.le_of_ble_eq_true rfl) dJ1_charAt_3b067_3 rfl rfl ?_
  refine Vw.aload_n (pc := 6) (x := x0) K dJ1_charAt_3b067_6 rfl ?_
  refine Vw.iload_n (pc := 7) (x := x1) K dJ1_charAt_3b067_7 rfl ?_
  obtain ⟨g4, h⟩ := wgd h
  refine Vw.baldS (pc := 8) K g1 g4 dJ1_charAt_3b067_8 ?_
  refine Vw.sipush (pc := 9) (v := (255 : Int32)) K (by decide) dJ1_charAt_3b067_9 ?_
  refine Vw.iand (pc := 12) K dJ1_charAt_3b067_12 ?_
  refine Vw.i2c (pc := 13) K dJ1_charAt_3b067_13 ?_
  exact Vw.bret (pc := 14) K (pk_nc _) (Option.some.inj h) rfl E (by decide) (by decide) dJ1_charAt_3b067_14
theorem cal_J1_charAt_3b067 : wCalS yJ1_charAt_3b067 (.code yJ1_charAt_3b067 cJ1_charAt_3b067 2 (some .char)) 2 := ⟨by decide +kernel, u_2_120, u_1_16, u_2_121⟩
def f_J0_charAt_5068e (A : Hp) (x0 : Nat) (x1 : Int32) : Option (Int32) := if wSn x0 then ((f_J0_isLatin1_aae02 A x0).bind fun v3 => (if v3 = (0 : Int32) then none else ((f_J1_charAt_3b067 A (40 + x0) x1).bind fun v6 => if vp_nar .char v6 = v6 then some v6 else none))) else none
set_option maxRecDepth 100000 in
theorem s_J0_charAt_5068e {l : Launch} {g : GT} (hl : l.stackTraces = false) {A : Hp} {x0 : Nat} {x1 : Int32} {r : Int32} (h : f_J0_charAt_5068e A x0 x1 = some r) : MetV l g yJ0_charAt_5068e (.code yJ0_charAt_5068e cJ0_charAt_5068e 2 (some .char)) [.inr (.inr x0), .inl x1] A (.inl (some (.inl r))) A 3 64 0 0 := by
  refine MetV.ofV hl (by decide +kernel) (Nat.le_of_ble_eq_true rfl) (fun κ K E => ?_)
  have K : Cx κ cJ0_charAt_5068e 2 RJ0 3 64 0 0 := K
  have E : Ed κ (some .char) "charAt" (.inl (some (.inl r))) A 0 0 := E
  unfold f_J0_charAt_5068e at h
  change Vw κ A 0 0 0 [(0, .inr (.inr x0)), (1, .inl x1)] []
  refine Vw.aload_n (pc := 0) (x := x0) K dJ0_charAt_5068e_0 rfl ?_
  obtain ⟨g1, h⟩ := wgd h
  obtain ⟨v3, e2, h⟩ := wbd h
  refine Vw.cStr (pc := 1) (v := .inl v3) K (s_J0_isLatin1_aae02 K.tr e2) cal_J0_isLatin1_aae02 u_2_115 g1 rfl ⟨by decide, by decide⟩ ⟨by decide, by decide⟩ rfl (Nat.le_of_ble_eq_true rfl) dJ0_charAt_5068e_1 ?_
  refine Vw.if_eq (pc := 4) (tgt := 16) K dJ0_charAt_5068e_4 (by decide) (fun c4 => ?_) (fun c4 => ?_)
  · have h := wpos c4 h
    cases h
  · have h := wneg c4 h
    refine Vw.aload_n (pc := 7) (x := x0) K dJ0_charAt_5068e_7 rfl ?_
    refine Vw.getSV (pc := 8) K g1 u_8_119 dJ0_charAt_5068e_8 ?_
    refine Vw.iload_n (pc := 11) (x := x1) K dJ0_charAt_5068e_11 rfl ?_
    obtain ⟨v6, e5, h⟩ := wbd h
    refine Vw.cS1 (pc := 12) (v := .inl v6) (c' := 0) (n' := 0) K (s_J1_charAt_3b067 K.tr e5) cal_J1_charAt_3b067 u_2_119 rfl ⟨by decide, by decide⟩ ⟨by decide, by decide⟩ rfl (Nat.le_of_ble_eq_true rfl) dJ0_charAt_5068e_12 rfl rfl ?_
    obtain ⟨g7, h⟩ := wgd h
    exact Vw.bret (pc := 15) K (wCn g7) (Option.some.inj h) rfl E (by decide) (by decide) dJ0_charAt_5068e_15
theorem cal_J0_charAt_5068e : wCalV RJ0 yJ0_charAt_5068e (.code yJ0_charAt_5068e cJ0_charAt_5068e 2 (some .char)) 1 := ⟨by decide +kernel, u_2_112, u_2_113, u_1_15, u_2_114⟩
def f_J6_compare_7cf53 (A : Hp) (x0 : Int32) (x1 : Int32) : Option (Int32) := (if x1 ≤ x0 then (if x0 = x1 then some (0 : Int32) else some (1 : Int32)) else some (-1 : Int32))
set_option maxRecDepth 100000 in
theorem s_J6_compare_7cf53 {l : Launch} {g : GT} (hl : l.stackTraces = false) {A : Hp} {x0 : Int32} {x1 : Int32} {r : Int32} (h : f_J6_compare_7cf53 A x0 x1 = some r) : MetV l g yJ6_compare_7cf53 (.code yJ6_compare_7cf53 cJ6_compare_7cf53 2 (some .int)) [.inl x0, .inl x1] A (.inl (some (.inl r))) A 0 0 0 0 := by
  refine MetV.ofV hl (by decide +kernel) (Nat.le_of_ble_eq_true rfl) (fun κ K E => ?_)
  have K : Cx κ cJ6_compare_7cf53 2 RJ6 0 0 0 0 := K
  have E : Ed κ (some .int) "compare" (.inl (some (.inl r))) A 0 0 := E
  unfold f_J6_compare_7cf53 at h
  change Vw κ A 0 0 0 [(0, .inl x0), (1, .inl x1)] []
  refine Vw.iload_n (pc := 0) (x := x0) K dJ6_compare_7cf53_0 rfl ?_
  refine Vw.iload_n (pc := 1) (x := x1) K dJ6_compare_7cf53_1 rfl ?_
  refine Vw.icmp_ge (pc := 2) (tgt := 9) K dJ6_compare_7cf53_2 (by decide) (fun c1 => ?_) (fun c1 => ?_)
  · have h := wpos c1 h
    refine Vw.iload_n (pc := 9) (x := x0) K dJ6_compare_7cf53_9 rfl ?_
    refine Vw.iload_n (pc := 10) (x := x1) K dJ6_compare_7cf53_10 rfl ?_
    refine Vw.icmp_ne (pc := 11) (tgt := 18) K dJ6_compare_7cf53_11 (by decide) (fun c2 => ?_) (fun c2 => ?_)
    · have h := wneg c2 h
      refine Vw.iconst (pc := 18) (v := (1 : Int32)) K (by decide) dJ6_compare_7cf53_18 ?_
      exact Vw.iretE (pc := 19) K (Option.some.inj h) rfl E (by decide) (by decide) dJ6_compare_7cf53_19
    · have h := wpos c2 h
      refine Vw.iconst (pc := 14) (v := (0 : Int32)) K (by decide) dJ6_compare_7cf53_14 ?_
      refine Vw.goto (pc := 15) (tgt := 19) K dJ6_compare_7cf53_15 (by decide) ?_
      exact Vw.iretE (pc := 19) K (Option.some.inj h) rfl E (by decide) (by decide) dJ6_compare_7cf53_19
  · have h := wneg c1 h
    refine Vw.iconst (pc := 5) (v := (-1 : Int32)) K (by decide) dJ6_compare_7cf53_5 ?_
    refine Vw.goto (pc := 6) (tgt := 19) K dJ6_compare_7cf53_6 (by decide) ?_
    exact Vw.iretE (pc := 19) K (Option.some.inj h) rfl E (by decide) (by decide) dJ6_compare_7cf53_19
theorem cal_J6_compare_7cf53 : wCalS yJ6_compare_7cf53 (.code yJ6_compare_7cf53 cJ6_compare_7cf53 2 (some .int)) 2 := ⟨by decide +kernel, u_3_164, u_1_20, u_3_165⟩
def f_J13_compare_74951 (A : Hp) (x0 : Int64) (x2 : Int64) : Option (Int32) := (if x2 ≤ x0 then (if x0 = x2 then some (0 : Int32) else some (1 : Int32)) else some (-1 : Int32))
set_option maxRecDepth 100000 in
theorem s_J13_compare_74951 {l : Launch} {g : GT} (hl : l.stackTraces = false) {A : Hp} {x0 : Int64} {x2 : Int64} {r : Int32} (h : f_J13_compare_74951 A x0 x2 = some r) : MetV l g yJ13_compare_74951 (.code yJ13_compare_74951 cJ13_compare_74951 4 (some .int)) [.inr (.inl x0), .inr (.inl x2)] A (.inl (some (.inl r))) A 0 0 0 0 := by
  refine MetV.ofV hl (by decide +kernel) (Nat.le_of_ble_eq_true rfl) (fun κ K E => ?_)
  have K : Cx κ cJ13_compare_74951 4 RJ13 0 0 0 0 := K
  have E : Ed κ (some .int) "compare" (.inl (some (.inl r))) A 0 0 := E
  unfold f_J13_compare_74951 at h
  change Vw κ A 0 0 0 [(0, .inr (.inl x0)), (2, .inr (.inl x2))] []
  refine Vw.lload_n (pc := 0) (x := x0) K dJ13_compare_74951_0 rfl ?_
  refine Vw.lload_n (pc := 1) (x := x2) K dJ13_compare_74951_1 rfl ?_
  refine Vw.lcmp_ge (pc := 2) (tgt := 10) K dJ13_compare_74951_2 dJ13_compare_74951_3 (by decide) (fun c1 => ?_) (fun c1 => ?_)
  · have h := wpos c1 h
    refine Vw.lload_n (pc := 10) (x := x0) K dJ13_compare_74951_10 rfl ?_
    refine Vw.lload_n (pc := 11) (x := x2) K dJ13_compare_74951_11 rfl ?_
    refine Vw.lcmp_ne (pc := 12) (tgt := 20) K dJ13_compare_74951_12 dJ13_compare_74951_13 (by decide) (fun c2 => ?_) (fun c2 => ?_)
    · have h := wneg c2 h
      refine Vw.iconst (pc := 20) (v := (1 : Int32)) K (by decide) dJ13_compare_74951_20 ?_
      exact Vw.iretE (pc := 21) K (Option.some.inj h) rfl E (by decide) (by decide) dJ13_compare_74951_21
    · have h := wpos c2 h
      refine Vw.iconst (pc := 16) (v := (0 : Int32)) K (by decide) dJ13_compare_74951_16 ?_
      refine Vw.goto (pc := 17) (tgt := 21) K dJ13_compare_74951_17 (by decide) ?_
      exact Vw.iretE (pc := 21) K (Option.some.inj h) rfl E (by decide) (by decide) dJ13_compare_74951_21
  · have h := wneg c1 h
    refine Vw.iconst (pc := 6) (v := (-1 : Int32)) K (by decide) dJ13_compare_74951_6 ?_
    refine Vw.goto (pc := 7) (tgt := 21) K dJ13_compare_74951_7 (by decide) ?_
    exact Vw.iretE (pc := 21) K (Option.some.inj h) rfl E (by decide) (by decide) dJ13_compare_74951_21
theorem cal_J13_compare_74951 : wCalS yJ13_compare_74951 (.code yJ13_compare_74951 cJ13_compare_74951 4 (some .int)) 2 := ⟨by decide +kernel, u_3_4, u_1_23, u_3_5⟩
