def f_X9_isPublic (A : Hp) (x0 : Nat) (x1 : Int32) (x2 : Int32) : Option (Int32) := if (hsh A x0).1 = 8 then ((f_X9_isDomain A x0 x1 x2).bind fun v3 => (if v3 = (0 : Int32) then some (0 : Int32) else ((f_X9_suffixLong A x0 x1 x2).bind fun v6 => (if v6 = x2 then some (1 : Int32) else some (0 : Int32))))) else none
set_option maxRecDepth 100000 in
theorem s_X9_isPublic {l : Launch} {g : GT} (hl : l.stackTraces = false) {A : Hp} {x0 : Nat} {x1 : Int32} {x2 : Int32} {r : Int32} (h : f_X9_isPublic A x0 x1 x2 = some r) : MetV l g yX9_isPublic (.code yX9_isPublic cX9_isPublic 3 (some .boolean)) [.inr (.inr x0), .inl x1, .inl x2] A (.inl (some (.inl r))) A 3 76 0 0 := by
  refine MetV.ofV hl (by decide +kernel) (Nat.le_of_ble_eq_true rfl) (fun κ K E => ?_)
  have K : Cx κ cX9_isPublic 3 RX9 3 76 0 0 := K
  have E : Ed κ (some .boolean) "isPublic" (.inl (some (.inl r))) A 0 0 := E
  unfold f_X9_isPublic at h
  change Vw κ A 0 0 0 [(0, .inr (.inr x0)), (1, .inl x1), (2, .inl x2)] []
  refine Vw.aload_n (pc := 0) (x := x0) K dX9_isPublic_0 rfl ?_
  refine Vw.iload_n (pc := 1) (x := x1) K dX9_isPublic_1 rfl ?_
  refine Vw.iload_n (pc := 2) (x := x2) K dX9_isPublic_2 rfl ?_
  obtain ⟨g1, h⟩ := wgd h
  obtain ⟨v3, e2, h⟩ := wbd h
  refine Vw.cV1 (pc := 3) (v := .inl v3) (c' := 0) (n' := 0) K (s_X9_isDomain K.tr e2) cal_X9_isDomain cls7 u_6_236 g1 rfl ⟨by decide, by decide⟩ ⟨by decide, by decide⟩ rfl (Nat.le_of_ble_eq_true rfl) dX9_isPublic_3 rfl rfl ?_
  refine Vw.if_eq (pc := 6) (tgt := 23) K dX9_isPublic_6 (by decide) (fun c4 => ?_) (fun c4 => ?_)
  · have h := wpos c4 h
    refine Vw.iconst (pc := 23) (v := (0 : Int32)) K (by decide) dX9_isPublic_23 ?_
    exact Vw.zretE (pc := 24) K (Or.inl rfl) (Option.some.inj h) rfl E (by decide) (by decide) dX9_isPublic_24
  · have h := wneg c4 h
    refine Vw.aload_n (pc := 9) (x := x0) K dX9_isPublic_9 rfl ?_
    refine Vw.iload_n (pc := 10) (x := x1) K dX9_isPublic_10 rfl ?_
    refine Vw.iload_n (pc := 11) (x := x2) K dX9_isPublic_11 rfl ?_
    obtain ⟨v6, e5, h⟩ := wbd h
    refine Vw.cV1 (pc := 12) (v := .inl v6) (c' := 0) (n' := 0) K (s_X9_suffixLong K.tr e5) cal_X9_suffixLong cls7 u_6_194 g1 rfl ⟨by decide, by decide⟩ ⟨by decide, by decide⟩ rfl (Nat.le_of_ble_eq_true rfl) dX9_isPublic_12 rfl rfl ?_
    refine Vw.iload_n (pc := 15) (x := x2) K dX9_isPublic_15 rfl ?_
    refine Vw.icmp_ne (pc := 16) (tgt := 23) K dX9_isPublic_16 (by decide) (fun c7 => ?_) (fun c7 => ?_)
    · have h := wneg c7 h
      refine Vw.iconst (pc := 23) (v := (0 : Int32)) K (by decide) dX9_isPublic_23 ?_
      exact Vw.zretE (pc := 24) K (Or.inl rfl) (Option.some.inj h) rfl E (by decide) (by decide) dX9_isPublic_24
    · have h := wpos c7 h
      refine Vw.iconst (pc := 19) (v := (1 : Int32)) K (by decide) dX9_isPublic_19 ?_
      refine Vw.goto (pc := 20) (tgt := 24) K dX9_isPublic_20 (by decide) ?_
      exact Vw.zretE (pc := 24) K (Or.inr rfl) (Option.some.inj h) rfl E (by decide) (by decide) dX9_isPublic_24
theorem cal_X9_isPublic : wCalV RX9 yX9_isPublic (.code yX9_isPublic cX9_isPublic 3 (some .boolean)) 2 := ⟨by decide +kernel, u_7_92, us_4_15, u_1_9, u_7_93⟩
def f_X9_siteFrom (A : Hp) (x0 : Nat) (x1 : Int32) (x2 : Int32) : Option (Int32) := if (hsh A x0).1 = 8 then ((f_X9_suffixLong A x0 x1 x2).bind fun v3 => (if v3 = x2 then some (0 : Int32) else ((f_X9_labelFrom A x0 x1 ((x2 - v3) - (1 : Int32))).bind fun v6 => some v6))) else none
set_option maxRecDepth 100000 in
theorem s_X9_siteFrom {l : Launch} {g : GT} (hl : l.stackTraces = false) {A : Hp} {x0 : Nat} {x1 : Int32} {x2 : Int32} {r : Int32} (h : f_X9_siteFrom A x0 x1 x2 = some r) : MetV l g yX9_siteFrom (.code yX9_siteFrom cX9_siteFrom 4 (some .int)) [.inr (.inr x0), .inl x1, .inl x2] A (.inl (some (.inl r))) A 3 76 0 0 := by
  refine MetV.ofV hl (by decide +kernel) (Nat.le_of_ble_eq_true rfl) (fun κ K E => ?_)
  have K : Cx κ cX9_siteFrom 4 RX9 3 76 0 0 := K
  have E : Ed κ (some .int) "siteFrom" (.inl (some (.inl r))) A 0 0 := E
  unfold f_X9_siteFrom at h
  change Vw κ A 0 0 0 [(0, .inr (.inr x0)), (1, .inl x1), (2, .inl x2)] []
  refine Vw.aload_n (pc := 0) (x := x0) K dX9_siteFrom_0 rfl ?_
  refine Vw.iload_n (pc := 1) (x := x1) K dX9_siteFrom_1 rfl ?_
  refine Vw.iload_n (pc := 2) (x := x2) K dX9_siteFrom_2 rfl ?_
  obtain ⟨g1, h⟩ := wgd h
  obtain ⟨v3, e2, h⟩ := wbd h
  refine Vw.cV1 (pc := 3) (v := .inl v3) (c' := 0) (n' := 0) K (s_X9_suffixLong K.tr e2) cal_X9_suffixLong cls7 u_6_194 g1 rfl ⟨by decide, by decide⟩ ⟨by decide, by decide⟩ rfl (Nat.le_of_ble_eq_true rfl) dX9_siteFrom_3 rfl rfl ?_
  refine Vw.istore_n (pc := 6) K dX9_siteFrom_6 (by decide) ?_
  refine Vw.iload_n (pc := 7) (x := v3) K dX9_siteFrom_7 rfl ?_
  refine Vw.iload_n (pc := 8) (x := x2) K dX9_siteFrom_8 rfl ?_
  refine Vw.icmp_ne (pc := 9) (tgt := 16) K dX9_siteFrom_9 (by decide) (fun c4 => ?_) (fun c4 => ?_)
  · have h := wneg c4 h
    refine Vw.aload_n (pc := 16) (x := x0) K dX9_siteFrom_16 rfl ?_
    refine Vw.iload_n (pc := 17) (x := x1) K dX9_siteFrom_17 rfl ?_
    refine Vw.iload_n (pc := 18) (x := x2) K dX9_siteFrom_18 rfl ?_
    refine Vw.iload_n (pc := 19) (x := v3) K dX9_siteFrom_19 rfl ?_
    refine Vw.isub (pc := 20) K dX9_siteFrom_20 ?_
    refine Vw.iconst (pc := 21) (v := (1 : Int32)) K (by decide) dX9_siteFrom_21 ?_
    refine Vw.isub (pc := 22) K dX9_siteFrom_22 ?_
    obtain ⟨v6, e5, h⟩ := wbd h
    refine Vw.cV1 (pc := 23) (v := .inl v6) (c' := 0) (n' := 0) K (s_X9_labelFrom K.tr e5) cal_X9_labelFrom cls7 u_6_206 g1 rfl ⟨by decide, by decide⟩ ⟨by decide, by decide⟩ rfl (Nat.le_of_ble_eq_true rfl) dX9_siteFrom_23 rfl rfl ?_
    exact Vw.iretE (pc := 26) K (Option.some.inj h) rfl E (by decide) (by decide) dX9_siteFrom_26
  · have h := wpos c4 h
    refine Vw.iconst (pc := 12) (v := (0 : Int32)) K (by decide) dX9_siteFrom_12 ?_
    refine Vw.goto (pc := 13) (tgt := 26) K dX9_siteFrom_13 (by decide) ?_
    exact Vw.iretE (pc := 26) K (Option.some.inj h) rfl E (by decide) (by decide) dX9_siteFrom_26
theorem cal_X9_siteFrom : wCalV RX9 yX9_siteFrom (.code yX9_siteFrom cX9_siteFrom 4 (some .int)) 2 := ⟨by decide +kernel, u_6_192, us_3_9, u_1_9, u_6_193⟩
def f_X9_areOneSite (A : Hp) (x0 : Nat) (x1 : Int32) (x2 : Int32) (x3 : Int32) (x4 : Int32) : Option (Int32) := if (hsh A x0).1 = 8 then ((f_X9_siteFrom A x0 x1 x2).bind fun v3 => ((f_X9_siteFrom A x0 x3 x4).bind fun v5 => ((f_X9_areLike A x0 (x1 + v3) (x2 - v3) (x3 + v5) (x4 - v5)).bind fun v7 => if wZ v7 then some v7 else none))) else none
set_option maxRecDepth 100000 in
theorem s_X9_areOneSite {l : Launch} {g : GT} (hl : l.stackTraces = false) {A : Hp} {x0 : Nat} {x1 : Int32} {x2 : Int32} {x3 : Int32} {x4 : Int32} {r : Int32} (h : f_X9_areOneSite A x0 x1 x2 x3 x4 = some r) : MetV l g yX9_areOneSite (.code yX9_areOneSite cX9_areOneSite 7 (some .boolean)) [.inr (.inr x0), .inl x1, .inl x2, .inl x3, .inl x4] A (.inl (some (.inl r))) A 4 99 0 0 := by
  refine MetV.ofV hl (by decide +kernel) (Nat.le_of_ble_eq_true rfl) (fun κ K E => ?_)
  have K : Cx κ cX9_areOneSite 7 RX9 4 99 0 0 := K
  have E : Ed κ (some .boolean) "areOneSite" (.inl (some (.inl r))) A 0 0 := E
  unfold f_X9_areOneSite at h
  change Vw κ A 0 0 0 [(0, .inr (.inr x0)), (1, .inl x1), (2, .inl x2), (3, .inl x3), (4, .inl x4)] []
  refine Vw.aload_n (pc := 0) (x := x0) K dX9_areOneSite_0 rfl ?_
  refine Vw.iload_n (pc := 1) (x := x1) K dX9_areOneSite_1 rfl ?_
  refine Vw.iload_n (pc := 2) (x := x2) K dX9_areOneSite_2 rfl ?_
  obtain ⟨g1, h⟩ := wgd h
  obtain ⟨v3, e2, h⟩ := wbd h
  refine Vw.cV1 (pc := 3) (v := .inl v3) (c' := 0) (n' := 0) K (s_X9_siteFrom K.tr e2) cal_X9_siteFrom cls7 u_6_190 g1 rfl ⟨by decide, by decide⟩ ⟨by decide, by decide⟩ rfl (Nat.le_of_ble_eq_true rfl) dX9_areOneSite_3 rfl rfl ?_
  refine Vw.istore (pc := 6) K dX9_areOneSite_6 (by decide) ?_
  refine Vw.aload_n (pc := 8) (x := x0) K dX9_areOneSite_8 rfl ?_
  refine Vw.iload_n (pc := 9) (x := x3) K dX9_areOneSite_9 rfl ?_
  refine Vw.iload (pc := 10) (x := x4) K dX9_areOneSite_10 rfl ?_
  obtain ⟨v5, e4, h⟩ := wbd h
  refine Vw.cV1 (pc := 12) (v := .inl v5) (c' := 0) (n' := 0) K (s_X9_siteFrom K.tr e4) cal_X9_siteFrom cls7 u_6_190 g1 rfl ⟨by decide, by decide⟩ ⟨by decide, by decide⟩ rfl (Nat.le_of_ble_eq_true rfl) dX9_areOneSite_12 rfl rfl ?_
  refine Vw.istore (pc := 15) K dX9_areOneSite_15 (by decide) ?_
  refine Vw.aload_n (pc := 17) (x := x0) K dX9_areOneSite_17 rfl ?_
  refine Vw.iload_n (pc := 18) (x := x1) K dX9_areOneSite_18 rfl ?_
  refine Vw.iload (pc := 19) (x := v3) K dX9_areOneSite_19 rfl ?_
  refine Vw.iadd (pc := 21) K dX9_areOneSite_21 ?_
  refine Vw.iload_n (pc := 22) (x := x2) K dX9_areOneSite_22 rfl ?_
  refine Vw.iload (pc := 23) (x := v3) K dX9_areOneSite_23 rfl ?_
  refine Vw.isub (pc := 25) K dX9_areOneSite_25 ?_
  refine Vw.iload_n (pc := 26) (x := x3) K dX9_areOneSite_26 rfl ?_
  refine Vw.iload (pc := 27) (x := v5) K dX9_areOneSite_27 rfl ?_
  refine Vw.iadd (pc := 29) K dX9_areOneSite_29 ?_
  refine Vw.iload (pc := 30) (x := x4) K dX9_areOneSite_30 rfl ?_
  refine Vw.iload (pc := 32) (x := v5) K dX9_areOneSite_32 rfl ?_
  refine Vw.isub (pc := 34) K dX9_areOneSite_34 ?_
  obtain ⟨v7, e6, h⟩ := wbd h
  refine Vw.cV1 (pc := 35) (v := .inl v7) (c' := 0) (n' := 0) K (s_X9_areLike K.tr e6) cal_X9_areLike cls7 u_6_202 g1 rfl ⟨by decide, by decide⟩ ⟨by decide, by decide⟩ rfl (Nat.le_of_ble_eq_true rfl) dX9_areOneSite_35 rfl rfl ?_
  obtain ⟨g8, h⟩ := wgd h
  exact Vw.zretE (pc := 38) K g8 (Option.some.inj h) rfl E (by decide) (by decide) dX9_areOneSite_38
theorem cal_X9_areOneSite : wCalV RX9 yX9_areOneSite (.code yX9_areOneSite cX9_areOneSite 7 (some .boolean)) 4 := ⟨by decide +kernel, u_6_188, us_3_8, u_1_9, u_6_189⟩
def k_X9_orderedDomains_41  (A : Hp) (x5 : Int32)  : Option (Int32) := (if (0 : Int32) ≤ x5 then some (1 : Int32) else some (-1 : Int32))
set_option maxRecDepth 100000 in
theorem s_X9_orderedDomains_41 {κ : KT} {r : Int32} {A : Hp} {x5 : Int32}   (K : Cx κ cX9_orderedDomains 11 RX9 1 25 0 0) (E : Ed κ (some .int) "orderedDomains" (.inl (some (.inl r))) A 0 0)  (h : k_X9_orderedDomains_41  A x5  = some r) : Vw κ A 0 0 41 [(5, .inl x5)] [] := by
  unfold k_X9_orderedDomains_41 at h
  refine Vw.iload (pc := 41) (x := x5) K dX9_orderedDomains_41 rfl ?_
  refine Vw.if_ge (pc := 43) (tgt := 50) K dX9_orderedDomains_43 (by decide) (fun c1 => ?_) (fun c1 => ?_)
  · have h := wpos c1 h
    refine Vw.iconst (pc := 50) (v := (1 : Int32)) K (by decide) dX9_orderedDomains_50 ?_
    exact Vw.iretE (pc := 51) K (Option.some.inj h) rfl E (by decide) (by decide) dX9_orderedDomains_51
  · have h := wneg c1 h
    refine Vw.iconst (pc := 46) (v := (-1 : Int32)) K (by decide) dX9_orderedDomains_46 ?_
    refine Vw.goto (pc := 47) (tgt := 51) K dX9_orderedDomains_47 (by decide) ?_
    exact Vw.iretE (pc := 51) K (Option.some.inj h) rfl E (by decide) (by decide) dX9_orderedDomains_51
def k_X9_orderedDomains_27  (A : Hp) (x5 : Int32) (x6 : Int32)  : Option (Int32) := (if (0 : Int32) ≤ x5 then k_X9_orderedDomains_41 A x5 else (if (0 : Int32) ≤ x6 then k_X9_orderedDomains_41 A x5 else some (0 : Int32)))
set_option maxRecDepth 100000 in
theorem s_X9_orderedDomains_27 {κ : KT} {r : Int32} {A : Hp} {x5 : Int32} {x6 : Int32}   (K : Cx κ cX9_orderedDomains 11 RX9 1 25 0 0) (E : Ed κ (some .int) "orderedDomains" (.inl (some (.inl r))) A 0 0)  (h : k_X9_orderedDomains_27  A x5 x6  = some r) : Vw κ A 0 0 27 [(5, .inl x5), (6, .inl x6)] [] := by
  unfold k_X9_orderedDomains_27 at h
  refine Vw.iload (pc := 27) (x := x5) K dX9_orderedDomains_27 rfl ?_
  refine Vw.if_ge (pc := 29) (tgt := 41) K dX9_orderedDomains_29 (by decide) (fun c2 => ?_) (fun c2 => ?_)
  · have h := wpos c2 h
    exact Vw.loc rfl (s_X9_orderedDomains_41 K E  h)
  · have h := wneg c2 h
    refine Vw.iload (pc := 32) (x := x6) K dX9_orderedDomains_32 rfl ?_
    refine Vw.if_ge (pc := 34) (tgt := 41) K dX9_orderedDomains_34 (by decide) (fun c3 => ?_) (fun c3 => ?_)
    · have h := wpos c3 h
      exact Vw.loc rfl (s_X9_orderedDomains_41 K E  h)
    · have h := wneg c3 h
      refine Vw.iconst (pc := 37) (v := (0 : Int32)) K (by decide) dX9_orderedDomains_37 ?_
      refine Vw.goto (pc := 38) (tgt := 51) K dX9_orderedDomains_38 (by decide) ?_
      exact Vw.iretE (pc := 51) K (Option.some.inj h) rfl E (by decide) (by decide) dX9_orderedDomains_51
def k_X9_orderedDomains_10s (A : Hp) (x0 : Nat) (x1 : Int32) (x3 : Int32)  (rec10 : Int32 → Int32 → Int32 → Option (Int32))  (x5 : Int32) (x6 : Int32) (x7 : Int32) : Option (Int32) := (if (31 : Int32) ≤ x7 then some (0 : Int32) else (if x5 < (0 : Int32) then k_X9_orderedDomains_27 A x5 x6 else (if (0 : Int32) ≤ x6 then if (hsh A x0).1 = 8 then ((f_X9_labelFrom A x0 x1 x5).bind fun v9 => ((f_X9_labelFrom A x0 x3 x6).bind fun v11 => ((f_X9_ordered A x0 (x1 + v9) (x5 - v9) (x3 + v11) (x6 - v11)).bind fun v13 => (if v13 = (0 : Int32) then rec10 (v9 - (1 : Int32)) (v11 - (1 : Int32)) (x7 + (1 : Int32)) else some v13)))) else none else k_X9_orderedDomains_27 A x5 x6)))
def k_X9_orderedDomains_10 (A : Hp) (x0 : Nat) (x1 : Int32) (x3 : Int32)  : Nat → Int32 → Int32 → Int32 → Option (Int32)
  | 0 => fun _ _ _ => none
  | fu + 1 => k_X9_orderedDomains_10s A x0 x1 x3  (k_X9_orderedDomains_10 A x0 x1 x3  fu)
set_option maxRecDepth 100000 in
theorem s_X9_orderedDomains_10 {κ : KT} {r : Int32} {A : Hp} {x0 : Nat} {x1 : Int32} {x3 : Int32}  (K : Cx κ cX9_orderedDomains 11 RX9 1 25 0 0) (E : Ed κ (some .int) "orderedDomains" (.inl (some (.inl r))) A 0 0)  : ∀ (fu : Nat)  (x5 : Int32) (x6 : Int32) (x7 : Int32),  k_X9_orderedDomains_10 A x0 x1 x3  fu x5 x6 x7 = some r → Vw κ A 0 0 10 [(0, .inr (.inr x0)), (1, .inl x1), (3, .inl x3), (5, .inl x5), (6, .inl x6), (7, .inl x7)] [] := by
  intro fu
  induction fu with
  | zero => intro x5 x6 x7 h; cases h
  | succ fu hr10 =>
    intro x5 x6 x7 h
    have h : k_X9_orderedDomains_10s A x0 x1 x3  (k_X9_orderedDomains_10 A x0 x1 x3  fu) x5 x6 x7 = some r := h
    unfold k_X9_orderedDomains_10s at h
    refine Vw.iload (pc := 10) (x := x7) K dX9_orderedDomains_10 rfl ?_
    refine Vw.bipush (pc := 12) (v := (31 : Int32)) K (by decide) dX9_orderedDomains_12 ?_
    refine Vw.icmp_ge (pc := 14) (tgt := 120) K dX9_orderedDomains_14 (by decide) (fun c4 => ?_) (fun c4 => ?_)
    · have h := wpos c4 h
      refine Vw.iconst (pc := 120) (v := (0 : Int32)) K (by decide) dX9_orderedDomains_120 ?_
      exact Vw.iretE (pc := 121) K (Option.some.inj h) rfl E (by decide) (by decide) dX9_orderedDomains_121
    · have h := wneg c4 h
      refine Vw.iload (pc := 17) (x := x5) K dX9_orderedDomains_17 rfl ?_
      refine Vw.if_lt (pc := 19) (tgt := 27) K dX9_orderedDomains_19 (by decide) (fun c5 => ?_) (fun c5 => ?_)
      · have h := wpos c5 h
        exact Vw.loc rfl (s_X9_orderedDomains_27 K E  h)
      · have h := wneg c5 h
        refine Vw.iload (pc := 22) (x := x6) K dX9_orderedDomains_22 rfl ?_
        refine Vw.if_ge (pc := 24) (tgt := 52) K dX9_orderedDomains_24 (by decide) (fun c6 => ?_) (fun c6 => ?_)
        · have h := wpos c6 h
          refine Vw.aload_n (pc := 52) (x := x0) K dX9_orderedDomains_52 rfl ?_
          refine Vw.iload_n (pc := 53) (x := x1) K dX9_orderedDomains_53 rfl ?_
          refine Vw.iload (pc := 54) (x := x5) K dX9_orderedDomains_54 rfl ?_
          obtain ⟨g7, h⟩ := wgd h
          obtain ⟨v9, e8, h⟩ := wbd h
          refine Vw.cV1 (pc := 56) (v := .inl v9) (c' := 0) (n' := 0) K (s_X9_labelFrom K.tr e8) cal_X9_labelFrom cls7 u_6_206 g7 rfl ⟨by decide, by decide⟩ ⟨by decide, by decide⟩ rfl (Nat.le_of_ble_eq_true rfl) dX9_orderedDomains_56 rfl rfl ?_
          refine Vw.istore (pc := 59) K dX9_orderedDomains_59 (by decide) ?_
          refine Vw.aload_n (pc := 61) (x := x0) K dX9_orderedDomains_61 rfl ?_
          refine Vw.iload_n (pc := 62) (x := x3) K dX9_orderedDomains_62 rfl ?_
          refine Vw.iload (pc := 63) (x := x6) K dX9_orderedDomains_63 rfl ?_
          obtain ⟨v11, e10, h⟩ := wbd h
          refine Vw.cV1 (pc := 65) (v := .inl v11) (c' := 0) (n' := 0) K (s_X9_labelFrom K.tr e10) cal_X9_labelFrom cls7 u_6_206 g7 rfl ⟨by decide, by decide⟩ ⟨by decide, by decide⟩ rfl (Nat.le_of_ble_eq_true rfl) dX9_orderedDomains_65 rfl rfl ?_
          refine Vw.istore (pc := 68) K dX9_orderedDomains_68 (by decide) ?_
          refine Vw.aload_n (pc := 70) (x := x0) K dX9_orderedDomains_70 rfl ?_
          refine Vw.iload_n (pc := 71) (x := x1) K dX9_orderedDomains_71 rfl ?_
          refine Vw.iload (pc := 72) (x := v9) K dX9_orderedDomains_72 rfl ?_
          refine Vw.iadd (pc := 74) K dX9_orderedDomains_74 ?_
          refine Vw.iload (pc := 75) (x := x5) K dX9_orderedDomains_75 rfl ?_
          refine Vw.iload (pc := 77) (x := v9) K dX9_orderedDomains_77 rfl ?_
          refine Vw.isub (pc := 79) K dX9_orderedDomains_79 ?_
          refine Vw.iload_n (pc := 80) (x := x3) K dX9_orderedDomains_80 rfl ?_
          refine Vw.iload (pc := 81) (x := v11) K dX9_orderedDomains_81 rfl ?_
          refine Vw.iadd (pc := 83) K dX9_orderedDomains_83 ?_
          refine Vw.iload (pc := 84) (x := x6) K dX9_orderedDomains_84 rfl ?_
          refine Vw.iload (pc := 86) (x := v11) K dX9_orderedDomains_86 rfl ?_
          refine Vw.isub (pc := 88) K dX9_orderedDomains_88 ?_
          obtain ⟨v13, e12, h⟩ := wbd h
          refine Vw.cV1 (pc := 89) (v := .inl v13) (c' := 0) (n' := 0) K (s_X9_ordered K.tr e12) cal_X9_ordered cls7 u_7_219 g7 rfl ⟨by decide, by decide⟩ ⟨by decide, by decide⟩ rfl (Nat.le_of_ble_eq_true rfl) dX9_orderedDomains_89 rfl rfl ?_
          refine Vw.istore (pc := 92) K dX9_orderedDomains_92 (by decide) ?_
          refine Vw.iload (pc := 94) (x := v13) K dX9_orderedDomains_94 rfl ?_
          refine Vw.if_eq (pc := 96) (tgt := 102) K dX9_orderedDomains_96 (by decide) (fun c14 => ?_) (fun c14 => ?_)
          · have h := wpos c14 h
            refine Vw.iload (pc := 102) (x := v9) K dX9_orderedDomains_102 rfl ?_
            refine Vw.iconst (pc := 104) (v := (1 : Int32)) K (by decide) dX9_orderedDomains_104 ?_
            refine Vw.isub (pc := 105) K dX9_orderedDomains_105 ?_
            refine Vw.istore (pc := 106) K dX9_orderedDomains_106 (by decide) ?_
            refine Vw.iload (pc := 108) (x := v11) K dX9_orderedDomains_108 rfl ?_
            refine Vw.iconst (pc := 110) (v := (1 : Int32)) K (by decide) dX9_orderedDomains_110 ?_
            refine Vw.isub (pc := 111) K dX9_orderedDomains_111 ?_
            refine Vw.istore (pc := 112) K dX9_orderedDomains_112 (by decide) ?_
            refine Vw.iinc (pc := 114) (x := x7) (v := (1 : Int32)) K dX9_orderedDomains_114 rfl (by decide) (by decide) ?_
            refine Vw.goto (pc := 117) (tgt := 10) K dX9_orderedDomains_117 (by decide) ?_
            exact Vw.loc rfl (hr10 _ _ _ h)
          · have h := wneg c14 h
            refine Vw.iload (pc := 99) (x := v13) K dX9_orderedDomains_99 rfl ?_
            exact Vw.iretE (pc := 101) K (Option.some.inj h) rfl E (by decide) (by decide) dX9_orderedDomains_101
        · have h := wneg c6 h
          exact Vw.loc rfl (s_X9_orderedDomains_27 K E  h)
def f_X9_orderedDomains (A : Hp) (x0 : Nat) (x1 : Int32) (x2 : Int32) (x3 : Int32) (x4 : Int32) : Option (Int32) := k_X9_orderedDomains_10 A x0 x1 x3 FU x2 x4 (0 : Int32)
set_option maxRecDepth 100000 in
theorem s_X9_orderedDomains {l : Launch} {g : GT} (hl : l.stackTraces = false) {A : Hp} {x0 : Nat} {x1 : Int32} {x2 : Int32} {x3 : Int32} {x4 : Int32} {r : Int32} (h : f_X9_orderedDomains A x0 x1 x2 x3 x4 = some r) : MetV l g yX9_orderedDomains (.code yX9_orderedDomains cX9_orderedDomains 11 (some .int)) [.inr (.inr x0), .inl x1, .inl x2, .inl x3, .inl x4] A (.inl (some (.inl r))) A 1 25 0 0 := by
  refine MetV.ofV hl (by decide +kernel) (Nat.le_of_ble_eq_true rfl) (fun κ K E => ?_)
  have K : Cx κ cX9_orderedDomains 11 RX9 1 25 0 0 := K
  have E : Ed κ (some .int) "orderedDomains" (.inl (some (.inl r))) A 0 0 := E
  unfold f_X9_orderedDomains at h
  change Vw κ A 0 0 0 [(0, .inr (.inr x0)), (1, .inl x1), (2, .inl x2), (3, .inl x3), (4, .inl x4)] []
  refine Vw.iload_n (pc := 0) (x := x2) K dX9_orderedDomains_0 rfl ?_
  refine Vw.istore (pc := 1) K dX9_orderedDomains_1 (by decide) ?_
  refine Vw.iload (pc := 3) (x := x4) K dX9_orderedDomains_3 rfl ?_
  refine Vw.istore (pc := 5) K dX9_orderedDomains_5 (by decide) ?_
  refine Vw.iconst (pc := 7) (v := (0 : Int32)) K (by decide) dX9_orderedDomains_7 ?_
  refine Vw.istore (pc := 8) K dX9_orderedDomains_8 (by decide) ?_
  exact Vw.loc rfl (s_X9_orderedDomains_10 K E  _ _ _ _ h)
theorem cal_X9_orderedDomains : wCalV RX9 yX9_orderedDomains (.code yX9_orderedDomains cX9_orderedDomains 11 (some .int)) 4 := ⟨by decide +kernel, u_7_217, us_6_9, u_1_9, u_7_218⟩
def f_X9_sign (A : Hp) (x0 : Nat) (x1 : Int32) : Option (Int64) := if (hsh A x0).1 = 8 then (if (hgI A 451 x0 0) ≤ x1 then some (-1 : Int64) else if (hsh A (hgR A 448 x0 0)).1 = 11 then if wix ((8400 : Int32) + x1) (hsh A (hgR A 448 x0 0)).2 then some (hgL A 1035 (hgR A 448 x0 0) ((8400 : Int32) + x1).toNatClampNeg) else none else none) else none
set_option maxRecDepth 100000 in
theorem s_X9_sign {l : Launch} {g : GT} (hl : l.stackTraces = false) {A : Hp} {x0 : Nat} {x1 : Int32} {r : Int64} (h : f_X9_sign A x0 x1 = some r) : MetV l g yX9_sign (.code yX9_sign cX9_sign 2 (some .long)) [.inr (.inr x0), .inl x1] A (.inl (some (.inr (.inl r)))) A 0 0 0 0 := by
  refine MetV.ofV hl (by decide +kernel) (Nat.le_of_ble_eq_true rfl) (fun κ K E => ?_)
  have K : Cx κ cX9_sign 2 RX9 0 0 0 0 := K
  have E : Ed κ (some .long) "sign" (.inl (some (.inr (.inl r)))) A 0 0 := E
  unfold f_X9_sign at h
  change Vw κ A 0 0 0 [(0, .inr (.inr x0)), (1, .inl x1)] []
  refine Vw.iload_n (pc := 0) (x := x1) K dX9_sign_0 rfl ?_
  refine Vw.aload_n (pc := 1) (x := x0) K dX9_sign_1 rfl ?_
  obtain ⟨g1, h⟩ := wgd h
  refine Vw.getI (pc := 2) (k := 3) (f := 451) K cls7 rfl rfl u_6_20 g1 dX9_sign_2 ?_
  refine Vw.icmp_ge (pc := 5) (tgt := 21) K dX9_sign_5 (by decide) (fun c2 => ?_) (fun c2 => ?_)
  · have h := wpos c2 h
    refine Vw.ldc2 (pc := 21) (v := (-1 : Int64)) K u_6_154 dX9_sign_21 ?_
    exact Vw.lretE (pc := 24) K (Option.some.inj h) rfl E (by decide) (by decide) dX9_sign_24
  · have h := wneg c2 h
    refine Vw.aload_n (pc := 8) (x := x0) K dX9_sign_8 rfl ?_
    refine Vw.getR (pc := 9) (k := 0) (f := 448) K cls7 rfl rfl u_6_17 g1 dX9_sign_9 ?_
    refine Vw.sipush (pc := 12) (v := (8400 : Int32)) K (by decide) dX9_sign_12 ?_
    refine Vw.iload_n (pc := 15) (x := x1) K dX9_sign_15 rfl ?_
    refine Vw.iadd (pc := 16) K dX9_sign_16 ?_
    obtain ⟨g3, h⟩ := wgd h
    obtain ⟨g4, h⟩ := wgd h
    refine Vw.laload (pc := 17) K g3 g4 dX9_sign_17 ?_
    refine Vw.goto (pc := 18) (tgt := 24) K dX9_sign_18 (by decide) ?_
    exact Vw.lretE (pc := 24) K (Option.some.inj h) rfl E (by decide) (by decide) dX9_sign_24
theorem cal_X9_sign : wCalV RX9 yX9_sign (.code yX9_sign cX9_sign 2 (some .long)) 1 := ⟨by decide +kernel, u_6_152, us_3_5, u_1_9, u_6_153⟩
def k_X9_readsAddress_345  (A : Hp) (x0 : Nat) (x1 : Int32) (x2 : Int32) (x6 : Int32) (t0 : Nat) (t1 : Int32) (t2 : Int64) : Option (Int32 × Hp) := if (hsh A t0).1 = 11 then if wix t1 (hsh A t0).2 then if (hsh (hsL A 1035 t0 t1.toNatClampNeg t2) x0).1 = 8 then if (hsh (hsL A 1035 t0 t1.toNatClampNeg t2) (hgR (hsL A 1035 t0 t1.toNatClampNeg t2) 448 x0 0)).1 = 11 then if wix (x1 + (34 : Int32)) (hsh (hsL A 1035 t0 t1.toNatClampNeg t2) (hgR (hsL A 1035 t0 t1.toNatClampNeg t2) 448 x0 0)).2 then ((f_X9_copies (hsL (hsL A 1035 t0 t1.toNatClampNeg t2) 1035 (hgR (hsL A 1035 t0 t1.toNatClampNeg t2) 448 x0 0) (x1 + (34 : Int32)).toNatClampNeg (47 : Int64)) x0 ((8400 : Int32) + x6) (x2 - x6) (x1 + (34 : Int32))).bind fun A7 => some ((-1 : Int32), A7)) else none else none else none else none else none
set_option maxRecDepth 100000 in
theorem s_X9_readsAddress_345 {κ : KT} {r : Int32} {B : Hp} {A : Hp} {x0 : Nat} {x1 : Int32} {x2 : Int32} {x6 : Int32} {t0 : Nat} {t1 : Int32} {t2 : Int64}  (K : Cx κ cX9_readsAddress 7 RX9 2 46 0 0) (E : Ed κ (some .int) "readsAddress" (.inl (some (.inl r))) B 0 0)  (h : k_X9_readsAddress_345  A x0 x1 x2 x6 t0 t1 t2 = some (r, B)) : Vw κ A 0 0 345 [(0, .inr (.inr x0)), (1, .inl x1), (2, .inl x2), (6, .inl x6)] [.inr (.inl t2), .inl t1, .inr (.inr t0)] := by
  unfold k_X9_readsAddress_345 at h
  obtain ⟨g1, h⟩ := wgd h
  obtain ⟨g2, h⟩ := wgd h
  refine Vw.lastore (pc := 345) K g1 g2 dX9_readsAddress_345 ?_
  refine Vw.aload_n (pc := 346) (x := x0) K dX9_readsAddress_346 rfl ?_
  obtain ⟨g3, h⟩ := wgd h
  refine Vw.getR (pc := 347) (k := 0) (f := 448) K cls7 rfl rfl u_6_17 g3 dX9_readsAddress_347 ?_
  refine Vw.iload_n (pc := 350) (x := x1) K dX9_readsAddress_350 rfl ?_
  refine Vw.bipush (pc := 351) (v := (34 : Int32)) K (by decide) dX9_readsAddress_351 ?_
  refine Vw.iadd (pc := 353) K dX9_readsAddress_353 ?_
  refine Vw.ldc2 (pc := 354) (v := (47 : Int64)) K u_6_168 dX9_readsAddress_354 ?_
  obtain ⟨g4, h⟩ := wgd h
  obtain ⟨g5, h⟩ := wgd h
  refine Vw.lastore (pc := 357) K g4 g5 dX9_readsAddress_357 ?_
  refine Vw.aload_n (pc := 358) (x := x0) K dX9_readsAddress_358 rfl ?_
  refine Vw.sipush (pc := 359) (v := (8400 : Int32)) K (by decide) dX9_readsAddress_359 ?_
  refine Vw.iload (pc := 362) (x := x6) K dX9_readsAddress_362 rfl ?_
  refine Vw.iadd (pc := 364) K dX9_readsAddress_364 ?_
  refine Vw.iload_n (pc := 365) (x := x2) K dX9_readsAddress_365 rfl ?_
  refine Vw.iload (pc := 366) (x := x6) K dX9_readsAddress_366 rfl ?_
  refine Vw.isub (pc := 368) K dX9_readsAddress_368 ?_
  refine Vw.iload_n (pc := 369) (x := x1) K dX9_readsAddress_369 rfl ?_
  refine Vw.bipush (pc := 370) (v := (34 : Int32)) K (by decide) dX9_readsAddress_370 ?_
  refine Vw.iadd (pc := 372) K dX9_readsAddress_372 ?_
  obtain ⟨A7, e6, h⟩ := wbd h
  refine Vw.cV0 (pc := 373) (c' := 0) (n' := 0) K (s_X9_copies K.tr e6) cal_X9_copies cls7 u_6_170 g3 rfl ⟨by decide, by decide⟩ ⟨by decide, by decide⟩ rfl (Nat.le_of_ble_eq_true rfl) dX9_readsAddress_373 rfl rfl ?_
  refine Vw.iconst (pc := 376) (v := (-1 : Int32)) K (by decide) dX9_readsAddress_376 ?_
  exact Vw.iretH (pc := 377) K h E (by decide) (by decide) dX9_readsAddress_377
def k_X9_readsAddress_296  (A : Hp) (x0 : Nat) (x1 : Int32) (x2 : Int32) (x4 : Int32) (x5 : Int32) (x6 : Int32) (t0 : Nat) (t1 : Int32) (t2 : Int64) : Option (Int32 × Hp) := if (hsh A t0).1 = 11 then if wix t1 (hsh A t0).2 then if (hsh (hsL A 1035 t0 t1.toNatClampNeg t2) x0).1 = 8 then if (hsh (hsL A 1035 t0 t1.toNatClampNeg t2) (hgR (hsL A 1035 t0 t1.toNatClampNeg t2) 448 x0 0)).1 = 11 then if wix (x1 + (2 : Int32)) (hsh (hsL A 1035 t0 t1.toNatClampNeg t2) (hgR (hsL A 1035 t0 t1.toNatClampNeg t2) 448 x0 0)).2 then ((f_X9_copies (hsL (hsL A 1035 t0 t1.toNatClampNeg t2) 1035 (hgR (hsL A 1035 t0 t1.toNatClampNeg t2) 448 x0 0) (x1 + (2 : Int32)).toNatClampNeg x5.toInt64) x0 ((8400 : Int32) + x4) x5 (x1 + (4 : Int32))).bind fun A14 => if (hsh A14 x0).1 = 8 then (if x2 ≤ x6 then k_X9_readsAddress_345 A14 x0 x1 x2 x6 (hgR A14 448 x0 0) (x1 + (3 : Int32)) (1 : Int64) else k_X9_readsAddress_345 A14 x0 x1 x2 x6 (hgR A14 448 x0 0) (x1 + (3 : Int32)) ((x2 - x6).toInt64)) else none) else none else none else none else none else none
set_option maxRecDepth 100000 in
theorem s_X9_readsAddress_296 {κ : KT} {r : Int32} {B : Hp} {A : Hp} {x0 : Nat} {x1 : Int32} {x2 : Int32} {x4 : Int32} {x5 : Int32} {x6 : Int32} {t0 : Nat} {t1 : Int32} {t2 : Int64}  (K : Cx κ cX9_readsAddress 7 RX9 2 46 0 0) (E : Ed κ (some .int) "readsAddress" (.inl (some (.inl r))) B 0 0)  (h : k_X9_readsAddress_296  A x0 x1 x2 x4 x5 x6 t0 t1 t2 = some (r, B)) : Vw κ A 0 0 296 [(0, .inr (.inr x0)), (1, .inl x1), (2, .inl x2), (4, .inl x4), (5, .inl x5), (6, .inl x6)] [.inr (.inl t2), .inl t1, .inr (.inr t0)] := by
  unfold k_X9_readsAddress_296 at h
  obtain ⟨g8, h⟩ := wgd h
  obtain ⟨g9, h⟩ := wgd h
  refine Vw.lastore (pc := 296) K g8 g9 dX9_readsAddress_296 ?_
  refine Vw.aload_n (pc := 297) (x := x0) K dX9_readsAddress_297 rfl ?_
  obtain ⟨g10, h⟩ := wgd h
  refine Vw.getR (pc := 298) (k := 0) (f := 448) K cls7 rfl rfl u_6_17 g10 dX9_readsAddress_298 ?_
  refine Vw.iload_n (pc := 301) (x := x1) K dX9_readsAddress_301 rfl ?_
  refine Vw.iconst (pc := 302) (v := (2 : Int32)) K (by decide) dX9_readsAddress_302 ?_
  refine Vw.iadd (pc := 303) K dX9_readsAddress_303 ?_
  refine Vw.iload (pc := 304) (x := x5) K dX9_readsAddress_304 rfl ?_
  refine Vw.i2l (pc := 306) K dX9_readsAddress_306 ?_
  obtain ⟨g11, h⟩ := wgd h
  obtain ⟨g12, h⟩ := wgd h
  refine Vw.lastore (pc := 307) K g11 g12 dX9_readsAddress_307 ?_
  refine Vw.aload_n (pc := 308) (x := x0) K dX9_readsAddress_308 rfl ?_
  refine Vw.sipush (pc := 309) (v := (8400 : Int32)) K (by decide) dX9_readsAddress_309 ?_
  refine Vw.iload (pc := 312) (x := x4) K dX9_readsAddress_312 rfl ?_
  refine Vw.iadd (pc := 314) K dX9_readsAddress_314 ?_
  refine Vw.iload (pc := 315) (x := x5) K dX9_readsAddress_315 rfl ?_
  refine Vw.iload_n (pc := 317) (x := x1) K dX9_readsAddress_317 rfl ?_
  refine Vw.iconst (pc := 318) (v := (4 : Int32)) K (by decide) dX9_readsAddress_318 ?_
  refine Vw.iadd (pc := 319) K dX9_readsAddress_319 ?_
  obtain ⟨A14, e13, h⟩ := wbd h
  refine Vw.cV0 (pc := 320) (c' := 0) (n' := 0) K (s_X9_copies K.tr e13) cal_X9_copies cls7 u_6_170 g10 rfl ⟨by decide, by decide⟩ ⟨by decide, by decide⟩ rfl (Nat.le_of_ble_eq_true rfl) dX9_readsAddress_320 rfl rfl ?_
  refine Vw.aload_n (pc := 323) (x := x0) K dX9_readsAddress_323 rfl ?_
  obtain ⟨g15, h⟩ := wgd h
  refine Vw.getR (pc := 324) (k := 0) (f := 448) K cls7 rfl rfl u_6_17 g15 dX9_readsAddress_324 ?_
  refine Vw.iload_n (pc := 327) (x := x1) K dX9_readsAddress_327 rfl ?_
  refine Vw.iconst (pc := 328) (v := (3 : Int32)) K (by decide) dX9_readsAddress_328 ?_
  refine Vw.iadd (pc := 329) K dX9_readsAddress_329 ?_
  refine Vw.iload_n (pc := 330) (x := x2) K dX9_readsAddress_330 rfl ?_
  refine Vw.iload (pc := 331) (x := x6) K dX9_readsAddress_331 rfl ?_
  refine Vw.icmp_le (pc := 333) (tgt := 344) K dX9_readsAddress_333 (by decide) (fun c16 => ?_) (fun c16 => ?_)
  · have h := wpos c16 h
    refine Vw.lconst (pc := 344) (v := (1 : Int64)) K (by decide) dX9_readsAddress_344 ?_
    exact Vw.loc rfl (s_X9_readsAddress_345 K E  h)
  · have h := wneg c16 h
    refine Vw.iload_n (pc := 336) (x := x2) K dX9_readsAddress_336 rfl ?_
    refine Vw.iload (pc := 337) (x := x6) K dX9_readsAddress_337 rfl ?_
    refine Vw.isub (pc := 339) K dX9_readsAddress_339 ?_
    refine Vw.i2l (pc := 340) K dX9_readsAddress_340 ?_
    refine Vw.goto (pc := 341) (tgt := 345) K dX9_readsAddress_341 (by decide) ?_
    exact Vw.loc rfl (s_X9_readsAddress_345 K E  h)
def k_X9_readsAddress_273  (A : Hp) (x0 : Nat) (x1 : Int32) (x2 : Int32) (x3 : Int32) (x4 : Int32) (x5 : Int32) (x6 : Int32)  : Option (Int32 × Hp) := if (hsh A x0).1 = 8 then if (hsh A (hgR A 448 x0 0)).1 = 11 then if wix x1 (hsh A (hgR A 448 x0 0)).2 then (if x3 = (0 : Int32) then k_X9_readsAddress_296 (hsL A 1035 (hgR A 448 x0 0) x1.toNatClampNeg (1 : Int64)) x0 x1 x2 x4 x5 x6 (hgR (hsL A 1035 (hgR A 448 x0 0) x1.toNatClampNeg (1 : Int64)) 448 x0 0) (x1 + (1 : Int32)) (0 : Int64) else k_X9_readsAddress_296 (hsL A 1035 (hgR A 448 x0 0) x1.toNatClampNeg (1 : Int64)) x0 x1 x2 x4 x5 x6 (hgR (hsL A 1035 (hgR A 448 x0 0) x1.toNatClampNeg (1 : Int64)) 448 x0 0) (x1 + (1 : Int32)) (1 : Int64)) else none else none else none
set_option maxRecDepth 100000 in
theorem s_X9_readsAddress_273 {κ : KT} {r : Int32} {B : Hp} {A : Hp} {x0 : Nat} {x1 : Int32} {x2 : Int32} {x3 : Int32} {x4 : Int32} {x5 : Int32} {x6 : Int32}   (K : Cx κ cX9_readsAddress 7 RX9 2 46 0 0) (E : Ed κ (some .int) "readsAddress" (.inl (some (.inl r))) B 0 0)  (h : k_X9_readsAddress_273  A x0 x1 x2 x3 x4 x5 x6  = some (r, B)) : Vw κ A 0 0 273 [(0, .inr (.inr x0)), (1, .inl x1), (2, .inl x2), (3, .inl x3), (4, .inl x4), (5, .inl x5), (6, .inl x6)] [] := by
  unfold k_X9_readsAddress_273 at h
  refine Vw.aload_n (pc := 273) (x := x0) K dX9_readsAddress_273 rfl ?_
  obtain ⟨g17, h⟩ := wgd h
  refine Vw.getR (pc := 274) (k := 0) (f := 448) K cls7 rfl rfl u_6_17 g17 dX9_readsAddress_274 ?_
  refine Vw.iload_n (pc := 277) (x := x1) K dX9_readsAddress_277 rfl ?_
  refine Vw.lconst (pc := 278) (v := (1 : Int64)) K (by decide) dX9_readsAddress_278 ?_
  obtain ⟨g18, h⟩ := wgd h
  obtain ⟨g19, h⟩ := wgd h
  refine Vw.lastore (pc := 279) K g18 g19 dX9_readsAddress_279 ?_
  refine Vw.aload_n (pc := 280) (x := x0) K dX9_readsAddress_280 rfl ?_
  refine Vw.getR (pc := 281) (k := 0) (f := 448) K cls7 rfl rfl u_6_17 g17 dX9_readsAddress_281 ?_
  refine Vw.iload_n (pc := 284) (x := x1) K dX9_readsAddress_284 rfl ?_
  refine Vw.iconst (pc := 285) (v := (1 : Int32)) K (by decide) dX9_readsAddress_285 ?_
  refine Vw.iadd (pc := 286) K dX9_readsAddress_286 ?_
  refine Vw.iload_n (pc := 287) (x := x3) K dX9_readsAddress_287 rfl ?_
  refine Vw.if_eq (pc := 288) (tgt := 295) K dX9_readsAddress_288 (by decide) (fun c20 => ?_) (fun c20 => ?_)
  · have h := wpos c20 h
    refine Vw.lconst (pc := 295) (v := (0 : Int64)) K (by decide) dX9_readsAddress_295 ?_
    exact Vw.loc rfl (s_X9_readsAddress_296 K E  h)
  · have h := wneg c20 h
    refine Vw.lconst (pc := 291) (v := (1 : Int64)) K (by decide) dX9_readsAddress_291 ?_
    refine Vw.goto (pc := 292) (tgt := 296) K dX9_readsAddress_292 (by decide) ?_
    exact Vw.loc rfl (s_X9_readsAddress_296 K E  h)
def k_X9_readsAddress_251  (A : Hp) (x0 : Nat) (x1 : Int32) (x2 : Int32) (x3 : Int32) (x4 : Int32) (x5 : Int32) (x6 : Int32)  : Option (Int32 × Hp) := if (hsh A x0).1 = 8 then (if (hgI A 451 x0 0) ≤ x2 then k_X9_readsAddress_273 A x0 x1 x2 x3 x4 x5 x6 else ((f_X9_sign A x0 x2).bind fun v24 => (if v24 = (63 : Int64) then k_X9_readsAddress_273 A x0 x1 x2 x3 x4 x5 x6 else some (x2, A)))) else none
set_option maxRecDepth 100000 in
theorem s_X9_readsAddress_251 {κ : KT} {r : Int32} {B : Hp} {A : Hp} {x0 : Nat} {x1 : Int32} {x2 : Int32} {x3 : Int32} {x4 : Int32} {x5 : Int32} {x6 : Int32}   (K : Cx κ cX9_readsAddress 7 RX9 2 46 0 0) (E : Ed κ (some .int) "readsAddress" (.inl (some (.inl r))) B 0 0)  (h : k_X9_readsAddress_251  A x0 x1 x2 x3 x4 x5 x6  = some (r, B)) : Vw κ A 0 0 251 [(0, .inr (.inr x0)), (1, .inl x1), (2, .inl x2), (3, .inl x3), (4, .inl x4), (5, .inl x5), (6, .inl x6)] [] := by
  unfold k_X9_readsAddress_251 at h
  refine Vw.iload_n (pc := 251) (x := x2) K dX9_readsAddress_251 rfl ?_
  refine Vw.aload_n (pc := 252) (x := x0) K dX9_readsAddress_252 rfl ?_
  obtain ⟨g21, h⟩ := wgd h
  refine Vw.getI (pc := 253) (k := 3) (f := 451) K cls7 rfl rfl u_6_20 g21 dX9_readsAddress_253 ?_
  refine Vw.icmp_ge (pc := 256) (tgt := 273) K dX9_readsAddress_256 (by decide) (fun c22 => ?_) (fun c22 => ?_)
  · have h := wpos c22 h
    exact Vw.loc rfl (s_X9_readsAddress_273 K E  h)
  · have h := wneg c22 h
    refine Vw.aload_n (pc := 259) (x := x0) K dX9_readsAddress_259 rfl ?_
    refine Vw.iload_n (pc := 260) (x := x2) K dX9_readsAddress_260 rfl ?_
    obtain ⟨v24, e23, h⟩ := wbd h
    refine Vw.cV1 (pc := 261) (v := .inr (.inl v24)) (c' := 0) (n' := 0) K (s_X9_sign K.tr e23) cal_X9_sign cls7 u_6_150 g21 rfl ⟨by decide, by decide⟩ ⟨by decide, by decide⟩ rfl (Nat.le_of_ble_eq_true rfl) dX9_readsAddress_261 rfl rfl ?_
    refine Vw.ldc2 (pc := 264) (v := (63 : Int64)) K u_6_169 dX9_readsAddress_264 ?_
    refine Vw.lcmp_eq (pc := 267) (tgt := 273) K dX9_readsAddress_267 dX9_readsAddress_268 (by decide) (fun c25 => ?_) (fun c25 => ?_)
    · have h := wpos c25 h
      exact Vw.loc rfl (s_X9_readsAddress_273 K E  h)
    · have h := wneg c25 h
      refine Vw.iload_n (pc := 271) (x := x2) K dX9_readsAddress_271 rfl ?_
      exact Vw.iretH (pc := 272) K h E (by decide) (by decide) dX9_readsAddress_272
def k_X9_readsAddress_216s  (x0 : Nat) (x1 : Int32) (x3 : Int32) (x4 : Int32) (x5 : Int32) (x6 : Int32)  (rec216 : Hp → Int32 → Option (Int32 × Hp)) (A : Hp) (x2 : Int32) : Option (Int32 × Hp) := if (hsh A x0).1 = 8 then (if (hgI A 451 x0 0) ≤ x2 then k_X9_readsAddress_251 A x0 x1 x2 x3 x4 x5 x6 else ((f_X9_sign A x0 x2).bind fun v29 => (if v29 = (63 : Int64) then k_X9_readsAddress_251 A x0 x1 x2 x3 x4 x5 x6 else (if (40 : Int32) ≤ (x2 - x6) then k_X9_readsAddress_251 A x0 x1 x2 x3 x4 x5 x6 else rec216 A (x2 + (1 : Int32)))))) else none
def k_X9_readsAddress_216  (x0 : Nat) (x1 : Int32) (x3 : Int32) (x4 : Int32) (x5 : Int32) (x6 : Int32)  : Nat → Hp → Int32 → Option (Int32 × Hp)
  | 0 => fun _ _ => none
  | fu + 1 => k_X9_readsAddress_216s x0 x1 x3 x4 x5 x6  (k_X9_readsAddress_216 x0 x1 x3 x4 x5 x6  fu)
set_option maxRecDepth 100000 in
theorem s_X9_readsAddress_216 {κ : KT} {r : Int32} {B : Hp}  {x0 : Nat} {x1 : Int32} {x3 : Int32} {x4 : Int32} {x5 : Int32} {x6 : Int32}  (K : Cx κ cX9_readsAddress 7 RX9 2 46 0 0) (E : Ed κ (some .int) "readsAddress" (.inl (some (.inl r))) B 0 0)  : ∀ (fu : Nat) (A : Hp) (x2 : Int32),  k_X9_readsAddress_216 x0 x1 x3 x4 x5 x6  fu A x2 = some (r, B) → Vw κ A 0 0 216 [(0, .inr (.inr x0)), (1, .inl x1), (2, .inl x2), (3, .inl x3), (4, .inl x4), (5, .inl x5), (6, .inl x6)] [] := by
  intro fu
  induction fu with
  | zero => intro A x2 h; cases h
  | succ fu hr216 =>
    intro A x2 h
    have h : k_X9_readsAddress_216s x0 x1 x3 x4 x5 x6  (k_X9_readsAddress_216 x0 x1 x3 x4 x5 x6  fu) A x2 = some (r, B) := h
    unfold k_X9_readsAddress_216s at h
    refine Vw.iload_n (pc := 216) (x := x2) K dX9_readsAddress_216 rfl ?_
    refine Vw.aload_n (pc := 217) (x := x0) K dX9_readsAddress_217 rfl ?_
    obtain ⟨g26, h⟩ := wgd h
    refine Vw.getI (pc := 218) (k := 3) (f := 451) K cls7 rfl rfl u_6_20 g26 dX9_readsAddress_218 ?_
    refine Vw.icmp_ge (pc := 221) (tgt := 251) K dX9_readsAddress_221 (by decide) (fun c27 => ?_) (fun c27 => ?_)
    · have h := wpos c27 h
      exact Vw.loc rfl (s_X9_readsAddress_251 K E  h)
    · have h := wneg c27 h
      refine Vw.aload_n (pc := 224) (x := x0) K dX9_readsAddress_224 rfl ?_
      refine Vw.iload_n (pc := 225) (x := x2) K dX9_readsAddress_225 rfl ?_
      obtain ⟨v29, e28, h⟩ := wbd h
      refine Vw.cV1 (pc := 226) (v := .inr (.inl v29)) (c' := 0) (n' := 0) K (s_X9_sign K.tr e28) cal_X9_sign cls7 u_6_150 g26 rfl ⟨by decide, by decide⟩ ⟨by decide, by decide⟩ rfl (Nat.le_of_ble_eq_true rfl) dX9_readsAddress_226 rfl rfl ?_
      refine Vw.ldc2 (pc := 229) (v := (63 : Int64)) K u_6_169 dX9_readsAddress_229 ?_
      refine Vw.lcmp_eq (pc := 232) (tgt := 251) K dX9_readsAddress_232 dX9_readsAddress_233 (by decide) (fun c30 => ?_) (fun c30 => ?_)
      · have h := wpos c30 h
        exact Vw.loc rfl (s_X9_readsAddress_251 K E  h)
      · have h := wneg c30 h
        refine Vw.iload_n (pc := 236) (x := x2) K dX9_readsAddress_236 rfl ?_
        refine Vw.iload (pc := 237) (x := x6) K dX9_readsAddress_237 rfl ?_
        refine Vw.isub (pc := 239) K dX9_readsAddress_239 ?_
        refine Vw.bipush (pc := 240) (v := (40 : Int32)) K (by decide) dX9_readsAddress_240 ?_
        refine Vw.icmp_ge (pc := 242) (tgt := 251) K dX9_readsAddress_242 (by decide) (fun c31 => ?_) (fun c31 => ?_)
        · have h := wpos c31 h
          exact Vw.loc rfl (s_X9_readsAddress_251 K E  h)
        · have h := wneg c31 h
          refine Vw.iinc (pc := 245) (x := x2) (v := (1 : Int32)) K dX9_readsAddress_245 rfl (by decide) (by decide) ?_
          refine Vw.goto (pc := 248) (tgt := 216) K dX9_readsAddress_248 (by decide) ?_
          exact Vw.loc rfl (hr216 _ _ h)
def k_X9_readsAddress_173  (A : Hp) (x0 : Nat) (x1 : Int32) (x2 : Int32) (x3 : Int32) (x4 : Int32)  : Option (Int32 × Hp) := (if x2 = x4 then some (x2, A) else if (hsh A x0).1 = 8 then ((f_X9_sign A x0 (x2 - (1 : Int32))).bind fun v35 => (if v35 = (46 : Int64) then some (x2, A) else ((f_X9_sign A x0 x2).bind fun v38 => (if v38 = (47 : Int64) then k_X9_readsAddress_216 x0 x1 x3 x4 (x2 - x4) x2 FU A x2 else k_X9_readsAddress_251 A x0 x1 x2 x3 x4 (x2 - x4) x2)))) else none)
set_option maxRecDepth 100000 in
theorem s_X9_readsAddress_173 {κ : KT} {r : Int32} {B : Hp} {A : Hp} {x0 : Nat} {x1 : Int32} {x2 : Int32} {x3 : Int32} {x4 : Int32}   (K : Cx κ cX9_readsAddress 7 RX9 2 46 0 0) (E : Ed κ (some .int) "readsAddress" (.inl (some (.inl r))) B 0 0)  (h : k_X9_readsAddress_173  A x0 x1 x2 x3 x4  = some (r, B)) : Vw κ A 0 0 173 [(0, .inr (.inr x0)), (1, .inl x1), (2, .inl x2), (3, .inl x3), (4, .inl x4)] [] := by
  unfold k_X9_readsAddress_173 at h
  refine Vw.iload_n (pc := 173) (x := x2) K dX9_readsAddress_173 rfl ?_
  refine Vw.iload (pc := 174) (x := x4) K dX9_readsAddress_174 rfl ?_
  refine Vw.icmp_eq (pc := 176) (tgt := 193) K dX9_readsAddress_176 (by decide) (fun c32 => ?_) (fun c32 => ?_)
  · have h := wpos c32 h
    refine Vw.iload_n (pc := 193) (x := x2) K dX9_readsAddress_193 rfl ?_
    exact Vw.iretH (pc := 194) K h E (by decide) (by decide) dX9_readsAddress_194
  · have h := wneg c32 h
    refine Vw.aload_n (pc := 179) (x := x0) K dX9_readsAddress_179 rfl ?_
    refine Vw.iload_n (pc := 180) (x := x2) K dX9_readsAddress_180 rfl ?_
    refine Vw.iconst (pc := 181) (v := (1 : Int32)) K (by decide) dX9_readsAddress_181 ?_
    refine Vw.isub (pc := 182) K dX9_readsAddress_182 ?_
    obtain ⟨g33, h⟩ := wgd h
    obtain ⟨v35, e34, h⟩ := wbd h
    refine Vw.cV1 (pc := 183) (v := .inr (.inl v35)) (c' := 0) (n' := 0) K (s_X9_sign K.tr e34) cal_X9_sign cls7 u_6_150 g33 rfl ⟨by decide, by decide⟩ ⟨by decide, by decide⟩ rfl (Nat.le_of_ble_eq_true rfl) dX9_readsAddress_183 rfl rfl ?_
    refine Vw.ldc2 (pc := 186) (v := (46 : Int64)) K u_6_167 dX9_readsAddress_186 ?_
    refine Vw.lcmp_ne (pc := 189) (tgt := 195) K dX9_readsAddress_189 dX9_readsAddress_190 (by decide) (fun c36 => ?_) (fun c36 => ?_)
    · have h := wneg c36 h
      refine Vw.iload_n (pc := 195) (x := x2) K dX9_readsAddress_195 rfl ?_
      refine Vw.iload (pc := 196) (x := x4) K dX9_readsAddress_196 rfl ?_
      refine Vw.isub (pc := 198) K dX9_readsAddress_198 ?_
      refine Vw.istore (pc := 199) K dX9_readsAddress_199 (by decide) ?_
      refine Vw.iload_n (pc := 201) (x := x2) K dX9_readsAddress_201 rfl ?_
      refine Vw.istore (pc := 202) K dX9_readsAddress_202 (by decide) ?_
      refine Vw.aload_n (pc := 204) (x := x0) K dX9_readsAddress_204 rfl ?_
      refine Vw.iload_n (pc := 205) (x := x2) K dX9_readsAddress_205 rfl ?_
      obtain ⟨v38, e37, h⟩ := wbd h
      refine Vw.cV1 (pc := 206) (v := .inr (.inl v38)) (c' := 0) (n' := 0) K (s_X9_sign K.tr e37) cal_X9_sign cls7 u_6_150 g33 rfl ⟨by decide, by decide⟩ ⟨by decide, by decide⟩ rfl (Nat.le_of_ble_eq_true rfl) dX9_readsAddress_206 rfl rfl ?_
      refine Vw.ldc2 (pc := 209) (v := (47 : Int64)) K u_6_168 dX9_readsAddress_209 ?_
      refine Vw.lcmp_ne (pc := 212) (tgt := 251) K dX9_readsAddress_212 dX9_readsAddress_213 (by decide) (fun c39 => ?_) (fun c39 => ?_)
      · have h := wneg c39 h
        exact Vw.loc rfl (s_X9_readsAddress_251 K E  h)
      · have h := wpos c39 h
        exact Vw.loc rfl (s_X9_readsAddress_216 K E  _ _ _ h)
    · have h := wpos c36 h
      refine Vw.iload_n (pc := 193) (x := x2) K dX9_readsAddress_193 rfl ?_
      exact Vw.iretH (pc := 194) K h E (by decide) (by decide) dX9_readsAddress_194
def k_X9_readsAddress_167 (rec106 : Hp → Int32 → Option (Int32 × Hp)) (A : Hp) (x0 : Nat) (x1 : Int32) (x2 : Int32) (x3 : Int32) (x4 : Int32)  : Option (Int32 × Hp) := rec106 A (x2 + (1 : Int32))
set_option maxRecDepth 100000 in
theorem s_X9_readsAddress_167 {κ : KT} {r : Int32} {B : Hp} {A : Hp} {x0 : Nat} {x1 : Int32} {x2 : Int32} {x3 : Int32} {x4 : Int32}  {rec106 : Hp → Int32 → Option (Int32 × Hp)} (K : Cx κ cX9_readsAddress 7 RX9 2 46 0 0) (E : Ed κ (some .int) "readsAddress" (.inl (some (.inl r))) B 0 0) (hr106 : ∀ (A : Hp) (x2 : Int32), rec106 A x2 = some (r, B) → Vw κ A 0 0 106 [(0, .inr (.inr x0)), (1, .inl x1), (2, .inl x2), (3, .inl x3), (4, .inl x4)] []) (h : k_X9_readsAddress_167 rec106 A x0 x1 x2 x3 x4  = some (r, B)) : Vw κ A 0 0 167 [(0, .inr (.inr x0)), (1, .inl x1), (2, .inl x2), (3, .inl x3), (4, .inl x4)] [] := by
  unfold k_X9_readsAddress_167 at h
  refine Vw.iinc (pc := 167) (x := x2) (v := (1 : Int32)) K dX9_readsAddress_167 rfl (by decide) (by decide) ?_
  refine Vw.goto (pc := 170) (tgt := 106) K dX9_readsAddress_170 (by decide) ?_
  exact Vw.loc rfl (hr106 _ _ h)
def k_X9_readsAddress_106s  (x0 : Nat) (x1 : Int32) (x3 : Int32) (x4 : Int32)  (rec106 : Hp → Int32 → Option (Int32 × Hp)) (A : Hp) (x2 : Int32) : Option (Int32 × Hp) := (if (30 : Int32) ≤ (x2 - x4) then k_X9_readsAddress_173 A x0 x1 x2 x3 x4 else if (hsh A x0).1 = 8 then ((f_X9_sign A x0 x2).bind fun v43 => ((f_X9_isLabelSign A v43).bind fun v45 => (if v45 = (0 : Int32) then ((f_X9_sign A x0 x2).bind fun v48 => (if v48 = (46 : Int64) then (if x2 ≤ x4 then k_X9_readsAddress_173 A x0 x1 x2 x3 x4 else ((f_X9_sign A x0 (x2 - (1 : Int32))).bind fun v52 => (if v52 = (46 : Int64) then k_X9_readsAddress_173 A x0 x1 x2 x3 x4 else (if (29 : Int32) ≤ (x2 - x4) then k_X9_readsAddress_173 A x0 x1 x2 x3 x4 else k_X9_readsAddress_167 rec106 A x0 x1 x2 x3 x4)))) else k_X9_readsAddress_173 A x0 x1 x2 x3 x4)) else k_X9_readsAddress_167 rec106 A x0 x1 x2 x3 x4))) else none)
def k_X9_readsAddress_106  (x0 : Nat) (x1 : Int32) (x3 : Int32) (x4 : Int32)  : Nat → Hp → Int32 → Option (Int32 × Hp)
  | 0 => fun _ _ => none
  | fu + 1 => k_X9_readsAddress_106s x0 x1 x3 x4  (k_X9_readsAddress_106 x0 x1 x3 x4  fu)
set_option maxRecDepth 100000 in
theorem s_X9_readsAddress_106 {κ : KT} {r : Int32} {B : Hp}  {x0 : Nat} {x1 : Int32} {x3 : Int32} {x4 : Int32}  (K : Cx κ cX9_readsAddress 7 RX9 2 46 0 0) (E : Ed κ (some .int) "readsAddress" (.inl (some (.inl r))) B 0 0)  : ∀ (fu : Nat) (A : Hp) (x2 : Int32),  k_X9_readsAddress_106 x0 x1 x3 x4  fu A x2 = some (r, B) → Vw κ A 0 0 106 [(0, .inr (.inr x0)), (1, .inl x1), (2, .inl x2), (3, .inl x3), (4, .inl x4)] [] := by
  intro fu
  induction fu with
  | zero => intro A x2 h; cases h
  | succ fu hr106 =>
    intro A x2 h
    have h : k_X9_readsAddress_106s x0 x1 x3 x4  (k_X9_readsAddress_106 x0 x1 x3 x4  fu) A x2 = some (r, B) := h
    unfold k_X9_readsAddress_106s at h
    refine Vw.iload_n (pc := 106) (x := x2) K dX9_readsAddress_106 rfl ?_
    refine Vw.iload (pc := 107) (x := x4) K dX9_readsAddress_107 rfl ?_
    refine Vw.isub (pc := 109) K dX9_readsAddress_109 ?_
    refine Vw.bipush (pc := 110) (v := (30 : Int32)) K (by decide) dX9_readsAddress_110 ?_
    refine Vw.icmp_ge (pc := 112) (tgt := 173) K dX9_readsAddress_112 (by decide) (fun c40 => ?_) (fun c40 => ?_)
    · have h := wpos c40 h
      exact Vw.loc rfl (s_X9_readsAddress_173 K E  h)
    · have h := wneg c40 h
      refine Vw.aload_n (pc := 115) (x := x0) K dX9_readsAddress_115 rfl ?_
      refine Vw.iload_n (pc := 116) (x := x2) K dX9_readsAddress_116 rfl ?_
      obtain ⟨g41, h⟩ := wgd h
      obtain ⟨v43, e42, h⟩ := wbd h
      refine Vw.cV1 (pc := 117) (v := .inr (.inl v43)) (c' := 0) (n' := 0) K (s_X9_sign K.tr e42) cal_X9_sign cls7 u_6_150 g41 rfl ⟨by decide, by decide⟩ ⟨by decide, by decide⟩ rfl (Nat.le_of_ble_eq_true rfl) dX9_readsAddress_117 rfl rfl ?_
      obtain ⟨v45, e44, h⟩ := wbd h
      refine Vw.cS1 (pc := 120) (v := .inl v45) (c' := 0) (n' := 0) K (s_X9_isLabelSign K.tr e44) cal_X9_isLabelSign u_6_156 rfl ⟨by decide, by decide⟩ ⟨by decide, by decide⟩ rfl (Nat.le_of_ble_eq_true rfl) dX9_readsAddress_120 rfl rfl ?_
      refine Vw.if_ne (pc := 123) (tgt := 167) K dX9_readsAddress_123 (by decide) (fun c46 => ?_) (fun c46 => ?_)
      · have h := wneg c46 h
        exact Vw.loc rfl (s_X9_readsAddress_167 K E hr106 h)
      · have h := wpos c46 h
        refine Vw.aload_n (pc := 126) (x := x0) K dX9_readsAddress_126 rfl ?_
        refine Vw.iload_n (pc := 127) (x := x2) K dX9_readsAddress_127 rfl ?_
        obtain ⟨v48, e47, h⟩ := wbd h
        refine Vw.cV1 (pc := 128) (v := .inr (.inl v48)) (c' := 0) (n' := 0) K (s_X9_sign K.tr e47) cal_X9_sign cls7 u_6_150 g41 rfl ⟨by decide, by decide⟩ ⟨by decide, by decide⟩ rfl (Nat.le_of_ble_eq_true rfl) dX9_readsAddress_128 rfl rfl ?_
        refine Vw.ldc2 (pc := 131) (v := (46 : Int64)) K u_6_167 dX9_readsAddress_131 ?_
        refine Vw.lcmp_ne (pc := 134) (tgt := 173) K dX9_readsAddress_134 dX9_readsAddress_135 (by decide) (fun c49 => ?_) (fun c49 => ?_)
        · have h := wneg c49 h
          exact Vw.loc rfl (s_X9_readsAddress_173 K E  h)
        · have h := wpos c49 h
          refine Vw.iload_n (pc := 138) (x := x2) K dX9_readsAddress_138 rfl ?_
          refine Vw.iload (pc := 139) (x := x4) K dX9_readsAddress_139 rfl ?_
          refine Vw.icmp_le (pc := 141) (tgt := 173) K dX9_readsAddress_141 (by decide) (fun c50 => ?_) (fun c50 => ?_)
          · have h := wpos c50 h
            exact Vw.loc rfl (s_X9_readsAddress_173 K E  h)
          · have h := wneg c50 h
            refine Vw.aload_n (pc := 144) (x := x0) K dX9_readsAddress_144 rfl ?_
            refine Vw.iload_n (pc := 145) (x := x2) K dX9_readsAddress_145 rfl ?_
            refine Vw.iconst (pc := 146) (v := (1 : Int32)) K (by decide) dX9_readsAddress_146 ?_
            refine Vw.isub (pc := 147) K dX9_readsAddress_147 ?_
            obtain ⟨v52, e51, h⟩ := wbd h
            refine Vw.cV1 (pc := 148) (v := .inr (.inl v52)) (c' := 0) (n' := 0) K (s_X9_sign K.tr e51) cal_X9_sign cls7 u_6_150 g41 rfl ⟨by decide, by decide⟩ ⟨by decide, by decide⟩ rfl (Nat.le_of_ble_eq_true rfl) dX9_readsAddress_148 rfl rfl ?_
            refine Vw.ldc2 (pc := 151) (v := (46 : Int64)) K u_6_167 dX9_readsAddress_151 ?_
            refine Vw.lcmp_eq (pc := 154) (tgt := 173) K dX9_readsAddress_154 dX9_readsAddress_155 (by decide) (fun c53 => ?_) (fun c53 => ?_)
            · have h := wpos c53 h
              exact Vw.loc rfl (s_X9_readsAddress_173 K E  h)
            · have h := wneg c53 h
              refine Vw.iload_n (pc := 158) (x := x2) K dX9_readsAddress_158 rfl ?_
              refine Vw.iload (pc := 159) (x := x4) K dX9_readsAddress_159 rfl ?_
              refine Vw.isub (pc := 161) K dX9_readsAddress_161 ?_
              refine Vw.bipush (pc := 162) (v := (29 : Int32)) K (by decide) dX9_readsAddress_162 ?_
              refine Vw.icmp_ge (pc := 164) (tgt := 173) K dX9_readsAddress_164 (by decide) (fun c54 => ?_) (fun c54 => ?_)
              · have h := wpos c54 h
                exact Vw.loc rfl (s_X9_readsAddress_173 K E  h)
              · have h := wneg c54 h
                exact Vw.loc rfl (s_X9_readsAddress_167 K E hr106 h)
def k_X9_readsAddress_69s  (x0 : Nat) (x1 : Int32) (x3 : Int32)  (rec69 : Hp → Int32 → Int32 → Option (Int32 × Hp)) (A : Hp) (x2 : Int32) (x4 : Int32) : Option (Int32 × Hp) := (if (3 : Int32) ≤ x4 then k_X9_readsAddress_106 x0 x1 x3 x2 FU A x2 else if (hsh A x0).1 = 8 then ((f_X9_sign A x0 x2).bind fun v58 => if (hsh A (hgR A 454 x0 0)).1 = 9 then if wix x4 (hsh A (hgR A 454 x0 0)).2 then (if v58 = ((hgI A 1033 (hgR A 454 x0 0) x4.toNatClampNeg).toInt64) then rec69 A (x2 + (1 : Int32)) (x4 + (1 : Int32)) else some (x2, A)) else none else none) else none)
def k_X9_readsAddress_69  (x0 : Nat) (x1 : Int32) (x3 : Int32)  : Nat → Hp → Int32 → Int32 → Option (Int32 × Hp)
  | 0 => fun _ _ _ => none
  | fu + 1 => k_X9_readsAddress_69s x0 x1 x3  (k_X9_readsAddress_69 x0 x1 x3  fu)
set_option maxRecDepth 100000 in
theorem s_X9_readsAddress_69 {κ : KT} {r : Int32} {B : Hp}  {x0 : Nat} {x1 : Int32} {x3 : Int32}  (K : Cx κ cX9_readsAddress 7 RX9 2 46 0 0) (E : Ed κ (some .int) "readsAddress" (.inl (some (.inl r))) B 0 0)  : ∀ (fu : Nat) (A : Hp) (x2 : Int32) (x4 : Int32),  k_X9_readsAddress_69 x0 x1 x3  fu A x2 x4 = some (r, B) → Vw κ A 0 0 69 [(0, .inr (.inr x0)), (1, .inl x1), (2, .inl x2), (3, .inl x3), (4, .inl x4)] [] := by
  intro fu
  induction fu with
  | zero => intro A x2 x4 h; cases h
  | succ fu hr69 =>
    intro A x2 x4 h
    have h : k_X9_readsAddress_69s x0 x1 x3  (k_X9_readsAddress_69 x0 x1 x3  fu) A x2 x4 = some (r, B) := h
    unfold k_X9_readsAddress_69s at h
    refine Vw.iload (pc := 69) (x := x4) K dX9_readsAddress_69 rfl ?_
    refine Vw.iconst (pc := 71) (v := (3 : Int32)) K (by decide) dX9_readsAddress_71 ?_
    refine Vw.icmp_ge (pc := 72) (tgt := 103) K dX9_readsAddress_72 (by decide) (fun c55 => ?_) (fun c55 => ?_)
    · have h := wpos c55 h
      refine Vw.iload_n (pc := 103) (x := x2) K dX9_readsAddress_103 rfl ?_
      refine Vw.istore (pc := 104) K dX9_readsAddress_104 (by decide) ?_
      exact Vw.loc rfl (s_X9_readsAddress_106 K E  _ _ _ h)
    · have h := wneg c55 h
      refine Vw.aload_n (pc := 75) (x := x0) K dX9_readsAddress_75 rfl ?_
      refine Vw.iload_n (pc := 76) (x := x2) K dX9_readsAddress_76 rfl ?_
      obtain ⟨g56, h⟩ := wgd h
      obtain ⟨v58, e57, h⟩ := wbd h
      refine Vw.cV1 (pc := 77) (v := .inr (.inl v58)) (c' := 0) (n' := 0) K (s_X9_sign K.tr e57) cal_X9_sign cls7 u_6_150 g56 rfl ⟨by decide, by decide⟩ ⟨by decide, by decide⟩ rfl (Nat.le_of_ble_eq_true rfl) dX9_readsAddress_77 rfl rfl ?_
      refine Vw.aload_n (pc := 80) (x := x0) K dX9_readsAddress_80 rfl ?_
      refine Vw.getR (pc := 81) (k := 6) (f := 454) K cls7 rfl rfl u_6_23 g56 dX9_readsAddress_81 ?_
      refine Vw.iload (pc := 84) (x := x4) K dX9_readsAddress_84 rfl ?_
      obtain ⟨g59, h⟩ := wgd h
      obtain ⟨g60, h⟩ := wgd h
      refine Vw.caload (pc := 86) K g59 g60 dX9_readsAddress_86 ?_
      refine Vw.i2l (pc := 87) K dX9_readsAddress_87 ?_
      refine Vw.lcmp_eq (pc := 88) (tgt := 94) K dX9_readsAddress_88 dX9_readsAddress_89 (by decide) (fun c61 => ?_) (fun c61 => ?_)
      · have h := wpos c61 h
        refine Vw.iinc (pc := 94) (x := x2) (v := (1 : Int32)) K dX9_readsAddress_94 rfl (by decide) (by decide) ?_
        refine Vw.iinc (pc := 97) (x := x4) (v := (1 : Int32)) K dX9_readsAddress_97 rfl (by decide) (by decide) ?_
        refine Vw.goto (pc := 100) (tgt := 69) K dX9_readsAddress_100 (by decide) ?_
        exact Vw.loc rfl (hr69 _ _ _ h)
      · have h := wneg c61 h
        refine Vw.iload_n (pc := 92) (x := x2) K dX9_readsAddress_92 rfl ?_
        exact Vw.iretH (pc := 93) K h E (by decide) (by decide) dX9_readsAddress_93
def k_X9_readsAddress_64  (A : Hp) (x0 : Nat) (x1 : Int32) (x3 : Int32) (t0 : Int32) (t1 : Int32) : Option (Int32 × Hp) := k_X9_readsAddress_69 x0 x1 x3 FU A (t0 + t1) (0 : Int32)
set_option maxRecDepth 100000 in
theorem s_X9_readsAddress_64 {κ : KT} {r : Int32} {B : Hp} {A : Hp} {x0 : Nat} {x1 : Int32} {x3 : Int32} {t0 : Int32} {t1 : Int32}  (K : Cx κ cX9_readsAddress 7 RX9 2 46 0 0) (E : Ed κ (some .int) "readsAddress" (.inl (some (.inl r))) B 0 0)  (h : k_X9_readsAddress_64  A x0 x1 x3 t0 t1 = some (r, B)) : Vw κ A 0 0 64 [(0, .inr (.inr x0)), (1, .inl x1), (3, .inl x3)] [.inl t1, .inl t0] := by
  unfold k_X9_readsAddress_64 at h
  refine Vw.iadd (pc := 64) K dX9_readsAddress_64 ?_
  refine Vw.istore_n (pc := 65) K dX9_readsAddress_65 (by decide) ?_
  refine Vw.iconst (pc := 66) (v := (0 : Int32)) K (by decide) dX9_readsAddress_66 ?_
  refine Vw.istore (pc := 67) K dX9_readsAddress_67 (by decide) ?_
  exact Vw.loc rfl (s_X9_readsAddress_69 K E  _ _ _ _ h)
def k_X9_readsAddress_53  (A : Hp) (x0 : Nat) (x1 : Int32) (x2 : Int32) (t0 : Int32) : Option (Int32 × Hp) := (if t0 = (0 : Int32) then k_X9_readsAddress_64 A x0 x1 t0 x2 (0 : Int32) else k_X9_readsAddress_64 A x0 x1 t0 x2 (1 : Int32))
set_option maxRecDepth 100000 in
theorem s_X9_readsAddress_53 {κ : KT} {r : Int32} {B : Hp} {A : Hp} {x0 : Nat} {x1 : Int32} {x2 : Int32} {t0 : Int32}  (K : Cx κ cX9_readsAddress 7 RX9 2 46 0 0) (E : Ed κ (some .int) "readsAddress" (.inl (some (.inl r))) B 0 0)  (h : k_X9_readsAddress_53  A x0 x1 x2 t0 = some (r, B)) : Vw κ A 0 0 53 [(0, .inr (.inr x0)), (1, .inl x1), (2, .inl x2)] [.inl t0] := by
  unfold k_X9_readsAddress_53 at h
  refine Vw.istore_n (pc := 53) K dX9_readsAddress_53 (by decide) ?_
  refine Vw.iload_n (pc := 54) (x := x2) K dX9_readsAddress_54 rfl ?_
  refine Vw.iload_n (pc := 55) (x := t0) K dX9_readsAddress_55 rfl ?_
  refine Vw.if_eq (pc := 56) (tgt := 63) K dX9_readsAddress_56 (by decide) (fun c62 => ?_) (fun c62 => ?_)
  · have h := wpos c62 h
    refine Vw.iconst (pc := 63) (v := (0 : Int32)) K (by decide) dX9_readsAddress_63 ?_
    exact Vw.loc rfl (s_X9_readsAddress_64 K E  h)
  · have h := wneg c62 h
    refine Vw.iconst (pc := 59) (v := (1 : Int32)) K (by decide) dX9_readsAddress_59 ?_
    refine Vw.goto (pc := 60) (tgt := 64) K dX9_readsAddress_60 (by decide) ?_
    exact Vw.loc rfl (s_X9_readsAddress_64 K E  h)
def k_X9_readsAddress_4s  (x0 : Nat) (x1 : Int32)  (rec4 : Hp → Int32 → Int32 → Option (Int32 × Hp)) (A : Hp) (x2 : Int32) (x3 : Int32) : Option (Int32 × Hp) := (if (4 : Int32) ≤ x3 then if (hsh A x0).1 = 8 then ((f_X9_sign A x0 x2).bind fun v66 => (if v66 = (115 : Int64) then k_X9_readsAddress_53 A x0 x1 x2 (1 : Int32) else k_X9_readsAddress_53 A x0 x1 x2 (0 : Int32))) else none else if (hsh A x0).1 = 8 then ((f_X9_sign A x0 x2).bind fun v70 => if (hsh A (hgR A 453 x0 0)).1 = 9 then if wix x3 (hsh A (hgR A 453 x0 0)).2 then (if v70 = ((hgI A 1033 (hgR A 453 x0 0) x3.toNatClampNeg).toInt64) then rec4 A (x2 + (1 : Int32)) (x3 + (1 : Int32)) else some (x2, A)) else none else none) else none)
def k_X9_readsAddress_4  (x0 : Nat) (x1 : Int32)  : Nat → Hp → Int32 → Int32 → Option (Int32 × Hp)
  | 0 => fun _ _ _ => none
  | fu + 1 => k_X9_readsAddress_4s x0 x1  (k_X9_readsAddress_4 x0 x1  fu)
set_option maxRecDepth 100000 in
theorem s_X9_readsAddress_4 {κ : KT} {r : Int32} {B : Hp}  {x0 : Nat} {x1 : Int32}  (K : Cx κ cX9_readsAddress 7 RX9 2 46 0 0) (E : Ed κ (some .int) "readsAddress" (.inl (some (.inl r))) B 0 0)  : ∀ (fu : Nat) (A : Hp) (x2 : Int32) (x3 : Int32),  k_X9_readsAddress_4 x0 x1  fu A x2 x3 = some (r, B) → Vw κ A 0 0 4 [(0, .inr (.inr x0)), (1, .inl x1), (2, .inl x2), (3, .inl x3)] [] := by
  intro fu
  induction fu with
  | zero => intro A x2 x3 h; cases h
  | succ fu hr4 =>
    intro A x2 x3 h
    have h : k_X9_readsAddress_4s x0 x1  (k_X9_readsAddress_4 x0 x1  fu) A x2 x3 = some (r, B) := h
    unfold k_X9_readsAddress_4s at h
    refine Vw.iload_n (pc := 4) (x := x3) K dX9_readsAddress_4 rfl ?_
    refine Vw.iconst (pc := 5) (v := (4 : Int32)) K (by decide) dX9_readsAddress_5 ?_
    refine Vw.icmp_ge (pc := 6) (tgt := 36) K dX9_readsAddress_6 (by decide) (fun c63 => ?_) (fun c63 => ?_)
    · have h := wpos c63 h
      refine Vw.aload_n (pc := 36) (x := x0) K dX9_readsAddress_36 rfl ?_
      refine Vw.iload_n (pc := 37) (x := x2) K dX9_readsAddress_37 rfl ?_
      obtain ⟨g64, h⟩ := wgd h
      obtain ⟨v66, e65, h⟩ := wbd h
      refine Vw.cV1 (pc := 38) (v := .inr (.inl v66)) (c' := 0) (n' := 0) K (s_X9_sign K.tr e65) cal_X9_sign cls7 u_6_150 g64 rfl ⟨by decide, by decide⟩ ⟨by decide, by decide⟩ rfl (Nat.le_of_ble_eq_true rfl) dX9_readsAddress_38 rfl rfl ?_
      refine Vw.ldc2 (pc := 41) (v := (115 : Int64)) K u_6_155 dX9_readsAddress_41 ?_
      refine Vw.lcmp_ne (pc := 44) (tgt := 52) K dX9_readsAddress_44 dX9_readsAddress_45 (by decide) (fun c67 => ?_) (fun c67 => ?_)
      · have h := wneg c67 h
        refine Vw.iconst (pc := 52) (v := (0 : Int32)) K (by decide) dX9_readsAddress_52 ?_
        exact Vw.loc rfl (s_X9_readsAddress_53 K E  h)
      · have h := wpos c67 h
        refine Vw.iconst (pc := 48) (v := (1 : Int32)) K (by decide) dX9_readsAddress_48 ?_
        refine Vw.goto (pc := 49) (tgt := 53) K dX9_readsAddress_49 (by decide) ?_
        exact Vw.loc rfl (s_X9_readsAddress_53 K E  h)
    · have h := wneg c63 h
      refine Vw.aload_n (pc := 9) (x := x0) K dX9_readsAddress_9 rfl ?_
      refine Vw.iload_n (pc := 10) (x := x2) K dX9_readsAddress_10 rfl ?_
      obtain ⟨g68, h⟩ := wgd h
      obtain ⟨v70, e69, h⟩ := wbd h
      refine Vw.cV1 (pc := 11) (v := .inr (.inl v70)) (c' := 0) (n' := 0) K (s_X9_sign K.tr e69) cal_X9_sign cls7 u_6_150 g68 rfl ⟨by decide, by decide⟩ ⟨by decide, by decide⟩ rfl (Nat.le_of_ble_eq_true rfl) dX9_readsAddress_11 rfl rfl ?_
      refine Vw.aload_n (pc := 14) (x := x0) K dX9_readsAddress_14 rfl ?_
      refine Vw.getR (pc := 15) (k := 5) (f := 453) K cls7 rfl rfl u_6_22 g68 dX9_readsAddress_15 ?_
      refine Vw.iload_n (pc := 18) (x := x3) K dX9_readsAddress_18 rfl ?_
      obtain ⟨g71, h⟩ := wgd h
      obtain ⟨g72, h⟩ := wgd h
      refine Vw.caload (pc := 19) K g71 g72 dX9_readsAddress_19 ?_
      refine Vw.i2l (pc := 20) K dX9_readsAddress_20 ?_
      refine Vw.lcmp_eq (pc := 21) (tgt := 27) K dX9_readsAddress_21 dX9_readsAddress_22 (by decide) (fun c73 => ?_) (fun c73 => ?_)
      · have h := wpos c73 h
        refine Vw.iinc (pc := 27) (x := x2) (v := (1 : Int32)) K dX9_readsAddress_27 rfl (by decide) (by decide) ?_
        refine Vw.iinc (pc := 30) (x := x3) (v := (1 : Int32)) K dX9_readsAddress_30 rfl (by decide) (by decide) ?_
        refine Vw.goto (pc := 33) (tgt := 4) K dX9_readsAddress_33 (by decide) ?_
        exact Vw.loc rfl (hr4 _ _ _ h)
      · have h := wneg c73 h
        refine Vw.iload_n (pc := 25) (x := x2) K dX9_readsAddress_25 rfl ?_
        exact Vw.iretH (pc := 26) K h E (by decide) (by decide) dX9_readsAddress_26
def f_X9_readsAddress (A : Hp) (x0 : Nat) (x1 : Int32) : Option (Int32 × Hp) := k_X9_readsAddress_4 x0 x1 FU A (0 : Int32) (0 : Int32)
set_option maxRecDepth 100000 in
theorem s_X9_readsAddress {l : Launch} {g : GT} (hl : l.stackTraces = false) {A : Hp} {x0 : Nat} {x1 : Int32} {r : Int32} {B : Hp} (h : f_X9_readsAddress A x0 x1 = some (r, B)) : MetV l g yX9_readsAddress (.code yX9_readsAddress cX9_readsAddress 7 (some .int)) [.inr (.inr x0), .inl x1] A (.inl (some (.inl r))) B 2 46 0 0 := by
  refine MetV.ofV hl (by decide +kernel) (Nat.le_of_ble_eq_true rfl) (fun κ K E => ?_)
  have K : Cx κ cX9_readsAddress 7 RX9 2 46 0 0 := K
  have E : Ed κ (some .int) "readsAddress" (.inl (some (.inl r))) B 0 0 := E
  unfold f_X9_readsAddress at h
  change Vw κ A 0 0 0 [(0, .inr (.inr x0)), (1, .inl x1)] []
  refine Vw.iconst (pc := 0) (v := (0 : Int32)) K (by decide) dX9_readsAddress_0 ?_
  refine Vw.istore_n (pc := 1) K dX9_readsAddress_1 (by decide) ?_
  refine Vw.iconst (pc := 2) (v := (0 : Int32)) K (by decide) dX9_readsAddress_2 ?_
  refine Vw.istore_n (pc := 3) K dX9_readsAddress_3 (by decide) ?_
  exact Vw.loc rfl (s_X9_readsAddress_4 K E  _ _ _ _ h)
theorem cal_X9_readsAddress : wCalV RX9 yX9_readsAddress (.code yX9_readsAddress cX9_readsAddress 7 (some .int)) 1 := ⟨by decide +kernel, u_6_148, us_3_4, u_1_9, u_6_149⟩
def f_X9_opens (A : Hp) (x0 : Nat) (x1 : Int32) : Option (Int32 × Hp) := if (hsh A x0).1 = 8 then ((f_X9_readsAddress (hsI A 452 x0 0 (0 : Int32)) x0 x1).bind fun p3 => (if p3.1 < (0 : Int32) then if (hsh p3.2 x0).1 = 8 then if (hsh (hsI p3.2 451 x0 0 (0 : Int32)) (hgR (hsI p3.2 451 x0 0 (0 : Int32)) 448 x0 0)).1 = 11 then if wix (x1 + (1 : Int32)) (hsh (hsI p3.2 451 x0 0 (0 : Int32)) (hgR (hsI p3.2 451 x0 0 (0 : Int32)) 448 x0 0)).2 then some ((hgL (hsI p3.2 451 x0 0 (0 : Int32)) 1035 (hgR (hsI p3.2 451 x0 0 (0 : Int32)) 448 x0 0) (x1 + (1 : Int32)).toNatClampNeg).toInt32, (hsI p3.2 451 x0 0 (0 : Int32))) else none else none else none else some (((-1 : Int32) - p3.1), p3.2))) else none
set_option maxRecDepth 100000 in
theorem s_X9_opens {l : Launch} {g : GT} (hl : l.stackTraces = false) {A : Hp} {x0 : Nat} {x1 : Int32} {r : Int32} {B : Hp} (h : f_X9_opens A x0 x1 = some (r, B)) : MetV l g yX9_opens (.code yX9_opens cX9_opens 3 (some .int)) [.inr (.inr x0), .inl x1] A (.inl (some (.inl r))) B 3 72 0 0 := by
  refine MetV.ofV hl (by decide +kernel) (Nat.le_of_ble_eq_true rfl) (fun κ K E => ?_)
  have K : Cx κ cX9_opens 3 RX9 3 72 0 0 := K
  have E : Ed κ (some .int) "opens" (.inl (some (.inl r))) B 0 0 := E
  unfold f_X9_opens at h
  change Vw κ A 0 0 0 [(0, .inr (.inr x0)), (1, .inl x1)] []
  refine Vw.aload_n (pc := 0) (x := x0) K dX9_opens_0 rfl ?_
  refine Vw.iconst (pc := 1) (v := (0 : Int32)) K (by decide) dX9_opens_1 ?_
  obtain ⟨g1, h⟩ := wgd h
  refine Vw.putI (pc := 2) (k := 4) (f := 452) K cls7 rfl rfl u_6_21 g1 (Or.inl rfl) rfl rfl dX9_opens_2 ?_
  refine Vw.aload_n (pc := 5) (x := x0) K dX9_opens_5 rfl ?_
  refine Vw.iload_n (pc := 6) (x := x1) K dX9_opens_6 rfl ?_
  obtain ⟨p3, e2, h⟩ := wbd h
  refine Vw.cV1 (pc := 7) (v := .inl p3.1) (c' := 0) (n' := 0) K (s_X9_readsAddress K.tr e2) cal_X9_readsAddress cls7 u_6_146 g1 rfl ⟨by decide, by decide⟩ ⟨by decide, by decide⟩ rfl (Nat.le_of_ble_eq_true rfl) dX9_opens_7 rfl rfl ?_
  refine Vw.istore_n (pc := 10) K dX9_opens_10 (by decide) ?_
  refine Vw.iload_n (pc := 11) (x := p3.1) K dX9_opens_11 rfl ?_
  refine Vw.if_lt (pc := 12) (tgt := 19) K dX9_opens_12 (by decide) (fun c4 => ?_) (fun c4 => ?_)
  · have h := wpos c4 h
    refine Vw.aload_n (pc := 19) (x := x0) K dX9_opens_19 rfl ?_
    refine Vw.iconst (pc := 20) (v := (0 : Int32)) K (by decide) dX9_opens_20 ?_
    obtain ⟨g5, h⟩ := wgd h
    refine Vw.putI (pc := 21) (k := 3) (f := 451) K cls7 rfl rfl u_6_20 g5 (Or.inl rfl) rfl rfl dX9_opens_21 ?_
    refine Vw.aload_n (pc := 24) (x := x0) K dX9_opens_24 rfl ?_
    refine Vw.getR (pc := 25) (k := 0) (f := 448) K cls7 rfl rfl u_6_17 g5 dX9_opens_25 ?_
    refine Vw.iload_n (pc := 28) (x := x1) K dX9_opens_28 rfl ?_
    refine Vw.iconst (pc := 29) (v := (1 : Int32)) K (by decide) dX9_opens_29 ?_
    refine Vw.iadd (pc := 30) K dX9_opens_30 ?_
    obtain ⟨g6, h⟩ := wgd h
    obtain ⟨g7, h⟩ := wgd h
    refine Vw.laload (pc := 31) K g6 g7 dX9_opens_31 ?_
    refine Vw.l2i (pc := 32) K dX9_opens_32 ?_
    exact Vw.iretH (pc := 33) K h E (by decide) (by decide) dX9_opens_33
  · have h := wneg c4 h
    refine Vw.iconst (pc := 15) (v := (-1 : Int32)) K (by decide) dX9_opens_15 ?_
    refine Vw.iload_n (pc := 16) (x := p3.1) K dX9_opens_16 rfl ?_
    refine Vw.isub (pc := 17) K dX9_opens_17 ?_
    exact Vw.iretH (pc := 18) K h E (by decide) (by decide) dX9_opens_18
theorem cal_X9_opens : wCalV RX9 yX9_opens (.code yX9_opens cX9_opens 3 (some .int)) 1 := ⟨by decide +kernel, u_6_144, us_3_3, u_1_9, u_6_145⟩
def f_X9_openPage (A : Hp) (x0 : Nat) : Option (Int32 × Hp) := if (hsh A x0).1 = 8 then ((f_X9_opens A x0 (20 : Int32)).bind fun p3 => some (p3.1, p3.2)) else none
set_option maxRecDepth 100000 in
theorem s_X9_openPage {l : Launch} {g : GT} (hl : l.stackTraces = false) {A : Hp} {x0 : Nat} {r : Int32} {B : Hp} (h : f_X9_openPage A x0 = some (r, B)) : MetV l g yX9_openPage (.code yX9_openPage cX9_openPage 1 (some .int)) [.inr (.inr x0)] A (.inl (some (.inl r))) B 4 94 0 0 := by
  refine MetV.ofV hl (by decide +kernel) (Nat.le_of_ble_eq_true rfl) (fun κ K E => ?_)
  have K : Cx κ cX9_openPage 1 RX9 4 94 0 0 := K
  have E : Ed κ (some .int) "openPage" (.inl (some (.inl r))) B 0 0 := E
  unfold f_X9_openPage at h
  change Vw κ A 0 0 0 [(0, .inr (.inr x0))] []
  refine Vw.aload_n (pc := 0) (x := x0) K dX9_openPage_0 rfl ?_
  refine Vw.bipush (pc := 1) (v := (20 : Int32)) K (by decide) dX9_openPage_1 ?_
  obtain ⟨g1, h⟩ := wgd h
  obtain ⟨p3, e2, h⟩ := wbd h
  refine Vw.cV1 (pc := 3) (v := .inl p3.1) (c' := 0) (n' := 0) K (s_X9_opens K.tr e2) cal_X9_opens cls7 u_6_142 g1 rfl ⟨by decide, by decide⟩ ⟨by decide, by decide⟩ rfl (Nat.le_of_ble_eq_true rfl) dX9_openPage_3 rfl rfl ?_
  exact Vw.iretH (pc := 6) K h E (by decide) (by decide) dX9_openPage_6
theorem cal_X9_openPage : wCalV RX9 yX9_openPage (.code yX9_openPage cX9_openPage 1 (some .int)) 0 := ⟨by decide +kernel, u_6_139, u_6_140, u_1_9, u_6_141⟩
def f_X9_openRequest (A : Hp) (x0 : Nat) : Option (Int32 × Hp) := if (hsh A x0).1 = 8 then ((f_X9_opens A x0 (100 : Int32)).bind fun p3 => some (p3.1, p3.2)) else none
set_option maxRecDepth 100000 in
theorem s_X9_openRequest {l : Launch} {g : GT} (hl : l.stackTraces = false) {A : Hp} {x0 : Nat} {r : Int32} {B : Hp} (h : f_X9_openRequest A x0 = some (r, B)) : MetV l g yX9_openRequest (.code yX9_openRequest cX9_openRequest 1 (some .int)) [.inr (.inr x0)] A (.inl (some (.inl r))) B 4 94 0 0 := by
  refine MetV.ofV hl (by decide +kernel) (Nat.le_of_ble_eq_true rfl) (fun κ K E => ?_)
  have K : Cx κ cX9_openRequest 1 RX9 4 94 0 0 := K
  have E : Ed κ (some .int) "openRequest" (.inl (some (.inl r))) B 0 0 := E
  unfold f_X9_openRequest at h
  change Vw κ A 0 0 0 [(0, .inr (.inr x0))] []
  refine Vw.aload_n (pc := 0) (x := x0) K dX9_openRequest_0 rfl ?_
  refine Vw.bipush (pc := 1) (v := (100 : Int32)) K (by decide) dX9_openRequest_1 ?_
  obtain ⟨g1, h⟩ := wgd h
  obtain ⟨p3, e2, h⟩ := wbd h
  refine Vw.cV1 (pc := 3) (v := .inl p3.1) (c' := 0) (n' := 0) K (s_X9_opens K.tr e2) cal_X9_opens cls7 u_6_142 g1 rfl ⟨by decide, by decide⟩ ⟨by decide, by decide⟩ rfl (Nat.le_of_ble_eq_true rfl) dX9_openRequest_3 rfl rfl ?_
  exact Vw.iretH (pc := 6) K h E (by decide) (by decide) dX9_openRequest_6
theorem cal_X9_openRequest : wCalV RX9 yX9_openRequest (.code yX9_openRequest cX9_openRequest 1 (some .int)) 0 := ⟨by decide +kernel, u_6_175, u_6_176, u_1_9, u_6_177⟩
def k_X9_isOneSite_59  (A : Hp)   : Option (Int32) := some (1 : Int32)
set_option maxRecDepth 100000 in
theorem s_X9_isOneSite_59 {κ : KT} {r : Int32} {A : Hp}    (K : Cx κ cX9_isOneSite 2 RX9 5 125 0 0) (E : Ed κ (some .boolean) "isOneSite" (.inl (some (.inl r))) A 0 0)  (h : k_X9_isOneSite_59  A   = some r) : Vw κ A 0 0 59 [] [] := by
  unfold k_X9_isOneSite_59 at h
  refine Vw.iconst (pc := 59) (v := (1 : Int32)) K (by decide) dX9_isOneSite_59 ?_
  refine Vw.goto (pc := 60) (tgt := 64) K dX9_isOneSite_60 (by decide) ?_
  exact Vw.zretE (pc := 64) K (Or.inr rfl) (Option.some.inj h) rfl E (by decide) (by decide) dX9_isOneSite_64
def f_X9_isOneSite (A : Hp) (x0 : Nat) : Option (Int32) := if (hsh A x0).1 = 8 then if (hsh A (hgR A 448 x0 0)).1 = 11 then if wix (22 : Int32) (hsh A (hgR A 448 x0 0)).2 then if wix (102 : Int32) (hsh A (hgR A 448 x0 0)).2 then ((f_X9_areOneSite A x0 (24 : Int32) ((hgL A 1035 (hgR A 448 x0 0) (22 : Int32).toNatClampNeg).toInt32) (104 : Int32) ((hgL A 1035 (hgR A 448 x0 0) (102 : Int32).toNatClampNeg).toInt32)).bind fun v6 => if wix (20 : Int32) (hsh A (hgR A 448 x0 0)).2 then (if (hgL A 1035 (hgR A 448 x0 0) (20 : Int32).toNatClampNeg) = (0 : Int64) then k_X9_isOneSite_59 A else (if v6 = (0 : Int32) then some (0 : Int32) else if wix (21 : Int32) (hsh A (hgR A 448 x0 0)).2 then if wix (101 : Int32) (hsh A (hgR A 448 x0 0)).2 then (if (hgL A 1035 (hgR A 448 x0 0) (21 : Int32).toNatClampNeg) = (hgL A 1035 (hgR A 448 x0 0) (101 : Int32).toNatClampNeg) then k_X9_isOneSite_59 A else some (0 : Int32)) else none else none)) else none) else none else none else none else none
set_option maxRecDepth 100000 in
theorem s_X9_isOneSite {l : Launch} {g : GT} (hl : l.stackTraces = false) {A : Hp} {x0 : Nat} {r : Int32} (h : f_X9_isOneSite A x0 = some r) : MetV l g yX9_isOneSite (.code yX9_isOneSite cX9_isOneSite 2 (some .boolean)) [.inr (.inr x0)] A (.inl (some (.inl r))) A 5 125 0 0 := by
  refine MetV.ofV hl (by decide +kernel) (Nat.le_of_ble_eq_true rfl) (fun κ K E => ?_)
  have K : Cx κ cX9_isOneSite 2 RX9 5 125 0 0 := K
  have E : Ed κ (some .boolean) "isOneSite" (.inl (some (.inl r))) A 0 0 := E
  unfold f_X9_isOneSite at h
  change Vw κ A 0 0 0 [(0, .inr (.inr x0))] []
  refine Vw.aload_n (pc := 0) (x := x0) K dX9_isOneSite_0 rfl ?_
  refine Vw.bipush (pc := 1) (v := (24 : Int32)) K (by decide) dX9_isOneSite_1 ?_
  refine Vw.aload_n (pc := 3) (x := x0) K dX9_isOneSite_3 rfl ?_
  obtain ⟨g1, h⟩ := wgd h
  refine Vw.getR (pc := 4) (k := 0) (f := 448) K cls7 rfl rfl u_6_17 g1 dX9_isOneSite_4 ?_
  refine Vw.bipush (pc := 7) (v := (22 : Int32)) K (by decide) dX9_isOneSite_7 ?_
  obtain ⟨g2, h⟩ := wgd h
  obtain ⟨g3, h⟩ := wgd h
  refine Vw.laload (pc := 9) K g2 g3 dX9_isOneSite_9 ?_
  refine Vw.l2i (pc := 10) K dX9_isOneSite_10 ?_
  refine Vw.bipush (pc := 11) (v := (104 : Int32)) K (by decide) dX9_isOneSite_11 ?_
  refine Vw.aload_n (pc := 13) (x := x0) K dX9_isOneSite_13 rfl ?_
  refine Vw.getR (pc := 14) (k := 0) (f := 448) K cls7 rfl rfl u_6_17 g1 dX9_isOneSite_14 ?_
  refine Vw.bipush (pc := 17) (v := (102 : Int32)) K (by decide) dX9_isOneSite_17 ?_
  obtain ⟨g4, h⟩ := wgd h
  refine Vw.laload (pc := 19) K g2 g4 dX9_isOneSite_19 ?_
  refine Vw.l2i (pc := 20) K dX9_isOneSite_20 ?_
  obtain ⟨v6, e5, h⟩ := wbd h
  refine Vw.cV1 (pc := 21) (v := .inl v6) (c' := 0) (n' := 0) K (s_X9_areOneSite K.tr e5) cal_X9_areOneSite cls7 u_6_186 g1 rfl ⟨by decide, by decide⟩ ⟨by decide, by decide⟩ rfl (Nat.le_of_ble_eq_true rfl) dX9_isOneSite_21 rfl rfl ?_
  refine Vw.istore_n (pc := 24) K dX9_isOneSite_24 (by decide) ?_
  refine Vw.aload_n (pc := 25) (x := x0) K dX9_isOneSite_25 rfl ?_
  refine Vw.getR (pc := 26) (k := 0) (f := 448) K cls7 rfl rfl u_6_17 g1 dX9_isOneSite_26 ?_
  refine Vw.bipush (pc := 29) (v := (20 : Int32)) K (by decide) dX9_isOneSite_29 ?_
  obtain ⟨g7, h⟩ := wgd h
  refine Vw.laload (pc := 31) K g2 g7 dX9_isOneSite_31 ?_
  refine Vw.lconst (pc := 32) (v := (0 : Int64)) K (by decide) dX9_isOneSite_32 ?_
  refine Vw.lcmp_eq (pc := 33) (tgt := 59) K dX9_isOneSite_33 dX9_isOneSite_34 (by decide) (fun c8 => ?_) (fun c8 => ?_)
  · have h := wpos c8 h
    exact Vw.loc rfl (s_X9_isOneSite_59 K E  h)
  · have h := wneg c8 h
    refine Vw.iload_n (pc := 37) (x := v6) K dX9_isOneSite_37 rfl ?_
    refine Vw.if_eq (pc := 38) (tgt := 63) K dX9_isOneSite_38 (by decide) (fun c9 => ?_) (fun c9 => ?_)
    · have h := wpos c9 h
      refine Vw.iconst (pc := 63) (v := (0 : Int32)) K (by decide) dX9_isOneSite_63 ?_
      exact Vw.zretE (pc := 64) K (Or.inl rfl) (Option.some.inj h) rfl E (by decide) (by decide) dX9_isOneSite_64
    · have h := wneg c9 h
      refine Vw.aload_n (pc := 41) (x := x0) K dX9_isOneSite_41 rfl ?_
      refine Vw.getR (pc := 42) (k := 0) (f := 448) K cls7 rfl rfl u_6_17 g1 dX9_isOneSite_42 ?_
      refine Vw.bipush (pc := 45) (v := (21 : Int32)) K (by decide) dX9_isOneSite_45 ?_
      obtain ⟨g10, h⟩ := wgd h
      refine Vw.laload (pc := 47) K g2 g10 dX9_isOneSite_47 ?_
      refine Vw.aload_n (pc := 48) (x := x0) K dX9_isOneSite_48 rfl ?_
      refine Vw.getR (pc := 49) (k := 0) (f := 448) K cls7 rfl rfl u_6_17 g1 dX9_isOneSite_49 ?_
      refine Vw.bipush (pc := 52) (v := (101 : Int32)) K (by decide) dX9_isOneSite_52 ?_
      obtain ⟨g11, h⟩ := wgd h
      refine Vw.laload (pc := 54) K g2 g11 dX9_isOneSite_54 ?_
      refine Vw.lcmp_ne (pc := 55) (tgt := 63) K dX9_isOneSite_55 dX9_isOneSite_56 (by decide) (fun c12 => ?_) (fun c12 => ?_)
      · have h := wneg c12 h
        refine Vw.iconst (pc := 63) (v := (0 : Int32)) K (by decide) dX9_isOneSite_63 ?_
        exact Vw.zretE (pc := 64) K (Or.inl rfl) (Option.some.inj h) rfl E (by decide) (by decide) dX9_isOneSite_64
      · have h := wpos c12 h
        exact Vw.loc rfl (s_X9_isOneSite_59 K E  h)
theorem cal_X9_isOneSite : wCalV RX9 yX9_isOneSite (.code yX9_isOneSite cX9_isOneSite 2 (some .boolean)) 0 := ⟨by decide +kernel, u_6_184, us_3_7, u_1_9, u_6_185⟩
def k_X9_isSameSite_18  (A : Hp) (x0 : Nat) (t0 : Nat) (t1 : Int32) : Option (Int32 × Hp) := if (hsh A t0).1 = 8 then if (hsh (hsI A 452 t0 0 t1) x0).1 = 8 then (if (hgI (hsI A 452 t0 0 t1) 452 x0 0) = (0 : Int32) then ((f_X9_isOneSite (hsI A 452 t0 0 t1) x0).bind fun v5 => (if v5 = (0 : Int32) then some ((0 : Int32), (hsI A 452 t0 0 t1)) else some ((1 : Int32), (hsI A 452 t0 0 t1)))) else some ((0 : Int32), (hsI A 452 t0 0 t1))) else none else none
set_option maxRecDepth 100000 in
theorem s_X9_isSameSite_18 {κ : KT} {r : Int32} {B : Hp} {A : Hp} {x0 : Nat} {t0 : Nat} {t1 : Int32}  (K : Cx κ cX9_isSameSite 1 RX9 6 146 0 0) (E : Ed κ (some .boolean) "isSameSite" (.inl (some (.inl r))) B 0 0)  (h : k_X9_isSameSite_18  A x0 t0 t1 = some (r, B)) : Vw κ A 0 0 18 [(0, .inr (.inr x0))] [.inl t1, .inr (.inr t0)] := by
  unfold k_X9_isSameSite_18 at h
  obtain ⟨g1, h⟩ := wgd h
  refine Vw.putI (pc := 18) (k := 4) (f := 452) K cls7 rfl rfl u_6_21 g1 (Or.inl rfl) rfl rfl dX9_isSameSite_18 ?_
  refine Vw.aload_n (pc := 21) (x := x0) K dX9_isSameSite_21 rfl ?_
  obtain ⟨g2, h⟩ := wgd h
  refine Vw.getI (pc := 22) (k := 4) (f := 452) K cls7 rfl rfl u_6_21 g2 dX9_isSameSite_22 ?_
  refine Vw.if_ne (pc := 25) (tgt := 39) K dX9_isSameSite_25 (by decide) (fun c3 => ?_) (fun c3 => ?_)
  · have h := wneg c3 h
    refine Vw.iconst (pc := 39) (v := (0 : Int32)) K (by decide) dX9_isSameSite_39 ?_
    exact Vw.zretH (pc := 40) K (Or.inl rfl) h E (by decide) (by decide) dX9_isSameSite_40
  · have h := wpos c3 h
    refine Vw.aload_n (pc := 28) (x := x0) K dX9_isSameSite_28 rfl ?_
    obtain ⟨v5, e4, h⟩ := wbd h
    refine Vw.cV1 (pc := 29) (v := .inl v5) (c' := 0) (n' := 0) K (s_X9_isOneSite K.tr e4) cal_X9_isOneSite cls7 u_6_182 g2 rfl ⟨by decide, by decide⟩ ⟨by decide, by decide⟩ rfl (Nat.le_of_ble_eq_true rfl) dX9_isSameSite_29 rfl rfl ?_
    refine Vw.if_eq (pc := 32) (tgt := 39) K dX9_isSameSite_32 (by decide) (fun c6 => ?_) (fun c6 => ?_)
    · have h := wpos c6 h
      refine Vw.iconst (pc := 39) (v := (0 : Int32)) K (by decide) dX9_isSameSite_39 ?_
      exact Vw.zretH (pc := 40) K (Or.inl rfl) h E (by decide) (by decide) dX9_isSameSite_40
    · have h := wneg c6 h
      refine Vw.iconst (pc := 35) (v := (1 : Int32)) K (by decide) dX9_isSameSite_35 ?_
      refine Vw.goto (pc := 36) (tgt := 40) K dX9_isSameSite_36 (by decide) ?_
      exact Vw.zretH (pc := 40) K (Or.inr rfl) h E (by decide) (by decide) dX9_isSameSite_40
def f_X9_isSameSite (A : Hp) (x0 : Nat) : Option (Int32 × Hp) := if (hsh A x0).1 = 8 then if (hsh A (hgR A 448 x0 0)).1 = 11 then if wix (100 : Int32) (hsh A (hgR A 448 x0 0)).2 then (if (hgL A 1035 (hgR A 448 x0 0) (100 : Int32).toNatClampNeg) = (0 : Int64) then k_X9_isSameSite_18 A x0 x0 (1 : Int32) else k_X9_isSameSite_18 A x0 x0 (0 : Int32)) else none else none else none
set_option maxRecDepth 100000 in
theorem s_X9_isSameSite {l : Launch} {g : GT} (hl : l.stackTraces = false) {A : Hp} {x0 : Nat} {r : Int32} {B : Hp} (h : f_X9_isSameSite A x0 = some (r, B)) : MetV l g yX9_isSameSite (.code yX9_isSameSite cX9_isSameSite 1 (some .boolean)) [.inr (.inr x0)] A (.inl (some (.inl r))) B 6 146 0 0 := by
  refine MetV.ofV hl (by decide +kernel) (Nat.le_of_ble_eq_true rfl) (fun κ K E => ?_)
  have K : Cx κ cX9_isSameSite 1 RX9 6 146 0 0 := K
  have E : Ed κ (some .boolean) "isSameSite" (.inl (some (.inl r))) B 0 0 := E
  unfold f_X9_isSameSite at h
  change Vw κ A 0 0 0 [(0, .inr (.inr x0))] []
  refine Vw.aload_n (pc := 0) (x := x0) K dX9_isSameSite_0 rfl ?_
  refine Vw.aload_n (pc := 1) (x := x0) K dX9_isSameSite_1 rfl ?_
  obtain ⟨g7, h⟩ := wgd h
  refine Vw.getR (pc := 2) (k := 0) (f := 448) K cls7 rfl rfl u_6_17 g7 dX9_isSameSite_2 ?_
  refine Vw.bipush (pc := 5) (v := (100 : Int32)) K (by decide) dX9_isSameSite_5 ?_
  obtain ⟨g8, h⟩ := wgd h
  obtain ⟨g9, h⟩ := wgd h
  refine Vw.laload (pc := 7) K g8 g9 dX9_isSameSite_7 ?_
  refine Vw.lconst (pc := 8) (v := (0 : Int64)) K (by decide) dX9_isSameSite_8 ?_
  refine Vw.lcmp_ne (pc := 9) (tgt := 17) K dX9_isSameSite_9 dX9_isSameSite_10 (by decide) (fun c10 => ?_) (fun c10 => ?_)
  · have h := wneg c10 h
    refine Vw.iconst (pc := 17) (v := (0 : Int32)) K (by decide) dX9_isSameSite_17 ?_
    exact Vw.loc rfl (s_X9_isSameSite_18 K E  h)
  · have h := wpos c10 h
    refine Vw.iconst (pc := 13) (v := (1 : Int32)) K (by decide) dX9_isSameSite_13 ?_
    refine Vw.goto (pc := 14) (tgt := 18) K dX9_isSameSite_14 (by decide) ?_
    exact Vw.loc rfl (s_X9_isSameSite_18 K E  h)
theorem cal_X9_isSameSite : wCalV RX9 yX9_isSameSite (.code yX9_isSameSite cX9_isSameSite 1 (some .boolean)) 0 := ⟨by decide +kernel, u_6_179, u_6_180, u_1_9, u_6_181⟩
def f_X9_hostLong (A : Hp) (x0 : Nat) : Option (Int32) := if (hsh A x0).1 = 8 then if (hsh A (hgR A 448 x0 0)).1 = 11 then if wix (102 : Int32) (hsh A (hgR A 448 x0 0)).2 then some ((hgL A 1035 (hgR A 448 x0 0) (102 : Int32).toNatClampNeg).toInt32) else none else none else none
set_option maxRecDepth 100000 in
theorem s_X9_hostLong {l : Launch} {g : GT} (hl : l.stackTraces = false) {A : Hp} {x0 : Nat} {r : Int32} (h : f_X9_hostLong A x0 = some r) : MetV l g yX9_hostLong (.code yX9_hostLong cX9_hostLong 1 (some .int)) [.inr (.inr x0)] A (.inl (some (.inl r))) A 0 0 0 0 := by
  refine MetV.ofV hl (by decide +kernel) (Nat.le_of_ble_eq_true rfl) (fun κ K E => ?_)
  have K : Cx κ cX9_hostLong 1 RX9 0 0 0 0 := K
  have E : Ed κ (some .int) "hostLong" (.inl (some (.inl r))) A 0 0 := E
  unfold f_X9_hostLong at h
  change Vw κ A 0 0 0 [(0, .inr (.inr x0))] []
  refine Vw.aload_n (pc := 0) (x := x0) K dX9_hostLong_0 rfl ?_
  obtain ⟨g1, h⟩ := wgd h
  refine Vw.getR (pc := 1) (k := 0) (f := 448) K cls7 rfl rfl u_6_17 g1 dX9_hostLong_1 ?_
  refine Vw.bipush (pc := 4) (v := (102 : Int32)) K (by decide) dX9_hostLong_4 ?_
  obtain ⟨g2, h⟩ := wgd h
  obtain ⟨g3, h⟩ := wgd h
  refine Vw.laload (pc := 6) K g2 g3 dX9_hostLong_6 ?_
  refine Vw.l2i (pc := 7) K dX9_hostLong_7 ?_
  exact Vw.iretE (pc := 8) K (Option.some.inj h) rfl E (by decide) (by decide) dX9_hostLong_8
theorem cal_X9_hostLong : wCalV RX9 yX9_hostLong (.code yX9_hostLong cX9_hostLong 1 (some .int)) 0 := ⟨by decide +kernel, u_6_220, us_3_15, u_1_9, u_6_221⟩
def f_X9_siteChar (A : Hp) (x0 : Nat) (x1 : Int32) : Option (Int32 × Hp) := if (hsh A x0).1 = 8 then if (hsh (hsI A 452 x0 0 (0 : Int32)) (hgR (hsI A 452 x0 0 (0 : Int32)) 448 x0 0)).1 = 11 then if wix (100 : Int32) (hsh (hsI A 452 x0 0 (0 : Int32)) (hgR (hsI A 452 x0 0 (0 : Int32)) 448 x0 0)).2 then (if (hgL (hsI A 452 x0 0 (0 : Int32)) 1035 (hgR (hsI A 452 x0 0 (0 : Int32)) 448 x0 0) (100 : Int32).toNatClampNeg) = (0 : Int64) then ((f_X9_fails (hsI A 452 x0 0 (0 : Int32)) x0 (1 : Int32)).bind fun p17 => some (p17.1, p17.2)) else (if (0 : Int32) ≤ x1 then ((f_X9_hostLong (hsI A 452 x0 0 (0 : Int32)) x0).bind fun v7 => ((f_X9_siteFrom (hsI A 452 x0 0 (0 : Int32)) x0 (104 : Int32) v7).bind fun v9 => ((f_X9_hostLong (hsI A 452 x0 0 (0 : Int32)) x0).bind fun v11 => (if (v11 - v9) ≤ x1 then some ((-1 : Int32), (hsI A 452 x0 0 (0 : Int32))) else if wix (((104 : Int32) + v9) + x1) (hsh (hsI A 452 x0 0 (0 : Int32)) (hgR (hsI A 452 x0 0 (0 : Int32)) 448 x0 0)).2 then some ((hgL (hsI A 452 x0 0 (0 : Int32)) 1035 (hgR (hsI A 452 x0 0 (0 : Int32)) 448 x0 0) (((104 : Int32) + v9) + x1).toNatClampNeg).toInt32, (hsI A 452 x0 0 (0 : Int32))) else none)))) else ((f_X9_fails (hsI A 452 x0 0 (0 : Int32)) x0 (2 : Int32)).bind fun p15 => some (p15.1, p15.2)))) else none else none else none
set_option maxRecDepth 100000 in
theorem s_X9_siteChar {l : Launch} {g : GT} (hl : l.stackTraces = false) {A : Hp} {x0 : Nat} {x1 : Int32} {r : Int32} {B : Hp} (h : f_X9_siteChar A x0 x1 = some (r, B)) : MetV l g yX9_siteChar (.code yX9_siteChar cX9_siteChar 3 (some .int)) [.inr (.inr x0), .inl x1] A (.inl (some (.inl r))) B 4 99 0 0 := by
  refine MetV.ofV hl (by decide +kernel) (Nat.le_of_ble_eq_true rfl) (fun κ K E => ?_)
  have K : Cx κ cX9_siteChar 3 RX9 4 99 0 0 := K
  have E : Ed κ (some .int) "siteChar" (.inl (some (.inl r))) B 0 0 := E
  unfold f_X9_siteChar at h
  change Vw κ A 0 0 0 [(0, .inr (.inr x0)), (1, .inl x1)] []
  refine Vw.aload_n (pc := 0) (x := x0) K dX9_siteChar_0 rfl ?_
  refine Vw.iconst (pc := 1) (v := (0 : Int32)) K (by decide) dX9_siteChar_1 ?_
  obtain ⟨g1, h⟩ := wgd h
  refine Vw.putI (pc := 2) (k := 4) (f := 452) K cls7 rfl rfl u_6_21 g1 (Or.inl rfl) rfl rfl dX9_siteChar_2 ?_
  refine Vw.aload_n (pc := 5) (x := x0) K dX9_siteChar_5 rfl ?_
  refine Vw.getR (pc := 6) (k := 0) (f := 448) K cls7 rfl rfl u_6_17 g1 dX9_siteChar_6 ?_
  refine Vw.bipush (pc := 9) (v := (100 : Int32)) K (by decide) dX9_siteChar_9 ?_
  obtain ⟨g2, h⟩ := wgd h
  obtain ⟨g3, h⟩ := wgd h
  refine Vw.laload (pc := 11) K g2 g3 dX9_siteChar_11 ?_
  refine Vw.lconst (pc := 12) (v := (0 : Int64)) K (by decide) dX9_siteChar_12 ?_
  refine Vw.lcmp_ne (pc := 13) (tgt := 23) K dX9_siteChar_13 dX9_siteChar_14 (by decide) (fun c4 => ?_) (fun c4 => ?_)
  · have h := wneg c4 h
    refine Vw.iload_n (pc := 23) (x := x1) K dX9_siteChar_23 rfl ?_
    refine Vw.if_ge (pc := 24) (tgt := 33) K dX9_siteChar_24 (by decide) (fun c5 => ?_) (fun c5 => ?_)
    · have h := wpos c5 h
      refine Vw.aload_n (pc := 33) (x := x0) K dX9_siteChar_33 rfl ?_
      refine Vw.bipush (pc := 34) (v := (104 : Int32)) K (by decide) dX9_siteChar_34 ?_
      refine Vw.aload_n (pc := 36) (x := x0) K dX9_siteChar_36 rfl ?_
      obtain ⟨v7, e6, h⟩ := wbd h
      refine Vw.cV1 (pc := 37) (v := .inl v7) (c' := 0) (n' := 0) K (s_X9_hostLong K.tr e6) cal_X9_hostLong cls7 u_6_218 g1 rfl ⟨by decide, by decide⟩ ⟨by decide, by decide⟩ rfl (Nat.le_of_ble_eq_true rfl) dX9_siteChar_37 rfl rfl ?_
      obtain ⟨v9, e8, h⟩ := wbd h
      refine Vw.cV1 (pc := 40) (v := .inl v9) (c' := 0) (n' := 0) K (s_X9_siteFrom K.tr e8) cal_X9_siteFrom cls7 u_6_190 g1 rfl ⟨by decide, by decide⟩ ⟨by decide, by decide⟩ rfl (Nat.le_of_ble_eq_true rfl) dX9_siteChar_40 rfl rfl ?_
      refine Vw.istore_n (pc := 43) K dX9_siteChar_43 (by decide) ?_
      refine Vw.iload_n (pc := 44) (x := x1) K dX9_siteChar_44 rfl ?_
      refine Vw.aload_n (pc := 45) (x := x0) K dX9_siteChar_45 rfl ?_
      obtain ⟨v11, e10, h⟩ := wbd h
      refine Vw.cV1 (pc := 46) (v := .inl v11) (c' := 0) (n' := 0) K (s_X9_hostLong K.tr e10) cal_X9_hostLong cls7 u_6_218 g1 rfl ⟨by decide, by decide⟩ ⟨by decide, by decide⟩ rfl (Nat.le_of_ble_eq_true rfl) dX9_siteChar_46 rfl rfl ?_
      refine Vw.iload_n (pc := 49) (x := v9) K dX9_siteChar_49 rfl ?_
      refine Vw.isub (pc := 50) K dX9_siteChar_50 ?_
      refine Vw.icmp_ge (pc := 51) (tgt := 69) K dX9_siteChar_51 (by decide) (fun c12 => ?_) (fun c12 => ?_)
      · have h := wpos c12 h
        refine Vw.iconst (pc := 69) (v := (-1 : Int32)) K (by decide) dX9_siteChar_69 ?_
        exact Vw.iretH (pc := 70) K h E (by decide) (by decide) dX9_siteChar_70
      · have h := wneg c12 h
        refine Vw.aload_n (pc := 54) (x := x0) K dX9_siteChar_54 rfl ?_
        refine Vw.getR (pc := 55) (k := 0) (f := 448) K cls7 rfl rfl u_6_17 g1 dX9_siteChar_55 ?_
        refine Vw.bipush (pc := 58) (v := (104 : Int32)) K (by decide) dX9_siteChar_58 ?_
        refine Vw.iload_n (pc := 60) (x := v9) K dX9_siteChar_60 rfl ?_
        refine Vw.iadd (pc := 61) K dX9_siteChar_61 ?_
        refine Vw.iload_n (pc := 62) (x := x1) K dX9_siteChar_62 rfl ?_
        refine Vw.iadd (pc := 63) K dX9_siteChar_63 ?_
        obtain ⟨g13, h⟩ := wgd h
        refine Vw.laload (pc := 64) K g2 g13 dX9_siteChar_64 ?_
        refine Vw.l2i (pc := 65) K dX9_siteChar_65 ?_
        refine Vw.goto (pc := 66) (tgt := 70) K dX9_siteChar_66 (by decide) ?_
        exact Vw.iretH (pc := 70) K h E (by decide) (by decide) dX9_siteChar_70
    · have h := wneg c5 h
      refine Vw.aload_n (pc := 27) (x := x0) K dX9_siteChar_27 rfl ?_
      refine Vw.iconst (pc := 28) (v := (2 : Int32)) K (by decide) dX9_siteChar_28 ?_
      obtain ⟨p15, e14, h⟩ := wbd h
      refine Vw.cV1 (pc := 29) (v := .inl p15.1) (c' := 0) (n' := 0) K (s_X9_fails K.tr e14) cal_X9_fails cls7 u_6_214 g1 rfl ⟨by decide, by decide⟩ ⟨by decide, by decide⟩ rfl (Nat.le_of_ble_eq_true rfl) dX9_siteChar_29 rfl rfl ?_
      exact Vw.iretH (pc := 32) K h E (by decide) (by decide) dX9_siteChar_32
  · have h := wpos c4 h
    refine Vw.aload_n (pc := 17) (x := x0) K dX9_siteChar_17 rfl ?_
    refine Vw.iconst (pc := 18) (v := (1 : Int32)) K (by decide) dX9_siteChar_18 ?_
    obtain ⟨p17, e16, h⟩ := wbd h
    refine Vw.cV1 (pc := 19) (v := .inl p17.1) (c' := 0) (n' := 0) K (s_X9_fails K.tr e16) cal_X9_fails cls7 u_6_214 g1 rfl ⟨by decide, by decide⟩ ⟨by decide, by decide⟩ rfl (Nat.le_of_ble_eq_true rfl) dX9_siteChar_19 rfl rfl ?_
    exact Vw.iretH (pc := 22) K h E (by decide) (by decide) dX9_siteChar_22
theorem cal_X9_siteChar : wCalV RX9 yX9_siteChar (.code yX9_siteChar cX9_siteChar 3 (some .int)) 1 := ⟨by decide +kernel, u_6_211, u_6_212, u_1_9, u_6_213⟩
def f_X9_type (A : Hp) (x0 : Nat) (x1 : Int32) : Option (Int32 × Hp) := if (hsh A x0).1 = 8 then ((f_X9_in (hsI A 452 x0 0 (0 : Int32)) x1.toInt64 (32 : Int64) (126 : Int64)).bind fun v3 => (if v3 = (0 : Int32) then ((f_X9_fails (hsI A 452 x0 0 (0 : Int32)) x0 (1 : Int32)).bind fun p11 => some (p11.1, p11.2)) else (if (hgI (hsI A 452 x0 0 (0 : Int32)) 451 x0 0) = (160 : Int32) then ((f_X9_fails (hsI A 452 x0 0 (0 : Int32)) x0 (2 : Int32)).bind fun p9 => some (p9.1, p9.2)) else if (hsh (hsI A 452 x0 0 (0 : Int32)) (hgR (hsI A 452 x0 0 (0 : Int32)) 448 x0 0)).1 = 11 then if wix ((8400 : Int32) + (hgI (hsI A 452 x0 0 (0 : Int32)) 451 x0 0)) (hsh (hsI A 452 x0 0 (0 : Int32)) (hgR (hsI A 452 x0 0 (0 : Int32)) 448 x0 0)).2 then some ((hgI (hsI (hsL (hsI A 452 x0 0 (0 : Int32)) 1035 (hgR (hsI A 452 x0 0 (0 : Int32)) 448 x0 0) ((8400 : Int32) + (hgI (hsI A 452 x0 0 (0 : Int32)) 451 x0 0)).toNatClampNeg x1.toInt64) 451 x0 0 ((hgI (hsL (hsI A 452 x0 0 (0 : Int32)) 1035 (hgR (hsI A 452 x0 0 (0 : Int32)) 448 x0 0) ((8400 : Int32) + (hgI (hsI A 452 x0 0 (0 : Int32)) 451 x0 0)).toNatClampNeg x1.toInt64) 451 x0 0) + (1 : Int32))) 451 x0 0), (hsI (hsL (hsI A 452 x0 0 (0 : Int32)) 1035 (hgR (hsI A 452 x0 0 (0 : Int32)) 448 x0 0) ((8400 : Int32) + (hgI (hsI A 452 x0 0 (0 : Int32)) 451 x0 0)).toNatClampNeg x1.toInt64) 451 x0 0 ((hgI (hsL (hsI A 452 x0 0 (0 : Int32)) 1035 (hgR (hsI A 452 x0 0 (0 : Int32)) 448 x0 0) ((8400 : Int32) + (hgI (hsI A 452 x0 0 (0 : Int32)) 451 x0 0)).toNatClampNeg x1.toInt64) 451 x0 0) + (1 : Int32)))) else none else none))) else none
set_option maxRecDepth 100000 in
theorem s_X9_type {l : Launch} {g : GT} (hl : l.stackTraces = false) {A : Hp} {x0 : Nat} {x1 : Int32} {r : Int32} {B : Hp} (h : f_X9_type A x0 x1 = some (r, B)) : MetV l g yX9_type (.code yX9_type cX9_type 2 (some .int)) [.inr (.inr x0), .inl x1] A (.inl (some (.inl r))) B 1 25 0 0 := by
  refine MetV.ofV hl (by decide +kernel) (Nat.le_of_ble_eq_true rfl) (fun κ K E => ?_)
  have K : Cx κ cX9_type 2 RX9 1 25 0 0 := K
  have E : Ed κ (some .int) "type" (.inl (some (.inl r))) B 0 0 := E
  unfold f_X9_type at h
  change Vw κ A 0 0 0 [(0, .inr (.inr x0)), (1, .inl x1)] []
  refine Vw.aload_n (pc := 0) (x := x0) K dX9_type_0 rfl ?_
  refine Vw.iconst (pc := 1) (v := (0 : Int32)) K (by decide) dX9_type_1 ?_
  obtain ⟨g1, h⟩ := wgd h
  refine Vw.putI (pc := 2) (k := 4) (f := 452) K cls7 rfl rfl u_6_21 g1 (Or.inl rfl) rfl rfl dX9_type_2 ?_
  refine Vw.iload_n (pc := 5) (x := x1) K dX9_type_5 rfl ?_
  refine Vw.i2l (pc := 6) K dX9_type_6 ?_
  refine Vw.ldc2 (pc := 7) (v := (32 : Int64)) K u_6_226 dX9_type_7 ?_
  refine Vw.ldc2 (pc := 10) (v := (126 : Int64)) K u_6_227 dX9_type_10 ?_
  obtain ⟨v3, e2, h⟩ := wbd h
  refine Vw.cS1 (pc := 13) (v := .inl v3) (c' := 0) (n' := 0) K (s_X9_in K.tr e2) cal_X9_in u_6_161 rfl ⟨by decide, by decide⟩ ⟨by decide, by decide⟩ rfl (Nat.le_of_ble_eq_true rfl) dX9_type_13 rfl rfl ?_
  refine Vw.if_ne (pc := 16) (tgt := 25) K dX9_type_16 (by decide) (fun c4 => ?_) (fun c4 => ?_)
  · have h := wneg c4 h
    refine Vw.aload_n (pc := 25) (x := x0) K dX9_type_25 rfl ?_
    refine Vw.getI (pc := 26) (k := 3) (f := 451) K cls7 rfl rfl u_6_20 g1 dX9_type_26 ?_
    refine Vw.sipush (pc := 29) (v := (160 : Int32)) K (by decide) dX9_type_29 ?_
    refine Vw.icmp_ne (pc := 32) (tgt := 41) K dX9_type_32 (by decide) (fun c5 => ?_) (fun c5 => ?_)
    · have h := wneg c5 h
      refine Vw.aload_n (pc := 41) (x := x0) K dX9_type_41 rfl ?_
      refine Vw.getR (pc := 42) (k := 0) (f := 448) K cls7 rfl rfl u_6_17 g1 dX9_type_42 ?_
      refine Vw.sipush (pc := 45) (v := (8400 : Int32)) K (by decide) dX9_type_45 ?_
      refine Vw.aload_n (pc := 48) (x := x0) K dX9_type_48 rfl ?_
      refine Vw.getI (pc := 49) (k := 3) (f := 451) K cls7 rfl rfl u_6_20 g1 dX9_type_49 ?_
      refine Vw.iadd (pc := 52) K dX9_type_52 ?_
      refine Vw.iload_n (pc := 53) (x := x1) K dX9_type_53 rfl ?_
      refine Vw.i2l (pc := 54) K dX9_type_54 ?_
      obtain ⟨g6, h⟩ := wgd h
      obtain ⟨g7, h⟩ := wgd h
      refine Vw.lastore (pc := 55) K g6 g7 dX9_type_55 ?_
      refine Vw.aload_n (pc := 56) (x := x0) K dX9_type_56 rfl ?_
      refine Vw.dup (pc := 57) K rfl dX9_type_57 ?_
      refine Vw.getI (pc := 58) (k := 3) (f := 451) K cls7 rfl rfl u_6_20 g1 dX9_type_58 ?_
      refine Vw.iconst (pc := 61) (v := (1 : Int32)) K (by decide) dX9_type_61 ?_
      refine Vw.iadd (pc := 62) K dX9_type_62 ?_
      refine Vw.putI (pc := 63) (k := 3) (f := 451) K cls7 rfl rfl u_6_20 g1 (Or.inl rfl) rfl rfl dX9_type_63 ?_
      refine Vw.aload_n (pc := 66) (x := x0) K dX9_type_66 rfl ?_
      refine Vw.getI (pc := 67) (k := 3) (f := 451) K cls7 rfl rfl u_6_20 g1 dX9_type_67 ?_
      exact Vw.iretH (pc := 70) K h E (by decide) (by decide) dX9_type_70
    · have h := wpos c5 h
      refine Vw.aload_n (pc := 35) (x := x0) K dX9_type_35 rfl ?_
      refine Vw.iconst (pc := 36) (v := (2 : Int32)) K (by decide) dX9_type_36 ?_
      obtain ⟨p9, e8, h⟩ := wbd h
      refine Vw.cV1 (pc := 37) (v := .inl p9.1) (c' := 0) (n' := 0) K (s_X9_fails K.tr e8) cal_X9_fails cls7 u_6_214 g1 rfl ⟨by decide, by decide⟩ ⟨by decide, by decide⟩ rfl (Nat.le_of_ble_eq_true rfl) dX9_type_37 rfl rfl ?_
      exact Vw.iretH (pc := 40) K h E (by decide) (by decide) dX9_type_40
  · have h := wpos c4 h
    refine Vw.aload_n (pc := 19) (x := x0) K dX9_type_19 rfl ?_
    refine Vw.iconst (pc := 20) (v := (1 : Int32)) K (by decide) dX9_type_20 ?_
    obtain ⟨p11, e10, h⟩ := wbd h
    refine Vw.cV1 (pc := 21) (v := .inl p11.1) (c' := 0) (n' := 0) K (s_X9_fails K.tr e10) cal_X9_fails cls7 u_6_214 g1 rfl ⟨by decide, by decide⟩ ⟨by decide, by decide⟩ rfl (Nat.le_of_ble_eq_true rfl) dX9_type_21 rfl rfl ?_
    exact Vw.iretH (pc := 24) K h E (by decide) (by decide) dX9_type_24
theorem cal_X9_type : wCalV RX9 yX9_type (.code yX9_type cX9_type 2 (some .int)) 1 := ⟨by decide +kernel, u_6_223, u_6_224, u_1_9, u_6_225⟩
def f_X9_clearText (A : Hp) (x0 : Nat) : Option (Int32 × Hp) := if (hsh A x0).1 = 8 then some ((hgI (hsI A 452 x0 0 (0 : Int32)) 451 x0 0), (hsI (hsI A 452 x0 0 (0 : Int32)) 451 x0 0 (0 : Int32))) else none
set_option maxRecDepth 100000 in
theorem s_X9_clearText {l : Launch} {g : GT} (hl : l.stackTraces = false) {A : Hp} {x0 : Nat} {r : Int32} {B : Hp} (h : f_X9_clearText A x0 = some (r, B)) : MetV l g yX9_clearText (.code yX9_clearText cX9_clearText 2 (some .int)) [.inr (.inr x0)] A (.inl (some (.inl r))) B 0 0 0 0 := by
  refine MetV.ofV hl (by decide +kernel) (Nat.le_of_ble_eq_true rfl) (fun κ K E => ?_)
  have K : Cx κ cX9_clearText 2 RX9 0 0 0 0 := K
  have E : Ed κ (some .int) "clearText" (.inl (some (.inl r))) B 0 0 := E
  unfold f_X9_clearText at h
  change Vw κ A 0 0 0 [(0, .inr (.inr x0))] []
  refine Vw.aload_n (pc := 0) (x := x0) K dX9_clearText_0 rfl ?_
  refine Vw.iconst (pc := 1) (v := (0 : Int32)) K (by decide) dX9_clearText_1 ?_
  obtain ⟨g1, h⟩ := wgd h
  refine Vw.putI (pc := 2) (k := 4) (f := 452) K cls7 rfl rfl u_6_21 g1 (Or.inl rfl) rfl rfl dX9_clearText_2 ?_
  refine Vw.aload_n (pc := 5) (x := x0) K dX9_clearText_5 rfl ?_
  refine Vw.getI (pc := 6) (k := 3) (f := 451) K cls7 rfl rfl u_6_20 g1 dX9_clearText_6 ?_
  refine Vw.istore_n (pc := 9) K dX9_clearText_9 (by decide) ?_
  refine Vw.aload_n (pc := 10) (x := x0) K dX9_clearText_10 rfl ?_
  refine Vw.iconst (pc := 11) (v := (0 : Int32)) K (by decide) dX9_clearText_11 ?_
  refine Vw.putI (pc := 12) (k := 3) (f := 451) K cls7 rfl rfl u_6_20 g1 (Or.inl rfl) rfl rfl dX9_clearText_12 ?_
  refine Vw.iload_n (pc := 15) (x := (hgI (hsI A 452 x0 0 (0 : Int32)) 451 x0 0)) K dX9_clearText_15 rfl ?_
  exact Vw.iretH (pc := 16) K h E (by decide) (by decide) dX9_clearText_16
theorem cal_X9_clearText : wCalV RX9 yX9_clearText (.code yX9_clearText cX9_clearText 2 (some .int)) 0 := ⟨by decide +kernel, u_6_229, u_6_230, u_1_9, u_6_231⟩
def k_X9_addSuffix_74 (rec19 : Hp → Int32 → Int32 → Option (Int32 × Hp)) (A : Hp) (x0 : Nat) (x2 : Int32) (t0 : Int32) : Option (Int32 × Hp) := rec19 A t0 (x2 + (1 : Int32))
set_option maxRecDepth 100000 in
theorem s_X9_addSuffix_74 {κ : KT} {r : Int32} {B : Hp} {A : Hp} {x0 : Nat} {x2 : Int32} {t0 : Int32} {rec19 : Hp → Int32 → Int32 → Option (Int32 × Hp)} (K : Cx κ cX9_addSuffix 4 RX9 3 71 0 0) (E : Ed κ (some .int) "addSuffix" (.inl (some (.inl r))) B 0 0) (hr19 : ∀ (A : Hp) (x1 : Int32) (x2 : Int32), rec19 A x1 x2 = some (r, B) → Vw κ A 0 0 19 [(0, .inr (.inr x0)), (1, .inl x1), (2, .inl x2)] []) (h : k_X9_addSuffix_74 rec19 A x0 x2 t0 = some (r, B)) : Vw κ A 0 0 74 [(0, .inr (.inr x0)), (2, .inl x2)] [.inl t0] := by
  unfold k_X9_addSuffix_74 at h
  refine Vw.istore_n (pc := 74) K dX9_addSuffix_74 (by decide) ?_
  refine Vw.iinc (pc := 75) (x := x2) (v := (1 : Int32)) K dX9_addSuffix_75 rfl (by decide) (by decide) ?_
  refine Vw.goto (pc := 78) (tgt := 19) K dX9_addSuffix_78 (by decide) ?_
  exact Vw.loc rfl (hr19 _ _ _ h)
def k_X9_addSuffix_73 (rec19 : Hp → Int32 → Int32 → Option (Int32 × Hp)) (A : Hp) (x0 : Nat) (x2 : Int32)  : Option (Int32 × Hp) := k_X9_addSuffix_74 rec19 A x0 x2 (0 : Int32)
set_option maxRecDepth 100000 in
theorem s_X9_addSuffix_73 {κ : KT} {r : Int32} {B : Hp} {A : Hp} {x0 : Nat} {x2 : Int32}  {rec19 : Hp → Int32 → Int32 → Option (Int32 × Hp)} (K : Cx κ cX9_addSuffix 4 RX9 3 71 0 0) (E : Ed κ (some .int) "addSuffix" (.inl (some (.inl r))) B 0 0) (hr19 : ∀ (A : Hp) (x1 : Int32) (x2 : Int32), rec19 A x1 x2 = some (r, B) → Vw κ A 0 0 19 [(0, .inr (.inr x0)), (1, .inl x1), (2, .inl x2)] []) (h : k_X9_addSuffix_73 rec19 A x0 x2  = some (r, B)) : Vw κ A 0 0 73 [(0, .inr (.inr x0)), (2, .inl x2)] [] := by
  unfold k_X9_addSuffix_73 at h
  refine Vw.iconst (pc := 73) (v := (0 : Int32)) K (by decide) dX9_addSuffix_73 ?_
  exact Vw.loc rfl (s_X9_addSuffix_74 K E hr19 h)
def k_X9_addSuffix_19s  (x0 : Nat)  (rec19 : Hp → Int32 → Int32 → Option (Int32 × Hp)) (A : Hp) (x1 : Int32) (x2 : Int32) : Option (Int32 × Hp) := if (hsh A x0).1 = 8 then if (hsh A (hgR A 448 x0 0)).1 = 11 then if wix (6 : Int32) (hsh A (hgR A 448 x0 0)).2 then (if (hgL A 1035 (hgR A 448 x0 0) (6 : Int32).toNatClampNeg) ≤ x2.toInt64 then (if x1 = (0 : Int32) then ((f_X9_fails A x0 (1 : Int32)).bind fun p18 => some (p18.1, p18.2)) else (if (hgL A 1035 (hgR A 448 x0 0) (6 : Int32).toNatClampNeg) = (6 : Int64) then ((f_X9_fails A x0 (2 : Int32)).bind fun p16 => some (p16.1, p16.2)) else if wix ((180 : Int32) + ((32 : Int32) * ((hgL A 1035 (hgR A 448 x0 0) (6 : Int32).toNatClampNeg).toInt32))) (hsh A (hgR A 448 x0 0)).2 then ((f_X9_copies (hsL A 1035 (hgR A 448 x0 0) ((180 : Int32) + ((32 : Int32) * ((hgL A 1035 (hgR A 448 x0 0) (6 : Int32).toNatClampNeg).toInt32))).toNatClampNeg ((hgI A 451 x0 0).toInt64)) x0 (8400 : Int32) (hgI (hsL A 1035 (hgR A 448 x0 0) ((180 : Int32) + ((32 : Int32) * ((hgL A 1035 (hgR A 448 x0 0) (6 : Int32).toNatClampNeg).toInt32))).toNatClampNeg ((hgI A 451 x0 0).toInt64)) 451 x0 0) (((180 : Int32) + ((32 : Int32) * ((hgL A 1035 (hgR A 448 x0 0) (6 : Int32).toNatClampNeg).toInt32))) + (1 : Int32))).bind fun A9 => if (hsh A9 x0).1 = 8 then if (hsh A9 (hgR A9 448 x0 0)).1 = 11 then if wix (6 : Int32) (hsh A9 (hgR A9 448 x0 0)).2 then if (hsh (hsI (hsL A9 1035 (hgR A9 448 x0 0) (6 : Int32).toNatClampNeg ((hgL A9 1035 (hgR A9 448 x0 0) (6 : Int32).toNatClampNeg) + (1 : Int64))) 451 x0 0 (0 : Int32)) (hgR (hsI (hsL A9 1035 (hgR A9 448 x0 0) (6 : Int32).toNatClampNeg ((hgL A9 1035 (hgR A9 448 x0 0) (6 : Int32).toNatClampNeg) + (1 : Int64))) 451 x0 0 (0 : Int32)) 448 x0 0)).1 = 11 then if wix (6 : Int32) (hsh (hsI (hsL A9 1035 (hgR A9 448 x0 0) (6 : Int32).toNatClampNeg ((hgL A9 1035 (hgR A9 448 x0 0) (6 : Int32).toNatClampNeg) + (1 : Int64))) 451 x0 0 (0 : Int32)) (hgR (hsI (hsL A9 1035 (hgR A9 448 x0 0) (6 : Int32).toNatClampNeg ((hgL A9 1035 (hgR A9 448 x0 0) (6 : Int32).toNatClampNeg) + (1 : Int64))) 451 x0 0 (0 : Int32)) 448 x0 0)).2 then some ((hgL (hsI (hsL A9 1035 (hgR A9 448 x0 0) (6 : Int32).toNatClampNeg ((hgL A9 1035 (hgR A9 448 x0 0) (6 : Int32).toNatClampNeg) + (1 : Int64))) 451 x0 0 (0 : Int32)) 1035 (hgR (hsI (hsL A9 1035 (hgR A9 448 x0 0) (6 : Int32).toNatClampNeg ((hgL A9 1035 (hgR A9 448 x0 0) (6 : Int32).toNatClampNeg) + (1 : Int64))) 451 x0 0 (0 : Int32)) 448 x0 0) (6 : Int32).toNatClampNeg).toInt32, (hsI (hsL A9 1035 (hgR A9 448 x0 0) (6 : Int32).toNatClampNeg ((hgL A9 1035 (hgR A9 448 x0 0) (6 : Int32).toNatClampNeg) + (1 : Int64))) 451 x0 0 (0 : Int32))) else none else none else none else none else none) else none)) else (if x1 = (0 : Int32) then k_X9_addSuffix_73 rec19 A x0 x2 else if wix ((180 : Int32) + ((32 : Int32) * x2)) (hsh A (hgR A 448 x0 0)).2 then ((f_X9_areLike A x0 (((180 : Int32) + ((32 : Int32) * x2)) + (1 : Int32)) ((hgL A 1035 (hgR A 448 x0 0) ((180 : Int32) + ((32 : Int32) * x2)).toNatClampNeg).toInt32) (8400 : Int32) (hgI A 451 x0 0)).bind fun v22 => (if v22 = (0 : Int32) then k_X9_addSuffix_74 rec19 A x0 x2 (1 : Int32) else k_X9_addSuffix_73 rec19 A x0 x2)) else none)) else none else none else none
def k_X9_addSuffix_19  (x0 : Nat)  : Nat → Hp → Int32 → Int32 → Option (Int32 × Hp)
  | 0 => fun _ _ _ => none
  | fu + 1 => k_X9_addSuffix_19s x0  (k_X9_addSuffix_19 x0  fu)
set_option maxRecDepth 100000 in
theorem s_X9_addSuffix_19 {κ : KT} {r : Int32} {B : Hp}  {x0 : Nat}  (K : Cx κ cX9_addSuffix 4 RX9 3 71 0 0) (E : Ed κ (some .int) "addSuffix" (.inl (some (.inl r))) B 0 0)  : ∀ (fu : Nat) (A : Hp) (x1 : Int32) (x2 : Int32),  k_X9_addSuffix_19 x0  fu A x1 x2 = some (r, B) → Vw κ A 0 0 19 [(0, .inr (.inr x0)), (1, .inl x1), (2, .inl x2)] [] := by
  intro fu
  induction fu with
  | zero => intro A x1 x2 h; cases h
  | succ fu hr19 =>
    intro A x1 x2 h
    have h : k_X9_addSuffix_19s x0  (k_X9_addSuffix_19 x0  fu) A x1 x2 = some (r, B) := h
    unfold k_X9_addSuffix_19s at h
    refine Vw.iload_n (pc := 19) (x := x2) K dX9_addSuffix_19 rfl ?_
    refine Vw.i2l (pc := 20) K dX9_addSuffix_20 ?_
    refine Vw.aload_n (pc := 21) (x := x0) K dX9_addSuffix_21 rfl ?_
    obtain ⟨g1, h⟩ := wgd h
    refine Vw.getR (pc := 22) (k := 0) (f := 448) K cls7 rfl rfl u_6_17 g1 dX9_addSuffix_22 ?_
    refine Vw.bipush (pc := 25) (v := (6 : Int32)) K (by decide) dX9_addSuffix_25 ?_
    obtain ⟨g2, h⟩ := wgd h
    obtain ⟨g3, h⟩ := wgd h
    refine Vw.laload (pc := 27) K g2 g3 dX9_addSuffix_27 ?_
    refine Vw.lcmp_ge (pc := 28) (tgt := 81) K dX9_addSuffix_28 dX9_addSuffix_29 (by decide) (fun c4 => ?_) (fun c4 => ?_)
    · have h := wpos c4 h
      refine Vw.iload_n (pc := 81) (x := x1) K dX9_addSuffix_81 rfl ?_
      refine Vw.if_ne (pc := 82) (tgt := 91) K dX9_addSuffix_82 (by decide) (fun c5 => ?_) (fun c5 => ?_)
      · have h := wneg c5 h
        refine Vw.aload_n (pc := 91) (x := x0) K dX9_addSuffix_91 rfl ?_
        refine Vw.getR (pc := 92) (k := 0) (f := 448) K cls7 rfl rfl u_6_17 g1 dX9_addSuffix_92 ?_
        refine Vw.bipush (pc := 95) (v := (6 : Int32)) K (by decide) dX9_addSuffix_95 ?_
        refine Vw.laload (pc := 97) K g2 g3 dX9_addSuffix_97 ?_
        refine Vw.ldc2 (pc := 98) (v := (6 : Int64)) K u_7_1 dX9_addSuffix_98 ?_
        refine Vw.lcmp_ne (pc := 101) (tgt := 111) K dX9_addSuffix_101 dX9_addSuffix_102 (by decide) (fun c6 => ?_) (fun c6 => ?_)
        · have h := wneg c6 h
          refine Vw.sipush (pc := 111) (v := (180 : Int32)) K (by decide) dX9_addSuffix_111 ?_
          refine Vw.bipush (pc := 114) (v := (32 : Int32)) K (by decide) dX9_addSuffix_114 ?_
          refine Vw.aload_n (pc := 116) (x := x0) K dX9_addSuffix_116 rfl ?_
          refine Vw.getR (pc := 117) (k := 0) (f := 448) K cls7 rfl rfl u_6_17 g1 dX9_addSuffix_117 ?_
          refine Vw.bipush (pc := 120) (v := (6 : Int32)) K (by decide) dX9_addSuffix_120 ?_
          refine Vw.laload (pc := 122) K g2 g3 dX9_addSuffix_122 ?_
          refine Vw.l2i (pc := 123) K dX9_addSuffix_123 ?_
          refine Vw.imul (pc := 124) K dX9_addSuffix_124 ?_
          refine Vw.iadd (pc := 125) K dX9_addSuffix_125 ?_
          refine Vw.istore_n (pc := 126) K dX9_addSuffix_126 (by decide) ?_
          refine Vw.aload_n (pc := 127) (x := x0) K dX9_addSuffix_127 rfl ?_
          refine Vw.getR (pc := 128) (k := 0) (f := 448) K cls7 rfl rfl u_6_17 g1 dX9_addSuffix_128 ?_
          refine Vw.iload_n (pc := 131) (x := ((180 : Int32) + ((32 : Int32) * ((hgL A 1035 (hgR A 448 x0 0) (6 : Int32).toNatClampNeg).toInt32)))) K dX9_addSuffix_131 rfl ?_
          refine Vw.aload_n (pc := 132) (x := x0) K dX9_addSuffix_132 rfl ?_
          refine Vw.getI (pc := 133) (k := 3) (f := 451) K cls7 rfl rfl u_6_20 g1 dX9_addSuffix_133 ?_
          refine Vw.i2l (pc := 136) K dX9_addSuffix_136 ?_
          obtain ⟨g7, h⟩ := wgd h
          refine Vw.lastore (pc := 137) K g2 g7 dX9_addSuffix_137 ?_
          refine Vw.aload_n (pc := 138) (x := x0) K dX9_addSuffix_138 rfl ?_
          refine Vw.sipush (pc := 139) (v := (8400 : Int32)) K (by decide) dX9_addSuffix_139 ?_
          refine Vw.aload_n (pc := 142) (x := x0) K dX9_addSuffix_142 rfl ?_
          refine Vw.getI (pc := 143) (k := 3) (f := 451) K cls7 rfl rfl u_6_20 g1 dX9_addSuffix_143 ?_
          refine Vw.iload_n (pc := 146) (x := ((180 : Int32) + ((32 : Int32) * ((hgL A 1035 (hgR A 448 x0 0) (6 : Int32).toNatClampNeg).toInt32)))) K dX9_addSuffix_146 rfl ?_
          refine Vw.iconst (pc := 147) (v := (1 : Int32)) K (by decide) dX9_addSuffix_147 ?_
          refine Vw.iadd (pc := 148) K dX9_addSuffix_148 ?_
          obtain ⟨A9, e8, h⟩ := wbd h
          refine Vw.cV0 (pc := 149) (c' := 0) (n' := 0) K (s_X9_copies K.tr e8) cal_X9_copies cls7 u_6_170 g1 rfl ⟨by decide, by decide⟩ ⟨by decide, by decide⟩ rfl (Nat.le_of_ble_eq_true rfl) dX9_addSuffix_149 rfl rfl ?_
          refine Vw.aload_n (pc := 152) (x := x0) K dX9_addSuffix_152 rfl ?_
          obtain ⟨g10, h⟩ := wgd h
          refine Vw.getR (pc := 153) (k := 0) (f := 448) K cls7 rfl rfl u_6_17 g10 dX9_addSuffix_153 ?_
          refine Vw.bipush (pc := 156) (v := (6 : Int32)) K (by decide) dX9_addSuffix_156 ?_
          refine Vw.dup2 (pc := 158) K rfl rfl dX9_addSuffix_158 ?_
          obtain ⟨g11, h⟩ := wgd h
          obtain ⟨g12, h⟩ := wgd h
          refine Vw.laload (pc := 159) K g11 g12 dX9_addSuffix_159 ?_
          refine Vw.lconst (pc := 160) (v := (1 : Int64)) K (by decide) dX9_addSuffix_160 ?_
          refine Vw.ladd (pc := 161) K dX9_addSuffix_161 ?_
          refine Vw.lastore (pc := 162) K g11 g12 dX9_addSuffix_162 ?_
          refine Vw.aload_n (pc := 163) (x := x0) K dX9_addSuffix_163 rfl ?_
          refine Vw.iconst (pc := 164) (v := (0 : Int32)) K (by decide) dX9_addSuffix_164 ?_
          refine Vw.putI (pc := 165) (k := 3) (f := 451) K cls7 rfl rfl u_6_20 g10 (Or.inl rfl) rfl rfl dX9_addSuffix_165 ?_
          refine Vw.aload_n (pc := 168) (x := x0) K dX9_addSuffix_168 rfl ?_
          refine Vw.getR (pc := 169) (k := 0) (f := 448) K cls7 rfl rfl u_6_17 g10 dX9_addSuffix_169 ?_
          refine Vw.bipush (pc := 172) (v := (6 : Int32)) K (by decide) dX9_addSuffix_172 ?_
          obtain ⟨g13, h⟩ := wgd h
          obtain ⟨g14, h⟩ := wgd h
          refine Vw.laload (pc := 174) K g13 g14 dX9_addSuffix_174 ?_
          refine Vw.l2i (pc := 175) K dX9_addSuffix_175 ?_
          exact Vw.iretH (pc := 176) K h E (by decide) (by decide) dX9_addSuffix_176
        · have h := wpos c6 h
          refine Vw.aload_n (pc := 105) (x := x0) K dX9_addSuffix_105 rfl ?_
          refine Vw.iconst (pc := 106) (v := (2 : Int32)) K (by decide) dX9_addSuffix_106 ?_
          obtain ⟨p16, e15, h⟩ := wbd h
          refine Vw.cV1 (pc := 107) (v := .inl p16.1) (c' := 0) (n' := 0) K (s_X9_fails K.tr e15) cal_X9_fails cls7 u_6_214 g1 rfl ⟨by decide, by decide⟩ ⟨by decide, by decide⟩ rfl (Nat.le_of_ble_eq_true rfl) dX9_addSuffix_107 rfl rfl ?_
          exact Vw.iretH (pc := 110) K h E (by decide) (by decide) dX9_addSuffix_110
      · have h := wpos c5 h
        refine Vw.aload_n (pc := 85) (x := x0) K dX9_addSuffix_85 rfl ?_
        refine Vw.iconst (pc := 86) (v := (1 : Int32)) K (by decide) dX9_addSuffix_86 ?_
        obtain ⟨p18, e17, h⟩ := wbd h
        refine Vw.cV1 (pc := 87) (v := .inl p18.1) (c' := 0) (n' := 0) K (s_X9_fails K.tr e17) cal_X9_fails cls7 u_6_214 g1 rfl ⟨by decide, by decide⟩ ⟨by decide, by decide⟩ rfl (Nat.le_of_ble_eq_true rfl) dX9_addSuffix_87 rfl rfl ?_
        exact Vw.iretH (pc := 90) K h E (by decide) (by decide) dX9_addSuffix_90
    · have h := wneg c4 h
      refine Vw.sipush (pc := 32) (v := (180 : Int32)) K (by decide) dX9_addSuffix_32 ?_
      refine Vw.bipush (pc := 35) (v := (32 : Int32)) K (by decide) dX9_addSuffix_35 ?_
      refine Vw.iload_n (pc := 37) (x := x2) K dX9_addSuffix_37 rfl ?_
      refine Vw.imul (pc := 38) K dX9_addSuffix_38 ?_
      refine Vw.iadd (pc := 39) K dX9_addSuffix_39 ?_
      refine Vw.istore_n (pc := 40) K dX9_addSuffix_40 (by decide) ?_
      refine Vw.iload_n (pc := 41) (x := x1) K dX9_addSuffix_41 rfl ?_
      refine Vw.if_eq (pc := 42) (tgt := 73) K dX9_addSuffix_42 (by decide) (fun c19 => ?_) (fun c19 => ?_)
      · have h := wpos c19 h
        exact Vw.loc rfl (s_X9_addSuffix_73 K E hr19 h)
      · have h := wneg c19 h
        refine Vw.aload_n (pc := 45) (x := x0) K dX9_addSuffix_45 rfl ?_
        refine Vw.iload_n (pc := 46) (x := ((180 : Int32) + ((32 : Int32) * x2))) K dX9_addSuffix_46 rfl ?_
        refine Vw.iconst (pc := 47) (v := (1 : Int32)) K (by decide) dX9_addSuffix_47 ?_
        refine Vw.iadd (pc := 48) K dX9_addSuffix_48 ?_
        refine Vw.aload_n (pc := 49) (x := x0) K dX9_addSuffix_49 rfl ?_
        refine Vw.getR (pc := 50) (k := 0) (f := 448) K cls7 rfl rfl u_6_17 g1 dX9_addSuffix_50 ?_
        refine Vw.iload_n (pc := 53) (x := ((180 : Int32) + ((32 : Int32) * x2))) K dX9_addSuffix_53 rfl ?_
        obtain ⟨g20, h⟩ := wgd h
        refine Vw.laload (pc := 54) K g2 g20 dX9_addSuffix_54 ?_
        refine Vw.l2i (pc := 55) K dX9_addSuffix_55 ?_
        refine Vw.sipush (pc := 56) (v := (8400 : Int32)) K (by decide) dX9_addSuffix_56 ?_
        refine Vw.aload_n (pc := 59) (x := x0) K dX9_addSuffix_59 rfl ?_
        refine Vw.getI (pc := 60) (k := 3) (f := 451) K cls7 rfl rfl u_6_20 g1 dX9_addSuffix_60 ?_
        obtain ⟨v22, e21, h⟩ := wbd h
        refine Vw.cV1 (pc := 63) (v := .inl v22) (c' := 0) (n' := 0) K (s_X9_areLike K.tr e21) cal_X9_areLike cls7 u_6_202 g1 rfl ⟨by decide, by decide⟩ ⟨by decide, by decide⟩ rfl (Nat.le_of_ble_eq_true rfl) dX9_addSuffix_63 rfl rfl ?_
        refine Vw.if_ne (pc := 66) (tgt := 73) K dX9_addSuffix_66 (by decide) (fun c23 => ?_) (fun c23 => ?_)
        · have h := wneg c23 h
          exact Vw.loc rfl (s_X9_addSuffix_73 K E hr19 h)
        · have h := wpos c23 h
          refine Vw.iconst (pc := 69) (v := (1 : Int32)) K (by decide) dX9_addSuffix_69 ?_
          refine Vw.goto (pc := 70) (tgt := 74) K dX9_addSuffix_70 (by decide) ?_
          exact Vw.loc rfl (s_X9_addSuffix_74 K E hr19 h)
def f_X9_addSuffix (A : Hp) (x0 : Nat) : Option (Int32 × Hp) := if (hsh A x0).1 = 8 then ((f_X9_isDomain (hsI A 452 x0 0 (0 : Int32)) x0 (8400 : Int32) (hgI (hsI A 452 x0 0 (0 : Int32)) 451 x0 0)).bind fun v26 => k_X9_addSuffix_19 x0 FU (hsI A 452 x0 0 (0 : Int32)) v26 (0 : Int32)) else none
set_option maxRecDepth 100000 in
theorem s_X9_addSuffix {l : Launch} {g : GT} (hl : l.stackTraces = false) {A : Hp} {x0 : Nat} {r : Int32} {B : Hp} (h : f_X9_addSuffix A x0 = some (r, B)) : MetV l g yX9_addSuffix (.code yX9_addSuffix cX9_addSuffix 4 (some .int)) [.inr (.inr x0)] A (.inl (some (.inl r))) B 3 71 0 0 := by
  refine MetV.ofV hl (by decide +kernel) (Nat.le_of_ble_eq_true rfl) (fun κ K E => ?_)
  have K : Cx κ cX9_addSuffix 4 RX9 3 71 0 0 := K
  have E : Ed κ (some .int) "addSuffix" (.inl (some (.inl r))) B 0 0 := E
  unfold f_X9_addSuffix at h
  change Vw κ A 0 0 0 [(0, .inr (.inr x0))] []
  refine Vw.aload_n (pc := 0) (x := x0) K dX9_addSuffix_0 rfl ?_
  refine Vw.iconst (pc := 1) (v := (0 : Int32)) K (by decide) dX9_addSuffix_1 ?_
  obtain ⟨g24, h⟩ := wgd h
  refine Vw.putI (pc := 2) (k := 4) (f := 452) K cls7 rfl rfl u_6_21 g24 (Or.inl rfl) rfl rfl dX9_addSuffix_2 ?_
  refine Vw.aload_n (pc := 5) (x := x0) K dX9_addSuffix_5 rfl ?_
  refine Vw.sipush (pc := 6) (v := (8400 : Int32)) K (by decide) dX9_addSuffix_6 ?_
  refine Vw.aload_n (pc := 9) (x := x0) K dX9_addSuffix_9 rfl ?_
  refine Vw.getI (pc := 10) (k := 3) (f := 451) K cls7 rfl rfl u_6_20 g24 dX9_addSuffix_10 ?_
  obtain ⟨v26, e25, h⟩ := wbd h
  refine Vw.cV1 (pc := 13) (v := .inl v26) (c' := 0) (n' := 0) K (s_X9_isDomain K.tr e25) cal_X9_isDomain cls7 u_6_236 g24 rfl ⟨by decide, by decide⟩ ⟨by decide, by decide⟩ rfl (Nat.le_of_ble_eq_true rfl) dX9_addSuffix_13 rfl rfl ?_
  refine Vw.istore_n (pc := 16) K dX9_addSuffix_16 (by decide) ?_
  refine Vw.iconst (pc := 17) (v := (0 : Int32)) K (by decide) dX9_addSuffix_17 ?_
  refine Vw.istore_n (pc := 18) K dX9_addSuffix_18 (by decide) ?_
  exact Vw.loc rfl (s_X9_addSuffix_19 K E  _ _ _ _ h)
theorem cal_X9_addSuffix : wCalV RX9 yX9_addSuffix (.code yX9_addSuffix cX9_addSuffix 4 (some .int)) 0 := ⟨by decide +kernel, u_6_233, u_6_234, u_1_9, u_6_235⟩
def k_X9_trimFrom_2s (A : Hp) (x0 : Nat) (x2 : Int32)  (rec2 : Int32 → Option (Int32))  (x3 : Int32) : Option (Int32) := (if x2 ≤ x3 then some x3 else if (hsh A x0).1 = 8 then if (hsh A (hgR A 448 x0 0)).1 = 11 then if wix ((8400 : Int32) + x3) (hsh A (hgR A 448 x0 0)).2 then (if (hgL A 1035 (hgR A 448 x0 0) ((8400 : Int32) + x3).toNatClampNeg) = (32 : Int64) then rec2 (x3 + (1 : Int32)) else some x3) else none else none else none)
def k_X9_trimFrom_2 (A : Hp) (x0 : Nat) (x2 : Int32)  : Nat → Int32 → Option (Int32)
  | 0 => fun _ => none
  | fu + 1 => k_X9_trimFrom_2s A x0 x2  (k_X9_trimFrom_2 A x0 x2  fu)
set_option maxRecDepth 100000 in
theorem s_X9_trimFrom_2 {κ : KT} {r : Int32} {A : Hp} {x0 : Nat} {x2 : Int32}  (K : Cx κ cX9_trimFrom 4 RX9 0 0 0 0) (E : Ed κ (some .int) "trimFrom" (.inl (some (.inl r))) A 0 0)  : ∀ (fu : Nat)  (x3 : Int32),  k_X9_trimFrom_2 A x0 x2  fu x3 = some r → Vw κ A 0 0 2 [(0, .inr (.inr x0)), (2, .inl x2), (3, .inl x3)] [] := by
  intro fu
  induction fu with
  | zero => intro x3 h; cases h
  | succ fu hr2 =>
    intro x3 h
    have h : k_X9_trimFrom_2s A x0 x2  (k_X9_trimFrom_2 A x0 x2  fu) x3 = some r := h
    unfold k_X9_trimFrom_2s at h
    refine Vw.iload_n (pc := 2) (x := x3) K dX9_trimFrom_2 rfl ?_
    refine Vw.iload_n (pc := 3) (x := x2) K dX9_trimFrom_3 rfl ?_
    refine Vw.icmp_ge (pc := 4) (tgt := 30) K dX9_trimFrom_4 (by decide) (fun c1 => ?_) (fun c1 => ?_)
    · have h := wpos c1 h
      refine Vw.iload_n (pc := 30) (x := x3) K dX9_trimFrom_30 rfl ?_
      exact Vw.iretE (pc := 31) K (Option.some.inj h) rfl E (by decide) (by decide) dX9_trimFrom_31
    · have h := wneg c1 h
      refine Vw.aload_n (pc := 7) (x := x0) K dX9_trimFrom_7 rfl ?_
      obtain ⟨g2, h⟩ := wgd h
      refine Vw.getR (pc := 8) (k := 0) (f := 448) K cls7 rfl rfl u_6_17 g2 dX9_trimFrom_8 ?_
      refine Vw.sipush (pc := 11) (v := (8400 : Int32)) K (by decide) dX9_trimFrom_11 ?_
      refine Vw.iload_n (pc := 14) (x := x3) K dX9_trimFrom_14 rfl ?_
      refine Vw.iadd (pc := 15) K dX9_trimFrom_15 ?_
      obtain ⟨g3, h⟩ := wgd h
      obtain ⟨g4, h⟩ := wgd h
      refine Vw.laload (pc := 16) K g3 g4 dX9_trimFrom_16 ?_
      refine Vw.ldc2 (pc := 17) (v := (32 : Int64)) K u_6_226 dX9_trimFrom_17 ?_
      refine Vw.lcmp_ne (pc := 20) (tgt := 30) K dX9_trimFrom_20 dX9_trimFrom_21 (by decide) (fun c5 => ?_) (fun c5 => ?_)
      · have h := wneg c5 h
        refine Vw.iload_n (pc := 30) (x := x3) K dX9_trimFrom_30 rfl ?_
        exact Vw.iretE (pc := 31) K (Option.some.inj h) rfl E (by decide) (by decide) dX9_trimFrom_31
      · have h := wpos c5 h
        refine Vw.iinc (pc := 24) (x := x3) (v := (1 : Int32)) K dX9_trimFrom_24 rfl (by decide) (by decide) ?_
        refine Vw.goto (pc := 27) (tgt := 2) K dX9_trimFrom_27 (by decide) ?_
        exact Vw.loc rfl (hr2 _ h)
def f_X9_trimFrom (A : Hp) (x0 : Nat) (x1 : Int32) (x2 : Int32) : Option (Int32) := k_X9_trimFrom_2 A x0 x2 FU x1
set_option maxRecDepth 100000 in
theorem s_X9_trimFrom {l : Launch} {g : GT} (hl : l.stackTraces = false) {A : Hp} {x0 : Nat} {x1 : Int32} {x2 : Int32} {r : Int32} (h : f_X9_trimFrom A x0 x1 x2 = some r) : MetV l g yX9_trimFrom (.code yX9_trimFrom cX9_trimFrom 4 (some .int)) [.inr (.inr x0), .inl x1, .inl x2] A (.inl (some (.inl r))) A 0 0 0 0 := by
  refine MetV.ofV hl (by decide +kernel) (Nat.le_of_ble_eq_true rfl) (fun κ K E => ?_)
  have K : Cx κ cX9_trimFrom 4 RX9 0 0 0 0 := K
  have E : Ed κ (some .int) "trimFrom" (.inl (some (.inl r))) A 0 0 := E
  unfold f_X9_trimFrom at h
  change Vw κ A 0 0 0 [(0, .inr (.inr x0)), (1, .inl x1), (2, .inl x2)] []
  refine Vw.iload_n (pc := 0) (x := x1) K dX9_trimFrom_0 rfl ?_
  refine Vw.istore_n (pc := 1) K dX9_trimFrom_1 (by decide) ?_
  exact Vw.loc rfl (s_X9_trimFrom_2 K E  _ _ h)
theorem cal_X9_trimFrom : wCalV RX9 yX9_trimFrom (.code yX9_trimFrom cX9_trimFrom 4 (some .int)) 2 := ⟨by decide +kernel, u_7_16, us_4_3, u_1_9, u_7_17⟩
def k_X9_trimTo_2s (A : Hp) (x0 : Nat) (x1 : Int32)  (rec2 : Int32 → Option (Int32))  (x3 : Int32) : Option (Int32) := (if x3 ≤ x1 then some x3 else if (hsh A x0).1 = 8 then if (hsh A (hgR A 448 x0 0)).1 = 11 then if wix (((8400 : Int32) + x3) - (1 : Int32)) (hsh A (hgR A 448 x0 0)).2 then (if (hgL A 1035 (hgR A 448 x0 0) (((8400 : Int32) + x3) - (1 : Int32)).toNatClampNeg) = (32 : Int64) then rec2 (x3 + (-1 : Int32)) else some x3) else none else none else none)
def k_X9_trimTo_2 (A : Hp) (x0 : Nat) (x1 : Int32)  : Nat → Int32 → Option (Int32)
  | 0 => fun _ => none
  | fu + 1 => k_X9_trimTo_2s A x0 x1  (k_X9_trimTo_2 A x0 x1  fu)
set_option maxRecDepth 100000 in
theorem s_X9_trimTo_2 {κ : KT} {r : Int32} {A : Hp} {x0 : Nat} {x1 : Int32}  (K : Cx κ cX9_trimTo 4 RX9 0 0 0 0) (E : Ed κ (some .int) "trimTo" (.inl (some (.inl r))) A 0 0)  : ∀ (fu : Nat)  (x3 : Int32),  k_X9_trimTo_2 A x0 x1  fu x3 = some r → Vw κ A 0 0 2 [(0, .inr (.inr x0)), (1, .inl x1), (3, .inl x3)] [] := by
  intro fu
  induction fu with
  | zero => intro x3 h; cases h
  | succ fu hr2 =>
    intro x3 h
    have h : k_X9_trimTo_2s A x0 x1  (k_X9_trimTo_2 A x0 x1  fu) x3 = some r := h
    unfold k_X9_trimTo_2s at h
    refine Vw.iload_n (pc := 2) (x := x3) K dX9_trimTo_2 rfl ?_
    refine Vw.iload_n (pc := 3) (x := x1) K dX9_trimTo_3 rfl ?_
    refine Vw.icmp_le (pc := 4) (tgt := 32) K dX9_trimTo_4 (by decide) (fun c1 => ?_) (fun c1 => ?_)
    · have h := wpos c1 h
      refine Vw.iload_n (pc := 32) (x := x3) K dX9_trimTo_32 rfl ?_
      exact Vw.iretE (pc := 33) K (Option.some.inj h) rfl E (by decide) (by decide) dX9_trimTo_33
    · have h := wneg c1 h
      refine Vw.aload_n (pc := 7) (x := x0) K dX9_trimTo_7 rfl ?_
      obtain ⟨g2, h⟩ := wgd h
      refine Vw.getR (pc := 8) (k := 0) (f := 448) K cls7 rfl rfl u_6_17 g2 dX9_trimTo_8 ?_
      refine Vw.sipush (pc := 11) (v := (8400 : Int32)) K (by decide) dX9_trimTo_11 ?_
      refine Vw.iload_n (pc := 14) (x := x3) K dX9_trimTo_14 rfl ?_
      refine Vw.iadd (pc := 15) K dX9_trimTo_15 ?_
      refine Vw.iconst (pc := 16) (v := (1 : Int32)) K (by decide) dX9_trimTo_16 ?_
      refine Vw.isub (pc := 17) K dX9_trimTo_17 ?_
      obtain ⟨g3, h⟩ := wgd h
      obtain ⟨g4, h⟩ := wgd h
      refine Vw.laload (pc := 18) K g3 g4 dX9_trimTo_18 ?_
      refine Vw.ldc2 (pc := 19) (v := (32 : Int64)) K u_6_226 dX9_trimTo_19 ?_
      refine Vw.lcmp_ne (pc := 22) (tgt := 32) K dX9_trimTo_22 dX9_trimTo_23 (by decide) (fun c5 => ?_) (fun c5 => ?_)
      · have h := wneg c5 h
        refine Vw.iload_n (pc := 32) (x := x3) K dX9_trimTo_32 rfl ?_
        exact Vw.iretE (pc := 33) K (Option.some.inj h) rfl E (by decide) (by decide) dX9_trimTo_33
      · have h := wpos c5 h
        refine Vw.iinc (pc := 26) (x := x3) (v := (-1 : Int32)) K dX9_trimTo_26 rfl (by decide) (by decide) ?_
        refine Vw.goto (pc := 29) (tgt := 2) K dX9_trimTo_29 (by decide) ?_
        exact Vw.loc rfl (hr2 _ h)
def f_X9_trimTo (A : Hp) (x0 : Nat) (x1 : Int32) (x2 : Int32) : Option (Int32) := k_X9_trimTo_2 A x0 x1 FU x2
set_option maxRecDepth 100000 in
theorem s_X9_trimTo {l : Launch} {g : GT} (hl : l.stackTraces = false) {A : Hp} {x0 : Nat} {x1 : Int32} {x2 : Int32} {r : Int32} (h : f_X9_trimTo A x0 x1 x2 = some r) : MetV l g yX9_trimTo (.code yX9_trimTo cX9_trimTo 4 (some .int)) [.inr (.inr x0), .inl x1, .inl x2] A (.inl (some (.inl r))) A 0 0 0 0 := by
  refine MetV.ofV hl (by decide +kernel) (Nat.le_of_ble_eq_true rfl) (fun κ K E => ?_)
  have K : Cx κ cX9_trimTo 4 RX9 0 0 0 0 := K
  have E : Ed κ (some .int) "trimTo" (.inl (some (.inl r))) A 0 0 := E
  unfold f_X9_trimTo at h
  change Vw κ A 0 0 0 [(0, .inr (.inr x0)), (1, .inl x1), (2, .inl x2)] []
  refine Vw.iload_n (pc := 0) (x := x2) K dX9_trimTo_0 rfl ?_
  refine Vw.istore_n (pc := 1) K dX9_trimTo_1 (by decide) ?_
  exact Vw.loc rfl (s_X9_trimTo_2 K E  _ _ h)
theorem cal_X9_trimTo : wCalV RX9 yX9_trimTo (.code yX9_trimTo cX9_trimTo 4 (some .int)) 2 := ⟨by decide +kernel, u_7_20, us_4_4, u_1_9, u_7_21⟩
def k_X9_find_3s (A : Hp) (x0 : Nat) (x1 : Int32) (x3 : Int32)  (rec3 : Int32 → Option (Int32))  (x4 : Int32) : Option (Int32) := (if x3 ≤ x4 then some x4 else if (hsh A x0).1 = 8 then if (hsh A (hgR A 448 x0 0)).1 = 11 then if wix ((8400 : Int32) + x4) (hsh A (hgR A 448 x0 0)).2 then (if (hgL A 1035 (hgR A 448 x0 0) ((8400 : Int32) + x4).toNatClampNeg) = x1.toInt64 then some x4 else rec3 (x4 + (1 : Int32))) else none else none else none)
def k_X9_find_3 (A : Hp) (x0 : Nat) (x1 : Int32) (x3 : Int32)  : Nat → Int32 → Option (Int32)
  | 0 => fun _ => none
  | fu + 1 => k_X9_find_3s A x0 x1 x3  (k_X9_find_3 A x0 x1 x3  fu)
set_option maxRecDepth 100000 in
theorem s_X9_find_3 {κ : KT} {r : Int32} {A : Hp} {x0 : Nat} {x1 : Int32} {x3 : Int32}  (K : Cx κ cX9_find 5 RX9 0 0 0 0) (E : Ed κ (some .int) "find" (.inl (some (.inl r))) A 0 0)  : ∀ (fu : Nat)  (x4 : Int32),  k_X9_find_3 A x0 x1 x3  fu x4 = some r → Vw κ A 0 0 3 [(0, .inr (.inr x0)), (1, .inl x1), (3, .inl x3), (4, .inl x4)] [] := by
  intro fu
  induction fu with
  | zero => intro x4 h; cases h
  | succ fu hr3 =>
    intro x4 h
    have h : k_X9_find_3s A x0 x1 x3  (k_X9_find_3 A x0 x1 x3  fu) x4 = some r := h
    unfold k_X9_find_3s at h
    refine Vw.iload (pc := 3) (x := x4) K dX9_find_3 rfl ?_
    refine Vw.iload_n (pc := 5) (x := x3) K dX9_find_5 rfl ?_
    refine Vw.icmp_ge (pc := 6) (tgt := 32) K dX9_find_6 (by decide) (fun c1 => ?_) (fun c1 => ?_)
    · have h := wpos c1 h
      refine Vw.iload (pc := 32) (x := x4) K dX9_find_32 rfl ?_
      exact Vw.iretE (pc := 34) K (Option.some.inj h) rfl E (by decide) (by decide) dX9_find_34
    · have h := wneg c1 h
      refine Vw.aload_n (pc := 9) (x := x0) K dX9_find_9 rfl ?_
      obtain ⟨g2, h⟩ := wgd h
      refine Vw.getR (pc := 10) (k := 0) (f := 448) K cls7 rfl rfl u_6_17 g2 dX9_find_10 ?_
      refine Vw.sipush (pc := 13) (v := (8400 : Int32)) K (by decide) dX9_find_13 ?_
      refine Vw.iload (pc := 16) (x := x4) K dX9_find_16 rfl ?_
      refine Vw.iadd (pc := 18) K dX9_find_18 ?_
      obtain ⟨g3, h⟩ := wgd h
      obtain ⟨g4, h⟩ := wgd h
      refine Vw.laload (pc := 19) K g3 g4 dX9_find_19 ?_
      refine Vw.iload_n (pc := 20) (x := x1) K dX9_find_20 rfl ?_
      refine Vw.i2l (pc := 21) K dX9_find_21 ?_
      refine Vw.lcmp_eq (pc := 22) (tgt := 32) K dX9_find_22 dX9_find_23 (by decide) (fun c5 => ?_) (fun c5 => ?_)
      · have h := wpos c5 h
        refine Vw.iload (pc := 32) (x := x4) K dX9_find_32 rfl ?_
        exact Vw.iretE (pc := 34) K (Option.some.inj h) rfl E (by decide) (by decide) dX9_find_34
      · have h := wneg c5 h
        refine Vw.iinc (pc := 26) (x := x4) (v := (1 : Int32)) K dX9_find_26 rfl (by decide) (by decide) ?_
        refine Vw.goto (pc := 29) (tgt := 3) K dX9_find_29 (by decide) ?_
        exact Vw.loc rfl (hr3 _ h)
def f_X9_find (A : Hp) (x0 : Nat) (x1 : Int32) (x2 : Int32) (x3 : Int32) : Option (Int32) := k_X9_find_3 A x0 x1 x3 FU x2
set_option maxRecDepth 100000 in
theorem s_X9_find {l : Launch} {g : GT} (hl : l.stackTraces = false) {A : Hp} {x0 : Nat} {x1 : Int32} {x2 : Int32} {x3 : Int32} {r : Int32} (h : f_X9_find A x0 x1 x2 x3 = some r) : MetV l g yX9_find (.code yX9_find cX9_find 5 (some .int)) [.inr (.inr x0), .inl x1, .inl x2, .inl x3] A (.inl (some (.inl r))) A 0 0 0 0 := by
  refine MetV.ofV hl (by decide +kernel) (Nat.le_of_ble_eq_true rfl) (fun κ K E => ?_)
  have K : Cx κ cX9_find 5 RX9 0 0 0 0 := K
  have E : Ed κ (some .int) "find" (.inl (some (.inl r))) A 0 0 := E
  unfold f_X9_find at h
  change Vw κ A 0 0 0 [(0, .inr (.inr x0)), (1, .inl x1), (2, .inl x2), (3, .inl x3)] []
  refine Vw.iload_n (pc := 0) (x := x2) K dX9_find_0 rfl ?_
  refine Vw.istore (pc := 1) K dX9_find_1 (by decide) ?_
  exact Vw.loc rfl (s_X9_find_3 K E  _ _ h)
theorem cal_X9_find : wCalV RX9 yX9_find (.code yX9_find cX9_find 5 (some .int)) 3 := ⟨by decide +kernel, u_7_12, us_4_2, u_1_9, u_7_13⟩
def k_X9_isLikely_84 (rec18 : Int32 → Int32 → Option (Int32)) (A : Hp) (x0 : Nat) (x1 : Int32) (x3 : Nat) (x5 : Int32) (t0 : Int32) : Option (Int32) := rec18 t0 (x5 + (1 : Int32))
set_option maxRecDepth 100000 in
theorem s_X9_isLikely_84 {κ : KT} {r : Int32} {A : Hp} {x0 : Nat} {x1 : Int32} {x3 : Nat} {x5 : Int32} {t0 : Int32} {rec18 : Int32 → Int32 → Option (Int32)} (K : Cx κ cX9_isLikely 8 RX9 1 25 0 0) (E : Ed κ (some .boolean) "isLikely" (.inl (some (.inl r))) A 0 0) (hr18 : ∀ (x4 : Int32) (x5 : Int32), rec18 x4 x5 = some r → Vw κ A 0 0 18 [(0, .inr (.inr x0)), (1, .inl x1), (3, .inr (.inr x3)), (4, .inl x4), (5, .inl x5)] []) (h : k_X9_isLikely_84 rec18 A x0 x1 x3 x5 t0 = some r) : Vw κ A 0 0 84 [(0, .inr (.inr x0)), (1, .inl x1), (3, .inr (.inr x3)), (5, .inl x5)] [.inl t0] := by
  unfold k_X9_isLikely_84 at h
  refine Vw.istore (pc := 84) K dX9_isLikely_84 (by decide) ?_
  refine Vw.iinc (pc := 86) (x := x5) (v := (1 : Int32)) K dX9_isLikely_86 rfl (by decide) (by decide) ?_
  refine Vw.goto (pc := 89) (tgt := 18) K dX9_isLikely_89 (by decide) ?_
  exact Vw.loc rfl (hr18 _ _ h)
def k_X9_isLikely_70 (rec18 : Int32 → Int32 → Option (Int32)) (A : Hp) (x0 : Nat) (x1 : Int32) (x3 : Nat) (x5 : Int32) (t0 : Int64) : Option (Int32) := if (hsh A x3).1 = 9 then if wix x5 (hsh A x3).2 then (if t0 = ((hgI A 1033 x3 x5.toNatClampNeg).toInt64) then k_X9_isLikely_84 rec18 A x0 x1 x3 x5 (1 : Int32) else k_X9_isLikely_84 rec18 A x0 x1 x3 x5 (0 : Int32)) else none else none
set_option maxRecDepth 100000 in
theorem s_X9_isLikely_70 {κ : KT} {r : Int32} {A : Hp} {x0 : Nat} {x1 : Int32} {x3 : Nat} {x5 : Int32} {t0 : Int64} {rec18 : Int32 → Int32 → Option (Int32)} (K : Cx κ cX9_isLikely 8 RX9 1 25 0 0) (E : Ed κ (some .boolean) "isLikely" (.inl (some (.inl r))) A 0 0) (hr18 : ∀ (x4 : Int32) (x5 : Int32), rec18 x4 x5 = some r → Vw κ A 0 0 18 [(0, .inr (.inr x0)), (1, .inl x1), (3, .inr (.inr x3)), (4, .inl x4), (5, .inl x5)] []) (h : k_X9_isLikely_70 rec18 A x0 x1 x3 x5 t0 = some r) : Vw κ A 0 0 70 [(0, .inr (.inr x0)), (1, .inl x1), (3, .inr (.inr x3)), (5, .inl x5)] [.inr (.inl t0)] := by
  unfold k_X9_isLikely_70 at h
  refine Vw.aload_n (pc := 70) (x := x3) K dX9_isLikely_70 rfl ?_
  refine Vw.iload (pc := 71) (x := x5) K dX9_isLikely_71 rfl ?_
  obtain ⟨g1, h⟩ := wgd h
  obtain ⟨g2, h⟩ := wgd h
  refine Vw.caload (pc := 73) K g1 g2 dX9_isLikely_73 ?_
  refine Vw.i2l (pc := 74) K dX9_isLikely_74 ?_
  refine Vw.lcmp_ne (pc := 75) (tgt := 83) K dX9_isLikely_75 dX9_isLikely_76 (by decide) (fun c3 => ?_) (fun c3 => ?_)
  · have h := wneg c3 h
    refine Vw.iconst (pc := 83) (v := (0 : Int32)) K (by decide) dX9_isLikely_83 ?_
    exact Vw.loc rfl (s_X9_isLikely_84 K E hr18 h)
  · have h := wpos c3 h
    refine Vw.iconst (pc := 79) (v := (1 : Int32)) K (by decide) dX9_isLikely_79 ?_
    refine Vw.goto (pc := 80) (tgt := 84) K dX9_isLikely_80 (by decide) ?_
    exact Vw.loc rfl (s_X9_isLikely_84 K E hr18 h)
def k_X9_isLikely_18s (A : Hp) (x0 : Nat) (x1 : Int32) (x3 : Nat)  (rec18 : Int32 → Int32 → Option (Int32))  (x4 : Int32) (x5 : Int32) : Option (Int32) := if (hsh A x3).1 = 9 then (if (nI (hsh A x3).2) ≤ x5 then if wZ x4 then some x4 else none else (if x4 = (0 : Int32) then if wZ x4 then some x4 else none else if (hsh A x0).1 = 8 then if (hsh A (hgR A 448 x0 0)).1 = 11 then if wix (((8400 : Int32) + x1) + x5) (hsh A (hgR A 448 x0 0)).2 then ((f_X9_in A (hgL A 1035 (hgR A 448 x0 0) (((8400 : Int32) + x1) + x5).toNatClampNeg) (65 : Int64) (90 : Int64)).bind fun v13 => (if v13 = (0 : Int32) then k_X9_isLikely_70 rec18 A x0 x1 x3 x5 (hgL A 1035 (hgR A 448 x0 0) (((8400 : Int32) + x1) + x5).toNatClampNeg) else k_X9_isLikely_70 rec18 A x0 x1 x3 x5 ((hgL A 1035 (hgR A 448 x0 0) (((8400 : Int32) + x1) + x5).toNatClampNeg) + (32 : Int64)))) else none else none else none)) else none
def k_X9_isLikely_18 (A : Hp) (x0 : Nat) (x1 : Int32) (x3 : Nat)  : Nat → Int32 → Int32 → Option (Int32)
  | 0 => fun _ _ => none
  | fu + 1 => k_X9_isLikely_18s A x0 x1 x3  (k_X9_isLikely_18 A x0 x1 x3  fu)
set_option maxRecDepth 100000 in
theorem s_X9_isLikely_18 {κ : KT} {r : Int32} {A : Hp} {x0 : Nat} {x1 : Int32} {x3 : Nat}  (K : Cx κ cX9_isLikely 8 RX9 1 25 0 0) (E : Ed κ (some .boolean) "isLikely" (.inl (some (.inl r))) A 0 0)  : ∀ (fu : Nat)  (x4 : Int32) (x5 : Int32),  k_X9_isLikely_18 A x0 x1 x3  fu x4 x5 = some r → Vw κ A 0 0 18 [(0, .inr (.inr x0)), (1, .inl x1), (3, .inr (.inr x3)), (4, .inl x4), (5, .inl x5)] [] := by
  intro fu
  induction fu with
  | zero => intro x4 x5 h; cases h
  | succ fu hr18 =>
    intro x4 x5 h
    have h : k_X9_isLikely_18s A x0 x1 x3  (k_X9_isLikely_18 A x0 x1 x3  fu) x4 x5 = some r := h
    unfold k_X9_isLikely_18s at h
    refine Vw.iload (pc := 18) (x := x5) K dX9_isLikely_18 rfl ?_
    refine Vw.aload_n (pc := 20) (x := x3) K dX9_isLikely_20 rfl ?_
    obtain ⟨g4, h⟩ := wgd h
    refine Vw.alenC (pc := 21) K g4 dX9_isLikely_21 ?_
    refine Vw.icmp_ge (pc := 22) (tgt := 92) K dX9_isLikely_22 (by decide) (fun c5 => ?_) (fun c5 => ?_)
    · have h := wpos c5 h
      refine Vw.iload (pc := 92) (x := x4) K dX9_isLikely_92 rfl ?_
      obtain ⟨g6, h⟩ := wgd h
      exact Vw.zretE (pc := 94) K g6 (Option.some.inj h) rfl E (by decide) (by decide) dX9_isLikely_94
    · have h := wneg c5 h
      refine Vw.iload (pc := 25) (x := x4) K dX9_isLikely_25 rfl ?_
      refine Vw.if_eq (pc := 27) (tgt := 92) K dX9_isLikely_27 (by decide) (fun c7 => ?_) (fun c7 => ?_)
      · have h := wpos c7 h
        refine Vw.iload (pc := 92) (x := x4) K dX9_isLikely_92 rfl ?_
        obtain ⟨g8, h⟩ := wgd h
        exact Vw.zretE (pc := 94) K g8 (Option.some.inj h) rfl E (by decide) (by decide) dX9_isLikely_94
      · have h := wneg c7 h
        refine Vw.aload_n (pc := 30) (x := x0) K dX9_isLikely_30 rfl ?_
        obtain ⟨g9, h⟩ := wgd h
        refine Vw.getR (pc := 31) (k := 0) (f := 448) K cls7 rfl rfl u_6_17 g9 dX9_isLikely_31 ?_
        refine Vw.sipush (pc := 34) (v := (8400 : Int32)) K (by decide) dX9_isLikely_34 ?_
        refine Vw.iload_n (pc := 37) (x := x1) K dX9_isLikely_37 rfl ?_
        refine Vw.iadd (pc := 38) K dX9_isLikely_38 ?_
        refine Vw.iload (pc := 39) (x := x5) K dX9_isLikely_39 rfl ?_
        refine Vw.iadd (pc := 41) K dX9_isLikely_41 ?_
        obtain ⟨g10, h⟩ := wgd h
        obtain ⟨g11, h⟩ := wgd h
        refine Vw.laload (pc := 42) K g10 g11 dX9_isLikely_42 ?_
        refine Vw.lstore (pc := 43) K dX9_isLikely_43 (by decide) ?_
        refine Vw.lload (pc := 45) (x := (hgL A 1035 (hgR A 448 x0 0) (((8400 : Int32) + x1) + x5).toNatClampNeg)) K dX9_isLikely_45 rfl ?_
        refine Vw.ldc2 (pc := 47) (v := (65 : Int64)) K u_7_30 dX9_isLikely_47 ?_
        refine Vw.ldc2 (pc := 50) (v := (90 : Int64)) K u_7_31 dX9_isLikely_50 ?_
        obtain ⟨v13, e12, h⟩ := wbd h
        refine Vw.cS1 (pc := 53) (v := .inl v13) (c' := 0) (n' := 0) K (s_X9_in K.tr e12) cal_X9_in u_6_161 rfl ⟨by decide, by decide⟩ ⟨by decide, by decide⟩ rfl (Nat.le_of_ble_eq_true rfl) dX9_isLikely_53 rfl rfl ?_
        refine Vw.if_eq (pc := 56) (tgt := 68) K dX9_isLikely_56 (by decide) (fun c14 => ?_) (fun c14 => ?_)
        · have h := wpos c14 h
          refine Vw.lload (pc := 68) (x := (hgL A 1035 (hgR A 448 x0 0) (((8400 : Int32) + x1) + x5).toNatClampNeg)) K dX9_isLikely_68 rfl ?_
          exact Vw.loc rfl (s_X9_isLikely_70 K E hr18 h)
        · have h := wneg c14 h
          refine Vw.lload (pc := 59) (x := (hgL A 1035 (hgR A 448 x0 0) (((8400 : Int32) + x1) + x5).toNatClampNeg)) K dX9_isLikely_59 rfl ?_
          refine Vw.ldc2 (pc := 61) (v := (32 : Int64)) K u_6_226 dX9_isLikely_61 ?_
          refine Vw.ladd (pc := 64) K dX9_isLikely_64 ?_
          refine Vw.goto (pc := 65) (tgt := 70) K dX9_isLikely_65 (by decide) ?_
          exact Vw.loc rfl (s_X9_isLikely_70 K E hr18 h)
def k_X9_isLikely_13  (A : Hp) (x0 : Nat) (x1 : Int32) (x3 : Nat) (t0 : Int32) : Option (Int32) := k_X9_isLikely_18 A x0 x1 x3 FU t0 (0 : Int32)
set_option maxRecDepth 100000 in
theorem s_X9_isLikely_13 {κ : KT} {r : Int32} {A : Hp} {x0 : Nat} {x1 : Int32} {x3 : Nat} {t0 : Int32}  (K : Cx κ cX9_isLikely 8 RX9 1 25 0 0) (E : Ed κ (some .boolean) "isLikely" (.inl (some (.inl r))) A 0 0)  (h : k_X9_isLikely_13  A x0 x1 x3 t0 = some r) : Vw κ A 0 0 13 [(0, .inr (.inr x0)), (1, .inl x1), (3, .inr (.inr x3))] [.inl t0] := by
  unfold k_X9_isLikely_13 at h
  refine Vw.istore (pc := 13) K dX9_isLikely_13 (by decide) ?_
  refine Vw.iconst (pc := 15) (v := (0 : Int32)) K (by decide) dX9_isLikely_15 ?_
  refine Vw.istore (pc := 16) K dX9_isLikely_16 (by decide) ?_
  exact Vw.loc rfl (s_X9_isLikely_18 K E  _ _ _ h)
def f_X9_isLikely (A : Hp) (x0 : Nat) (x1 : Int32) (x2 : Int32) (x3 : Nat) : Option (Int32) := if (hsh A x3).1 = 9 then (if (x2 - x1) = (nI (hsh A x3).2) then k_X9_isLikely_13 A x0 x1 x3 (1 : Int32) else k_X9_isLikely_13 A x0 x1 x3 (0 : Int32)) else none
set_option maxRecDepth 100000 in
theorem s_X9_isLikely {l : Launch} {g : GT} (hl : l.stackTraces = false) {A : Hp} {x0 : Nat} {x1 : Int32} {x2 : Int32} {x3 : Nat} {r : Int32} (h : f_X9_isLikely A x0 x1 x2 x3 = some r) : MetV l g yX9_isLikely (.code yX9_isLikely cX9_isLikely 8 (some .boolean)) [.inr (.inr x0), .inl x1, .inl x2, .inr (.inr x3)] A (.inl (some (.inl r))) A 1 25 0 0 := by
  refine MetV.ofV hl (by decide +kernel) (Nat.le_of_ble_eq_true rfl) (fun κ K E => ?_)
  have K : Cx κ cX9_isLikely 8 RX9 1 25 0 0 := K
  have E : Ed κ (some .boolean) "isLikely" (.inl (some (.inl r))) A 0 0 := E
  unfold f_X9_isLikely at h
  change Vw κ A 0 0 0 [(0, .inr (.inr x0)), (1, .inl x1), (2, .inl x2), (3, .inr (.inr x3))] []
  refine Vw.iload_n (pc := 0) (x := x2) K dX9_isLikely_0 rfl ?_
  refine Vw.iload_n (pc := 1) (x := x1) K dX9_isLikely_1 rfl ?_
  refine Vw.isub (pc := 2) K dX9_isLikely_2 ?_
  refine Vw.aload_n (pc := 3) (x := x3) K dX9_isLikely_3 rfl ?_
  obtain ⟨g15, h⟩ := wgd h
  refine Vw.alenC (pc := 4) K g15 dX9_isLikely_4 ?_
  refine Vw.icmp_ne (pc := 5) (tgt := 12) K dX9_isLikely_5 (by decide) (fun c16 => ?_) (fun c16 => ?_)
  · have h := wneg c16 h
    refine Vw.iconst (pc := 12) (v := (0 : Int32)) K (by decide) dX9_isLikely_12 ?_
    exact Vw.loc rfl (s_X9_isLikely_13 K E  h)
  · have h := wpos c16 h
    refine Vw.iconst (pc := 8) (v := (1 : Int32)) K (by decide) dX9_isLikely_8 ?_
    refine Vw.goto (pc := 9) (tgt := 13) K dX9_isLikely_9 (by decide) ?_
    exact Vw.loc rfl (s_X9_isLikely_13 K E  h)
theorem cal_X9_isLikely : wCalV RX9 yX9_isLikely (.code yX9_isLikely cX9_isLikely 8 (some .boolean)) 3 := ⟨by decide +kernel, u_7_28, us_4_6, u_1_9, u_7_29⟩
def f_X9_isFigure (A : Hp) (x0 : Nat) (x1 : Int32) : Option (Int32) := if (hsh A x0).1 = 8 then if (hsh A (hgR A 448 x0 0)).1 = 11 then if wix ((8400 : Int32) + x1) (hsh A (hgR A 448 x0 0)).2 then ((f_X9_in A (hgL A 1035 (hgR A 448 x0 0) ((8400 : Int32) + x1).toNatClampNeg) (48 : Int64) (57 : Int64)).bind fun v5 => if wZ v5 then some v5 else none) else none else none else none
set_option maxRecDepth 100000 in
theorem s_X9_isFigure {l : Launch} {g : GT} (hl : l.stackTraces = false) {A : Hp} {x0 : Nat} {x1 : Int32} {r : Int32} (h : f_X9_isFigure A x0 x1 = some r) : MetV l g yX9_isFigure (.code yX9_isFigure cX9_isFigure 2 (some .boolean)) [.inr (.inr x0), .inl x1] A (.inl (some (.inl r))) A 1 25 0 0 := by
  refine MetV.ofV hl (by decide +kernel) (Nat.le_of_ble_eq_true rfl) (fun κ K E => ?_)
  have K : Cx κ cX9_isFigure 2 RX9 1 25 0 0 := K
  have E : Ed κ (some .boolean) "isFigure" (.inl (some (.inl r))) A 0 0 := E
  unfold f_X9_isFigure at h
  change Vw κ A 0 0 0 [(0, .inr (.inr x0)), (1, .inl x1)] []
  refine Vw.aload_n (pc := 0) (x := x0) K dX9_isFigure_0 rfl ?_
  obtain ⟨g1, h⟩ := wgd h
  refine Vw.getR (pc := 1) (k := 0) (f := 448) K cls7 rfl rfl u_6_17 g1 dX9_isFigure_1 ?_
  refine Vw.sipush (pc := 4) (v := (8400 : Int32)) K (by decide) dX9_isFigure_4 ?_
  refine Vw.iload_n (pc := 7) (x := x1) K dX9_isFigure_7 rfl ?_
  refine Vw.iadd (pc := 8) K dX9_isFigure_8 ?_
  obtain ⟨g2, h⟩ := wgd h
  obtain ⟨g3, h⟩ := wgd h
  refine Vw.laload (pc := 9) K g2 g3 dX9_isFigure_9 ?_
  refine Vw.ldc2 (pc := 10) (v := (48 : Int64)) K u_6_164 dX9_isFigure_10 ?_
  refine Vw.ldc2 (pc := 13) (v := (57 : Int64)) K u_6_165 dX9_isFigure_13 ?_
  obtain ⟨v5, e4, h⟩ := wbd h
  refine Vw.cS1 (pc := 16) (v := .inl v5) (c' := 0) (n' := 0) K (s_X9_in K.tr e4) cal_X9_in u_6_161 rfl ⟨by decide, by decide⟩ ⟨by decide, by decide⟩ rfl (Nat.le_of_ble_eq_true rfl) dX9_isFigure_16 rfl rfl ?_
  obtain ⟨g6, h⟩ := wgd h
  exact Vw.zretE (pc := 19) K g6 (Option.some.inj h) rfl E (by decide) (by decide) dX9_isFigure_19
theorem cal_X9_isFigure : wCalV RX9 yX9_isFigure (.code yX9_isFigure cX9_isFigure 2 (some .boolean)) 1 := ⟨by decide +kernel, u_7_43, us_4_9, u_1_9, u_7_44⟩
def k_X9_number_53 (rec5 : Int64 → Int32 → Option (Int64)) (A : Hp) (x0 : Nat) (x2 : Int32) (x5 : Int32) (t0 : Int64) : Option (Int64) := rec5 t0 (x5 + (1 : Int32))
set_option maxRecDepth 100000 in
theorem s_X9_number_53 {κ : KT} {r : Int64} {A : Hp} {x0 : Nat} {x2 : Int32} {x5 : Int32} {t0 : Int64} {rec5 : Int64 → Int32 → Option (Int64)} (K : Cx κ cX9_number 6 RX9 2 46 0 0) (E : Ed κ (some .long) "number" (.inl (some (.inr (.inl r)))) A 0 0) (hr5 : ∀ (x3 : Int64) (x5 : Int32), rec5 x3 x5 = some r → Vw κ A 0 0 5 [(0, .inr (.inr x0)), (2, .inl x2), (3, .inr (.inl x3)), (5, .inl x5)] []) (h : k_X9_number_53 rec5 A x0 x2 x5 t0 = some r) : Vw κ A 0 0 53 [(0, .inr (.inr x0)), (2, .inl x2), (5, .inl x5)] [.inr (.inl t0)] := by
  unfold k_X9_number_53 at h
  refine Vw.lstore_n (pc := 53) K dX9_number_53 (by decide) ?_
  refine Vw.iinc (pc := 54) (x := x5) (v := (1 : Int32)) K dX9_number_54 rfl (by decide) (by decide) ?_
  refine Vw.goto (pc := 57) (tgt := 5) K dX9_number_57 (by decide) ?_
  exact Vw.loc rfl (hr5 _ _ h)
def k_X9_number_5s (A : Hp) (x0 : Nat) (x2 : Int32)  (rec5 : Int64 → Int32 → Option (Int64))  (x3 : Int64) (x5 : Int32) : Option (Int64) := (if x2 ≤ x5 then some x3 else (if x3 < (0 : Int64) then some x3 else if (hsh A x0).1 = 8 then ((f_X9_isFigure A x0 x5).bind fun v5 => (if v5 = (0 : Int32) then k_X9_number_53 rec5 A x0 x2 x5 (-1 : Int64) else if (hsh A (hgR A 448 x0 0)).1 = 11 then if wix ((8400 : Int32) + x5) (hsh A (hgR A 448 x0 0)).2 then k_X9_number_53 rec5 A x0 x2 x5 ((((10 : Int64) * x3) + (hgL A 1035 (hgR A 448 x0 0) ((8400 : Int32) + x5).toNatClampNeg)) - (48 : Int64)) else none else none)) else none))
def k_X9_number_5 (A : Hp) (x0 : Nat) (x2 : Int32)  : Nat → Int64 → Int32 → Option (Int64)
  | 0 => fun _ _ => none
  | fu + 1 => k_X9_number_5s A x0 x2  (k_X9_number_5 A x0 x2  fu)
set_option maxRecDepth 100000 in
theorem s_X9_number_5 {κ : KT} {r : Int64} {A : Hp} {x0 : Nat} {x2 : Int32}  (K : Cx κ cX9_number 6 RX9 2 46 0 0) (E : Ed κ (some .long) "number" (.inl (some (.inr (.inl r)))) A 0 0)  : ∀ (fu : Nat)  (x3 : Int64) (x5 : Int32),  k_X9_number_5 A x0 x2  fu x3 x5 = some r → Vw κ A 0 0 5 [(0, .inr (.inr x0)), (2, .inl x2), (3, .inr (.inl x3)), (5, .inl x5)] [] := by
  intro fu
  induction fu with
  | zero => intro x3 x5 h; cases h
  | succ fu hr5 =>
    intro x3 x5 h
    have h : k_X9_number_5s A x0 x2  (k_X9_number_5 A x0 x2  fu) x3 x5 = some r := h
    unfold k_X9_number_5s at h
    refine Vw.iload (pc := 5) (x := x5) K dX9_number_5 rfl ?_
    refine Vw.iload_n (pc := 7) (x := x2) K dX9_number_7 rfl ?_
    refine Vw.icmp_ge (pc := 8) (tgt := 60) K dX9_number_8 (by decide) (fun c1 => ?_) (fun c1 => ?_)
    · have h := wpos c1 h
      refine Vw.lload_n (pc := 60) (x := x3) K dX9_number_60 rfl ?_
      exact Vw.lretE (pc := 61) K (Option.some.inj h) rfl E (by decide) (by decide) dX9_number_61
    · have h := wneg c1 h
      refine Vw.lload_n (pc := 11) (x := x3) K dX9_number_11 rfl ?_
      refine Vw.lconst (pc := 12) (v := (0 : Int64)) K (by decide) dX9_number_12 ?_
      refine Vw.lcmp_lt (pc := 13) (tgt := 60) K dX9_number_13 dX9_number_14 (by decide) (fun c2 => ?_) (fun c2 => ?_)
      · have h := wpos c2 h
        refine Vw.lload_n (pc := 60) (x := x3) K dX9_number_60 rfl ?_
        exact Vw.lretE (pc := 61) K (Option.some.inj h) rfl E (by decide) (by decide) dX9_number_61
      · have h := wneg c2 h
        refine Vw.aload_n (pc := 17) (x := x0) K dX9_number_17 rfl ?_
        refine Vw.iload (pc := 18) (x := x5) K dX9_number_18 rfl ?_
        obtain ⟨g3, h⟩ := wgd h
        obtain ⟨v5, e4, h⟩ := wbd h
        refine Vw.cV1 (pc := 20) (v := .inl v5) (c' := 0) (n' := 0) K (s_X9_isFigure K.tr e4) cal_X9_isFigure cls7 u_7_41 g3 rfl ⟨by decide, by decide⟩ ⟨by decide, by decide⟩ rfl (Nat.le_of_ble_eq_true rfl) dX9_number_20 rfl rfl ?_
        refine Vw.if_eq (pc := 23) (tgt := 50) K dX9_number_23 (by decide) (fun c6 => ?_) (fun c6 => ?_)
        · have h := wpos c6 h
          refine Vw.ldc2 (pc := 50) (v := (-1 : Int64)) K u_6_154 dX9_number_50 ?_
          exact Vw.loc rfl (s_X9_number_53 K E hr5 h)
        · have h := wneg c6 h
          refine Vw.ldc2 (pc := 26) (v := (10 : Int64)) K u_7_45 dX9_number_26 ?_
          refine Vw.lload_n (pc := 29) (x := x3) K dX9_number_29 rfl ?_
          refine Vw.lmul (pc := 30) K dX9_number_30 ?_
          refine Vw.aload_n (pc := 31) (x := x0) K dX9_number_31 rfl ?_
          refine Vw.getR (pc := 32) (k := 0) (f := 448) K cls7 rfl rfl u_6_17 g3 dX9_number_32 ?_
          refine Vw.sipush (pc := 35) (v := (8400 : Int32)) K (by decide) dX9_number_35 ?_
          refine Vw.iload (pc := 38) (x := x5) K dX9_number_38 rfl ?_
          refine Vw.iadd (pc := 40) K dX9_number_40 ?_
          obtain ⟨g7, h⟩ := wgd h
          obtain ⟨g8, h⟩ := wgd h
          refine Vw.laload (pc := 41) K g7 g8 dX9_number_41 ?_
          refine Vw.ladd (pc := 42) K dX9_number_42 ?_
          refine Vw.ldc2 (pc := 43) (v := (48 : Int64)) K u_6_164 dX9_number_43 ?_
          refine Vw.lsub (pc := 46) K dX9_number_46 ?_
          refine Vw.goto (pc := 47) (tgt := 53) K dX9_number_47 (by decide) ?_
          exact Vw.loc rfl (s_X9_number_53 K E hr5 h)
def f_X9_number (A : Hp) (x0 : Nat) (x1 : Int32) (x2 : Int32) : Option (Int64) := k_X9_number_5 A x0 x2 FU (0 : Int64) x1
set_option maxRecDepth 100000 in
theorem s_X9_number {l : Launch} {g : GT} (hl : l.stackTraces = false) {A : Hp} {x0 : Nat} {x1 : Int32} {x2 : Int32} {r : Int64} (h : f_X9_number A x0 x1 x2 = some r) : MetV l g yX9_number (.code yX9_number cX9_number 6 (some .long)) [.inr (.inr x0), .inl x1, .inl x2] A (.inl (some (.inr (.inl r)))) A 2 46 0 0 := by
  refine MetV.ofV hl (by decide +kernel) (Nat.le_of_ble_eq_true rfl) (fun κ K E => ?_)
  have K : Cx κ cX9_number 6 RX9 2 46 0 0 := K
  have E : Ed κ (some .long) "number" (.inl (some (.inr (.inl r)))) A 0 0 := E
  unfold f_X9_number at h
  change Vw κ A 0 0 0 [(0, .inr (.inr x0)), (1, .inl x1), (2, .inl x2)] []
  refine Vw.lconst (pc := 0) (v := (0 : Int64)) K (by decide) dX9_number_0 ?_
  refine Vw.lstore_n (pc := 1) K dX9_number_1 (by decide) ?_
  refine Vw.iload_n (pc := 2) (x := x1) K dX9_number_2 rfl ?_
  refine Vw.istore (pc := 3) K dX9_number_3 (by decide) ?_
  exact Vw.loc rfl (s_X9_number_5 K E  _ _ _ h)
theorem cal_X9_number : wCalV RX9 yX9_number (.code yX9_number cX9_number 6 (some .long)) 2 := ⟨by decide +kernel, u_7_39, us_4_8, u_1_9, u_7_40⟩
def k_X9_isLeap_30  (A : Hp)   : Option (Int32) := some (1 : Int32)
set_option maxRecDepth 100000 in
theorem s_X9_isLeap_30 {κ : KT} {r : Int32} {A : Hp}    (K : Cx κ cX9_isLeap 2 RX9 0 0 0 0) (E : Ed κ (some .boolean) "isLeap" (.inl (some (.inl r))) A 0 0)  (h : k_X9_isLeap_30  A   = some r) : Vw κ A 0 0 30 [] [] := by
  unfold k_X9_isLeap_30 at h
  refine Vw.iconst (pc := 30) (v := (1 : Int32)) K (by decide) dX9_isLeap_30 ?_
  refine Vw.goto (pc := 31) (tgt := 35) K dX9_isLeap_31 (by decide) ?_
  exact Vw.zretE (pc := 35) K (Or.inr rfl) (Option.some.inj h) rfl E (by decide) (by decide) dX9_isLeap_35
def f_X9_isLeap (A : Hp) (x0 : Int64) : Option (Int32) := (if (x0 - x0 / (4 : Int64) * (4 : Int64)) = (0 : Int64) then (if (x0 - x0 / (100 : Int64) * (100 : Int64)) = (0 : Int64) then (if (x0 - x0 / (400 : Int64) * (400 : Int64)) = (0 : Int64) then k_X9_isLeap_30 A else some (0 : Int32)) else k_X9_isLeap_30 A) else some (0 : Int32))
set_option maxRecDepth 100000 in
theorem s_X9_isLeap {l : Launch} {g : GT} (hl : l.stackTraces = false) {A : Hp} {x0 : Int64} {r : Int32} (h : f_X9_isLeap A x0 = some r) : MetV l g yX9_isLeap (.code yX9_isLeap cX9_isLeap 2 (some .boolean)) [.inr (.inl x0)] A (.inl (some (.inl r))) A 0 0 0 0 := by
  refine MetV.ofV hl (by decide +kernel) (Nat.le_of_ble_eq_true rfl) (fun κ K E => ?_)
  have K : Cx κ cX9_isLeap 2 RX9 0 0 0 0 := K
  have E : Ed κ (some .boolean) "isLeap" (.inl (some (.inl r))) A 0 0 := E
  unfold f_X9_isLeap at h
  change Vw κ A 0 0 0 [(0, .inr (.inl x0))] []
  refine Vw.lload_n (pc := 0) (x := x0) K dX9_isLeap_0 rfl ?_
  refine Vw.ldc2 (pc := 1) (v := (4 : Int64)) K u_7_58 dX9_isLeap_1 ?_
  refine Vw.lrem (pc := 4) K (by decide) dX9_isLeap_4 ?_
  refine Vw.lconst (pc := 5) (v := (0 : Int64)) K (by decide) dX9_isLeap_5 ?_
  refine Vw.lcmp_ne (pc := 6) (tgt := 34) K dX9_isLeap_6 dX9_isLeap_7 (by decide) (fun c1 => ?_) (fun c1 => ?_)
  · have h := wneg c1 h
    refine Vw.iconst (pc := 34) (v := (0 : Int32)) K (by decide) dX9_isLeap_34 ?_
    exact Vw.zretE (pc := 35) K (Or.inl rfl) (Option.some.inj h) rfl E (by decide) (by decide) dX9_isLeap_35
  · have h := wpos c1 h
    refine Vw.lload_n (pc := 10) (x := x0) K dX9_isLeap_10 rfl ?_
    refine Vw.ldc2 (pc := 11) (v := (100 : Int64)) K u_7_59 dX9_isLeap_11 ?_
    refine Vw.lrem (pc := 14) K (by decide) dX9_isLeap_14 ?_
    refine Vw.lconst (pc := 15) (v := (0 : Int64)) K (by decide) dX9_isLeap_15 ?_
    refine Vw.lcmp_ne (pc := 16) (tgt := 30) K dX9_isLeap_16 dX9_isLeap_17 (by decide) (fun c2 => ?_) (fun c2 => ?_)
    · have h := wneg c2 h
      exact Vw.loc rfl (s_X9_isLeap_30 K E  h)
    · have h := wpos c2 h
      refine Vw.lload_n (pc := 20) (x := x0) K dX9_isLeap_20 rfl ?_
      refine Vw.ldc2 (pc := 21) (v := (400 : Int64)) K u_7_60 dX9_isLeap_21 ?_
      refine Vw.lrem (pc := 24) K (by decide) dX9_isLeap_24 ?_
      refine Vw.lconst (pc := 25) (v := (0 : Int64)) K (by decide) dX9_isLeap_25 ?_
      refine Vw.lcmp_ne (pc := 26) (tgt := 34) K dX9_isLeap_26 dX9_isLeap_27 (by decide) (fun c3 => ?_) (fun c3 => ?_)
      · have h := wneg c3 h
        refine Vw.iconst (pc := 34) (v := (0 : Int32)) K (by decide) dX9_isLeap_34 ?_
        exact Vw.zretE (pc := 35) K (Or.inl rfl) (Option.some.inj h) rfl E (by decide) (by decide) dX9_isLeap_35
      · have h := wpos c3 h
        exact Vw.loc rfl (s_X9_isLeap_30 K E  h)
theorem cal_X9_isLeap : wCalS yX9_isLeap (.code yX9_isLeap cX9_isLeap 2 (some .boolean)) 1 := ⟨by decide +kernel, u_7_56, u_1_9, u_7_57⟩
def k_X9_daysOf_59  (A : Hp)   : Option (Int64) := some (30 : Int64)
set_option maxRecDepth 100000 in
theorem s_X9_daysOf_59 {κ : KT} {r : Int64} {A : Hp}    (K : Cx κ cX9_daysOf 4 RX9 1 21 0 0) (E : Ed κ (some .long) "daysOf" (.inl (some (.inr (.inl r)))) A 0 0)  (h : k_X9_daysOf_59  A   = some r) : Vw κ A 0 0 59 [] [] := by
  unfold k_X9_daysOf_59 at h
  refine Vw.ldc2 (pc := 59) (v := (30 : Int64)) K u_7_0 dX9_daysOf_59 ?_
  refine Vw.goto (pc := 62) (tgt := 68) K dX9_daysOf_62 (by decide) ?_
  exact Vw.lretE (pc := 68) K (Option.some.inj h) rfl E (by decide) (by decide) dX9_daysOf_68
def f_X9_daysOf (A : Hp) (x0 : Int64) (x2 : Int64) : Option (Int64) := (if x0 = (2 : Int64) then ((f_X9_isLeap A x2).bind fun v7 => (if v7 = (0 : Int32) then some (28 : Int64) else some (29 : Int64))) else (if x0 = (4 : Int64) then k_X9_daysOf_59 A else (if x0 = (6 : Int64) then k_X9_daysOf_59 A else (if x0 = (9 : Int64) then k_X9_daysOf_59 A else (if x0 = (11 : Int64) then k_X9_daysOf_59 A else some (31 : Int64))))))
set_option maxRecDepth 100000 in
theorem s_X9_daysOf {l : Launch} {g : GT} (hl : l.stackTraces = false) {A : Hp} {x0 : Int64} {x2 : Int64} {r : Int64} (h : f_X9_daysOf A x0 x2 = some r) : MetV l g yX9_daysOf (.code yX9_daysOf cX9_daysOf 4 (some .long)) [.inr (.inl x0), .inr (.inl x2)] A (.inl (some (.inr (.inl r)))) A 1 21 0 0 := by
  refine MetV.ofV hl (by decide +kernel) (Nat.le_of_ble_eq_true rfl) (fun κ K E => ?_)
  have K : Cx κ cX9_daysOf 4 RX9 1 21 0 0 := K
  have E : Ed κ (some .long) "daysOf" (.inl (some (.inr (.inl r)))) A 0 0 := E
  unfold f_X9_daysOf at h
  change Vw κ A 0 0 0 [(0, .inr (.inl x0)), (2, .inr (.inl x2))] []
  refine Vw.lload_n (pc := 0) (x := x0) K dX9_daysOf_0 rfl ?_
  refine Vw.ldc2 (pc := 1) (v := (2 : Int64)) K u_7_54 dX9_daysOf_1 ?_
  refine Vw.lcmp_ne (pc := 4) (tgt := 27) K dX9_daysOf_4 dX9_daysOf_5 (by decide) (fun c1 => ?_) (fun c1 => ?_)
  · have h := wneg c1 h
    refine Vw.lload_n (pc := 27) (x := x0) K dX9_daysOf_27 rfl ?_
    refine Vw.ldc2 (pc := 28) (v := (4 : Int64)) K u_7_58 dX9_daysOf_28 ?_
    refine Vw.lcmp_eq (pc := 31) (tgt := 59) K dX9_daysOf_31 dX9_daysOf_32 (by decide) (fun c2 => ?_) (fun c2 => ?_)
    · have h := wpos c2 h
      exact Vw.loc rfl (s_X9_daysOf_59 K E  h)
    · have h := wneg c2 h
      refine Vw.lload_n (pc := 35) (x := x0) K dX9_daysOf_35 rfl ?_
      refine Vw.ldc2 (pc := 36) (v := (6 : Int64)) K u_7_1 dX9_daysOf_36 ?_
      refine Vw.lcmp_eq (pc := 39) (tgt := 59) K dX9_daysOf_39 dX9_daysOf_40 (by decide) (fun c3 => ?_) (fun c3 => ?_)
      · have h := wpos c3 h
        exact Vw.loc rfl (s_X9_daysOf_59 K E  h)
      · have h := wneg c3 h
        refine Vw.lload_n (pc := 43) (x := x0) K dX9_daysOf_43 rfl ?_
        refine Vw.ldc2 (pc := 44) (v := (9 : Int64)) K u_7_63 dX9_daysOf_44 ?_
        refine Vw.lcmp_eq (pc := 47) (tgt := 59) K dX9_daysOf_47 dX9_daysOf_48 (by decide) (fun c4 => ?_) (fun c4 => ?_)
        · have h := wpos c4 h
          exact Vw.loc rfl (s_X9_daysOf_59 K E  h)
        · have h := wneg c4 h
          refine Vw.lload_n (pc := 51) (x := x0) K dX9_daysOf_51 rfl ?_
          refine Vw.ldc2 (pc := 52) (v := (11 : Int64)) K u_7_64 dX9_daysOf_52 ?_
          refine Vw.lcmp_ne (pc := 55) (tgt := 65) K dX9_daysOf_55 dX9_daysOf_56 (by decide) (fun c5 => ?_) (fun c5 => ?_)
          · have h := wneg c5 h
            refine Vw.ldc2 (pc := 65) (v := (31 : Int64)) K u_7_65 dX9_daysOf_65 ?_
            exact Vw.lretE (pc := 68) K (Option.some.inj h) rfl E (by decide) (by decide) dX9_daysOf_68
          · have h := wpos c5 h
            exact Vw.loc rfl (s_X9_daysOf_59 K E  h)
  · have h := wpos c1 h
    refine Vw.lload_n (pc := 8) (x := x2) K dX9_daysOf_8 rfl ?_
    obtain ⟨v7, e6, h⟩ := wbd h
    refine Vw.cS1 (pc := 9) (v := .inl v7) (c' := 0) (n' := 0) K (s_X9_isLeap K.tr e6) cal_X9_isLeap u_7_55 rfl ⟨by decide, by decide⟩ ⟨by decide, by decide⟩ rfl (Nat.le_of_ble_eq_true rfl) dX9_daysOf_9 rfl rfl ?_
    refine Vw.if_eq (pc := 12) (tgt := 21) K dX9_daysOf_12 (by decide) (fun c8 => ?_) (fun c8 => ?_)
    · have h := wpos c8 h
      refine Vw.ldc2 (pc := 21) (v := (28 : Int64)) K u_7_62 dX9_daysOf_21 ?_
      refine Vw.goto (pc := 24) (tgt := 68) K dX9_daysOf_24 (by decide) ?_
      exact Vw.lretE (pc := 68) K (Option.some.inj h) rfl E (by decide) (by decide) dX9_daysOf_68
    · have h := wneg c8 h
      refine Vw.ldc2 (pc := 15) (v := (29 : Int64)) K u_7_61 dX9_daysOf_15 ?_
      refine Vw.goto (pc := 18) (tgt := 68) K dX9_daysOf_18 (by decide) ?_
      exact Vw.lretE (pc := 68) K (Option.some.inj h) rfl E (by decide) (by decide) dX9_daysOf_68
theorem cal_X9_daysOf : wCalS yX9_daysOf (.code yX9_daysOf cX9_daysOf 4 (some .long)) 2 := ⟨by decide +kernel, u_7_52, u_1_9, u_7_53⟩
def k_X9_monthAt_90 (rec2 : Int32 → Option (Int64)) (A : Hp) (x0 : Nat) (x1 : Int32) (x2 : Int32)  : Option (Int64) := rec2 (x2 + (1 : Int32))
set_option maxRecDepth 100000 in
theorem s_X9_monthAt_90 {κ : KT} {r : Int64} {A : Hp} {x0 : Nat} {x1 : Int32} {x2 : Int32}  {rec2 : Int32 → Option (Int64)} (K : Cx κ cX9_monthAt 3 RX9 0 0 0 0) (E : Ed κ (some .long) "monthAt" (.inl (some (.inr (.inl r)))) A 0 0) (hr2 : ∀ (x2 : Int32), rec2 x2 = some r → Vw κ A 0 0 2 [(0, .inr (.inr x0)), (1, .inl x1), (2, .inl x2)] []) (h : k_X9_monthAt_90 rec2 A x0 x1 x2  = some r) : Vw κ A 0 0 90 [(0, .inr (.inr x0)), (1, .inl x1), (2, .inl x2)] [] := by
  unfold k_X9_monthAt_90 at h
  refine Vw.iinc (pc := 90) (x := x2) (v := (1 : Int32)) K dX9_monthAt_90 rfl (by decide) (by decide) ?_
  refine Vw.goto (pc := 93) (tgt := 2) K dX9_monthAt_93 (by decide) ?_
  exact Vw.loc rfl (hr2 _ h)
def k_X9_monthAt_2s (A : Hp) (x0 : Nat) (x1 : Int32)  (rec2 : Int32 → Option (Int64))  (x2 : Int32) : Option (Int64) := (if (12 : Int32) ≤ x2 then some (0 : Int64) else if (hsh A x0).1 = 8 then if (hsh A (hgR A 448 x0 0)).1 = 11 then if wix ((8400 : Int32) + x1) (hsh A (hgR A 448 x0 0)).2 then if (hsh A (hgR A 471 x0 0)).1 = 9 then if wix ((3 : Int32) * x2) (hsh A (hgR A 471 x0 0)).2 then (if (hgL A 1035 (hgR A 448 x0 0) ((8400 : Int32) + x1).toNatClampNeg) = ((hgI A 1033 (hgR A 471 x0 0) ((3 : Int32) * x2).toNatClampNeg).toInt64) then if wix (((8400 : Int32) + x1) + (1 : Int32)) (hsh A (hgR A 448 x0 0)).2 then if wix (((3 : Int32) * x2) + (1 : Int32)) (hsh A (hgR A 471 x0 0)).2 then (if (hgL A 1035 (hgR A 448 x0 0) (((8400 : Int32) + x1) + (1 : Int32)).toNatClampNeg) = ((hgI A 1033 (hgR A 471 x0 0) (((3 : Int32) * x2) + (1 : Int32)).toNatClampNeg).toInt64) then if wix (((8400 : Int32) + x1) + (2 : Int32)) (hsh A (hgR A 448 x0 0)).2 then if wix (((3 : Int32) * x2) + (2 : Int32)) (hsh A (hgR A 471 x0 0)).2 then (if (hgL A 1035 (hgR A 448 x0 0) (((8400 : Int32) + x1) + (2 : Int32)).toNatClampNeg) = ((hgI A 1033 (hgR A 471 x0 0) (((3 : Int32) * x2) + (2 : Int32)).toNatClampNeg).toInt64) then some (x2.toInt64 + (1 : Int64)) else k_X9_monthAt_90 rec2 A x0 x1 x2) else none else none else k_X9_monthAt_90 rec2 A x0 x1 x2) else none else none else k_X9_monthAt_90 rec2 A x0 x1 x2) else none else none else none else none else none)
def k_X9_monthAt_2 (A : Hp) (x0 : Nat) (x1 : Int32)  : Nat → Int32 → Option (Int64)
  | 0 => fun _ => none
  | fu + 1 => k_X9_monthAt_2s A x0 x1  (k_X9_monthAt_2 A x0 x1  fu)
set_option maxRecDepth 100000 in
theorem s_X9_monthAt_2 {κ : KT} {r : Int64} {A : Hp} {x0 : Nat} {x1 : Int32}  (K : Cx κ cX9_monthAt 3 RX9 0 0 0 0) (E : Ed κ (some .long) "monthAt" (.inl (some (.inr (.inl r)))) A 0 0)  : ∀ (fu : Nat)  (x2 : Int32),  k_X9_monthAt_2 A x0 x1  fu x2 = some r → Vw κ A 0 0 2 [(0, .inr (.inr x0)), (1, .inl x1), (2, .inl x2)] [] := by
  intro fu
  induction fu with
  | zero => intro x2 h; cases h
  | succ fu hr2 =>
    intro x2 h
    have h : k_X9_monthAt_2s A x0 x1  (k_X9_monthAt_2 A x0 x1  fu) x2 = some r := h
    unfold k_X9_monthAt_2s at h
    refine Vw.iload_n (pc := 2) (x := x2) K dX9_monthAt_2 rfl ?_
    refine Vw.bipush (pc := 3) (v := (12 : Int32)) K (by decide) dX9_monthAt_3 ?_
    refine Vw.icmp_ge (pc := 5) (tgt := 96) K dX9_monthAt_5 (by decide) (fun c1 => ?_) (fun c1 => ?_)
    · have h := wpos c1 h
      refine Vw.lconst (pc := 96) (v := (0 : Int64)) K (by decide) dX9_monthAt_96 ?_
      exact Vw.lretE (pc := 97) K (Option.some.inj h) rfl E (by decide) (by decide) dX9_monthAt_97
    · have h := wneg c1 h
      refine Vw.aload_n (pc := 8) (x := x0) K dX9_monthAt_8 rfl ?_
      obtain ⟨g2, h⟩ := wgd h
      refine Vw.getR (pc := 9) (k := 0) (f := 448) K cls7 rfl rfl u_6_17 g2 dX9_monthAt_9 ?_
      refine Vw.sipush (pc := 12) (v := (8400 : Int32)) K (by decide) dX9_monthAt_12 ?_
      refine Vw.iload_n (pc := 15) (x := x1) K dX9_monthAt_15 rfl ?_
      refine Vw.iadd (pc := 16) K dX9_monthAt_16 ?_
      obtain ⟨g3, h⟩ := wgd h
      obtain ⟨g4, h⟩ := wgd h
      refine Vw.laload (pc := 17) K g3 g4 dX9_monthAt_17 ?_
      refine Vw.aload_n (pc := 18) (x := x0) K dX9_monthAt_18 rfl ?_
      refine Vw.getR (pc := 19) (k := 23) (f := 471) K cls7 rfl rfl u_6_40 g2 dX9_monthAt_19 ?_
      refine Vw.iconst (pc := 22) (v := (3 : Int32)) K (by decide) dX9_monthAt_22 ?_
      refine Vw.iload_n (pc := 23) (x := x2) K dX9_monthAt_23 rfl ?_
      refine Vw.imul (pc := 24) K dX9_monthAt_24 ?_
      obtain ⟨g5, h⟩ := wgd h
      obtain ⟨g6, h⟩ := wgd h
      refine Vw.caload (pc := 25) K g5 g6 dX9_monthAt_25 ?_
      refine Vw.i2l (pc := 26) K dX9_monthAt_26 ?_
      refine Vw.lcmp_ne (pc := 27) (tgt := 90) K dX9_monthAt_27 dX9_monthAt_28 (by decide) (fun c7 => ?_) (fun c7 => ?_)
      · have h := wneg c7 h
        exact Vw.loc rfl (s_X9_monthAt_90 K E hr2 h)
      · have h := wpos c7 h
        refine Vw.aload_n (pc := 31) (x := x0) K dX9_monthAt_31 rfl ?_
        refine Vw.getR (pc := 32) (k := 0) (f := 448) K cls7 rfl rfl u_6_17 g2 dX9_monthAt_32 ?_
        refine Vw.sipush (pc := 35) (v := (8400 : Int32)) K (by decide) dX9_monthAt_35 ?_
        refine Vw.iload_n (pc := 38) (x := x1) K dX9_monthAt_38 rfl ?_
        refine Vw.iadd (pc := 39) K dX9_monthAt_39 ?_
        refine Vw.iconst (pc := 40) (v := (1 : Int32)) K (by decide) dX9_monthAt_40 ?_
        refine Vw.iadd (pc := 41) K dX9_monthAt_41 ?_
        obtain ⟨g8, h⟩ := wgd h
        refine Vw.laload (pc := 42) K g3 g8 dX9_monthAt_42 ?_
        refine Vw.aload_n (pc := 43) (x := x0) K dX9_monthAt_43 rfl ?_
        refine Vw.getR (pc := 44) (k := 23) (f := 471) K cls7 rfl rfl u_6_40 g2 dX9_monthAt_44 ?_
        refine Vw.iconst (pc := 47) (v := (3 : Int32)) K (by decide) dX9_monthAt_47 ?_
        refine Vw.iload_n (pc := 48) (x := x2) K dX9_monthAt_48 rfl ?_
        refine Vw.imul (pc := 49) K dX9_monthAt_49 ?_
        refine Vw.iconst (pc := 50) (v := (1 : Int32)) K (by decide) dX9_monthAt_50 ?_
        refine Vw.iadd (pc := 51) K dX9_monthAt_51 ?_
        obtain ⟨g9, h⟩ := wgd h
        refine Vw.caload (pc := 52) K g5 g9 dX9_monthAt_52 ?_
        refine Vw.i2l (pc := 53) K dX9_monthAt_53 ?_
        refine Vw.lcmp_ne (pc := 54) (tgt := 90) K dX9_monthAt_54 dX9_monthAt_55 (by decide) (fun c10 => ?_) (fun c10 => ?_)
        · have h := wneg c10 h
          exact Vw.loc rfl (s_X9_monthAt_90 K E hr2 h)
        · have h := wpos c10 h
          refine Vw.aload_n (pc := 58) (x := x0) K dX9_monthAt_58 rfl ?_
          refine Vw.getR (pc := 59) (k := 0) (f := 448) K cls7 rfl rfl u_6_17 g2 dX9_monthAt_59 ?_
          refine Vw.sipush (pc := 62) (v := (8400 : Int32)) K (by decide) dX9_monthAt_62 ?_
          refine Vw.iload_n (pc := 65) (x := x1) K dX9_monthAt_65 rfl ?_
          refine Vw.iadd (pc := 66) K dX9_monthAt_66 ?_
          refine Vw.iconst (pc := 67) (v := (2 : Int32)) K (by decide) dX9_monthAt_67 ?_
          refine Vw.iadd (pc := 68) K dX9_monthAt_68 ?_
          obtain ⟨g11, h⟩ := wgd h
          refine Vw.laload (pc := 69) K g3 g11 dX9_monthAt_69 ?_
          refine Vw.aload_n (pc := 70) (x := x0) K dX9_monthAt_70 rfl ?_
          refine Vw.getR (pc := 71) (k := 23) (f := 471) K cls7 rfl rfl u_6_40 g2 dX9_monthAt_71 ?_
          refine Vw.iconst (pc := 74) (v := (3 : Int32)) K (by decide) dX9_monthAt_74 ?_
          refine Vw.iload_n (pc := 75) (x := x2) K dX9_monthAt_75 rfl ?_
          refine Vw.imul (pc := 76) K dX9_monthAt_76 ?_
          refine Vw.iconst (pc := 77) (v := (2 : Int32)) K (by decide) dX9_monthAt_77 ?_
          refine Vw.iadd (pc := 78) K dX9_monthAt_78 ?_
          obtain ⟨g12, h⟩ := wgd h
          refine Vw.caload (pc := 79) K g5 g12 dX9_monthAt_79 ?_
          refine Vw.i2l (pc := 80) K dX9_monthAt_80 ?_
          refine Vw.lcmp_ne (pc := 81) (tgt := 90) K dX9_monthAt_81 dX9_monthAt_82 (by decide) (fun c13 => ?_) (fun c13 => ?_)
          · have h := wneg c13 h
            exact Vw.loc rfl (s_X9_monthAt_90 K E hr2 h)
          · have h := wpos c13 h
            refine Vw.iload_n (pc := 85) (x := x2) K dX9_monthAt_85 rfl ?_
            refine Vw.i2l (pc := 86) K dX9_monthAt_86 ?_
            refine Vw.lconst (pc := 87) (v := (1 : Int64)) K (by decide) dX9_monthAt_87 ?_
            refine Vw.ladd (pc := 88) K dX9_monthAt_88 ?_
            exact Vw.lretE (pc := 89) K (Option.some.inj h) rfl E (by decide) (by decide) dX9_monthAt_89
def f_X9_monthAt (A : Hp) (x0 : Nat) (x1 : Int32) : Option (Int64) := k_X9_monthAt_2 A x0 x1 FU (0 : Int32)
set_option maxRecDepth 100000 in
theorem s_X9_monthAt {l : Launch} {g : GT} (hl : l.stackTraces = false) {A : Hp} {x0 : Nat} {x1 : Int32} {r : Int64} (h : f_X9_monthAt A x0 x1 = some r) : MetV l g yX9_monthAt (.code yX9_monthAt cX9_monthAt 3 (some .long)) [.inr (.inr x0), .inl x1] A (.inl (some (.inr (.inl r)))) A 0 0 0 0 := by
  refine MetV.ofV hl (by decide +kernel) (Nat.le_of_ble_eq_true rfl) (fun κ K E => ?_)
  have K : Cx κ cX9_monthAt 3 RX9 0 0 0 0 := K
  have E : Ed κ (some .long) "monthAt" (.inl (some (.inr (.inl r)))) A 0 0 := E
  unfold f_X9_monthAt at h
  change Vw κ A 0 0 0 [(0, .inr (.inr x0)), (1, .inl x1)] []
  refine Vw.iconst (pc := 0) (v := (0 : Int32)) K (by decide) dX9_monthAt_0 ?_
  refine Vw.istore_n (pc := 1) K dX9_monthAt_1 (by decide) ?_
  exact Vw.loc rfl (s_X9_monthAt_2 K E  _ _ h)
theorem cal_X9_monthAt : wCalV RX9 yX9_monthAt (.code yX9_monthAt cX9_monthAt 3 (some .long)) 1 := ⟨by decide +kernel, u_7_48, us_4_10, u_1_9, u_7_49⟩
def k_X9_readsDate_319 (rec292 : Hp → Int64 → Int64 → Option (Hp)) (A : Hp) (x0 : Nat) (x7 : Int64) (x9 : Int64) (x11 : Int64) (x13 : Int64) (x17 : Int64) (t0 : Int64) (t1 : Int64) : Option (Hp) := rec292 A (t0 + t1) (x17 + (1 : Int64))
set_option maxRecDepth 100000 in
theorem s_X9_readsDate_319 {κ : KT} {B : Hp} {A : Hp} {x0 : Nat} {x7 : Int64} {x9 : Int64} {x11 : Int64} {x13 : Int64} {x17 : Int64} {t0 : Int64} {t1 : Int64} {rec292 : Hp → Int64 → Int64 → Option (Hp)} (K : Cx κ cX9_readsDate 19 RX9 3 71 0 0) (E : Ed κ none "readsDate" (.inl none) B 0 0) (hr292 : ∀ (A : Hp) (x15 : Int64) (x17 : Int64), rec292 A x15 x17 = some B → Vw κ A 0 0 292 [(0, .inr (.inr x0)), (7, .inr (.inl x7)), (9, .inr (.inl x9)), (11, .inr (.inl x11)), (13, .inr (.inl x13)), (15, .inr (.inl x15)), (17, .inr (.inl x17))] []) (h : k_X9_readsDate_319 rec292 A x0 x7 x9 x11 x13 x17 t0 t1 = some B) : Vw κ A 0 0 319 [(0, .inr (.inr x0)), (7, .inr (.inl x7)), (9, .inr (.inl x9)), (11, .inr (.inl x11)), (13, .inr (.inl x13)), (17, .inr (.inl x17))] [.inr (.inl t1), .inr (.inl t0)] := by
  unfold k_X9_readsDate_319 at h
  refine Vw.ladd (pc := 319) K dX9_readsDate_319 ?_
  refine Vw.lstore (pc := 320) K dX9_readsDate_320 (by decide) ?_
  refine Vw.lload (pc := 322) (x := x17) K dX9_readsDate_322 rfl ?_
  refine Vw.lconst (pc := 324) (v := (1 : Int64)) K (by decide) dX9_readsDate_324 ?_
  refine Vw.ladd (pc := 325) K dX9_readsDate_325 ?_
  refine Vw.lstore (pc := 326) K dX9_readsDate_326 (by decide) ?_
  refine Vw.goto (pc := 328) (tgt := 292) K dX9_readsDate_328 (by decide) ?_
  exact Vw.loc rfl (hr292 _ _ _ h)
def k_X9_readsDate_292s  (x0 : Nat) (x7 : Int64) (x9 : Int64) (x11 : Int64) (x13 : Int64)  (rec292 : Hp → Int64 → Int64 → Option (Hp)) (A : Hp) (x15 : Int64) (x17 : Int64) : Option (Hp) := (if x7 ≤ x17 then if (hsh A x0).1 = 8 then some (hsL (hsI A 474 x0 0 (1 : Int32)) 475 x0 0 (((((86400 : Int64) * x15) + ((3600 : Int64) * x9)) + ((60 : Int64) * x11)) + x13)) else none else ((f_X9_isLeap A x17).bind fun v4 => (if v4 = (0 : Int32) then k_X9_readsDate_319 rec292 A x0 x7 x9 x11 x13 x17 x15 (365 : Int64) else k_X9_readsDate_319 rec292 A x0 x7 x9 x11 x13 x17 x15 (366 : Int64))))
def k_X9_readsDate_292  (x0 : Nat) (x7 : Int64) (x9 : Int64) (x11 : Int64) (x13 : Int64)  : Nat → Hp → Int64 → Int64 → Option (Hp)
  | 0 => fun _ _ _ => none
  | fu + 1 => k_X9_readsDate_292s x0 x7 x9 x11 x13  (k_X9_readsDate_292 x0 x7 x9 x11 x13  fu)
set_option maxRecDepth 100000 in
theorem s_X9_readsDate_292 {κ : KT} {B : Hp}  {x0 : Nat} {x7 : Int64} {x9 : Int64} {x11 : Int64} {x13 : Int64}  (K : Cx κ cX9_readsDate 19 RX9 3 71 0 0) (E : Ed κ none "readsDate" (.inl none) B 0 0)  : ∀ (fu : Nat) (A : Hp) (x15 : Int64) (x17 : Int64),  k_X9_readsDate_292 x0 x7 x9 x11 x13  fu A x15 x17 = some B → Vw κ A 0 0 292 [(0, .inr (.inr x0)), (7, .inr (.inl x7)), (9, .inr (.inl x9)), (11, .inr (.inl x11)), (13, .inr (.inl x13)), (15, .inr (.inl x15)), (17, .inr (.inl x17))] [] := by
  intro fu
  induction fu with
  | zero => intro A x15 x17 h; cases h
  | succ fu hr292 =>
    intro A x15 x17 h
    have h : k_X9_readsDate_292s x0 x7 x9 x11 x13  (k_X9_readsDate_292 x0 x7 x9 x11 x13  fu) A x15 x17 = some B := h
    unfold k_X9_readsDate_292s at h
    refine Vw.lload (pc := 292) (x := x17) K dX9_readsDate_292 rfl ?_
    refine Vw.lload (pc := 294) (x := x7) K dX9_readsDate_294 rfl ?_
    refine Vw.lcmp_ge (pc := 296) (tgt := 331) K dX9_readsDate_296 dX9_readsDate_297 (by decide) (fun c1 => ?_) (fun c1 => ?_)
    · have h := wpos c1 h
      refine Vw.aload_n (pc := 331) (x := x0) K dX9_readsDate_331 rfl ?_
      refine Vw.iconst (pc := 332) (v := (1 : Int32)) K (by decide) dX9_readsDate_332 ?_
      obtain ⟨g2, h⟩ := wgd h
      refine Vw.putI (pc := 333) (k := 26) (f := 474) K cls7 rfl rfl u_6_43 g2 (Or.inl rfl) (wZ_n (Or.inr rfl)) (wZ_f (Or.inr rfl)) dX9_readsDate_333 ?_
      refine Vw.aload_n (pc := 336) (x := x0) K dX9_readsDate_336 rfl ?_
      refine Vw.ldc2 (pc := 337) (v := (86400 : Int64)) K u_7_70 dX9_readsDate_337 ?_
      refine Vw.lload (pc := 340) (x := x15) K dX9_readsDate_340 rfl ?_
      refine Vw.lmul (pc := 342) K dX9_readsDate_342 ?_
      refine Vw.ldc2 (pc := 343) (v := (3600 : Int64)) K u_7_71 dX9_readsDate_343 ?_
      refine Vw.lload (pc := 346) (x := x9) K dX9_readsDate_346 rfl ?_
      refine Vw.lmul (pc := 348) K dX9_readsDate_348 ?_
      refine Vw.ladd (pc := 349) K dX9_readsDate_349 ?_
      refine Vw.ldc2 (pc := 350) (v := (60 : Int64)) K u_7_72 dX9_readsDate_350 ?_
      refine Vw.lload (pc := 353) (x := x11) K dX9_readsDate_353 rfl ?_
      refine Vw.lmul (pc := 355) K dX9_readsDate_355 ?_
      refine Vw.ladd (pc := 356) K dX9_readsDate_356 ?_
      refine Vw.lload (pc := 357) (x := x13) K dX9_readsDate_357 rfl ?_
      refine Vw.ladd (pc := 359) K dX9_readsDate_359 ?_
      refine Vw.putL (pc := 360) (k := 27) (f := 475) K cls7 rfl rfl u_6_44 g2 (Or.inl rfl) rfl rfl dX9_readsDate_360 ?_
      exact Vw.vretE (pc := 363) K (Option.some.inj h) E (by decide) (by decide) dX9_readsDate_363
    · have h := wneg c1 h
      refine Vw.lload (pc := 300) (x := x15) K dX9_readsDate_300 rfl ?_
      refine Vw.lload (pc := 302) (x := x17) K dX9_readsDate_302 rfl ?_
      obtain ⟨v4, e3, h⟩ := wbd h
      refine Vw.cS1 (pc := 304) (v := .inl v4) (c' := 0) (n' := 0) K (s_X9_isLeap K.tr e3) cal_X9_isLeap u_7_55 rfl ⟨by decide, by decide⟩ ⟨by decide, by decide⟩ rfl (Nat.le_of_ble_eq_true rfl) dX9_readsDate_304 rfl rfl ?_
      refine Vw.if_eq (pc := 307) (tgt := 316) K dX9_readsDate_307 (by decide) (fun c5 => ?_) (fun c5 => ?_)
      · have h := wpos c5 h
        refine Vw.ldc2 (pc := 316) (v := (365 : Int64)) K u_7_69 dX9_readsDate_316 ?_
        exact Vw.loc rfl (s_X9_readsDate_319 K E hr292 h)
      · have h := wneg c5 h
        refine Vw.ldc2 (pc := 310) (v := (366 : Int64)) K u_7_68 dX9_readsDate_310 ?_
        refine Vw.goto (pc := 313) (tgt := 319) K dX9_readsDate_313 (by decide) ?_
        exact Vw.loc rfl (s_X9_readsDate_319 K E hr292 h)
def k_X9_readsDate_258s  (x0 : Nat) (x5 : Int64) (x7 : Int64) (x9 : Int64) (x11 : Int64) (x13 : Int64)  (rec258 : Hp → Int64 → Int64 → Option (Hp)) (A : Hp) (x15 : Int64) (x17 : Int64) : Option (Hp) := (if x5 ≤ x17 then k_X9_readsDate_292 x0 x7 x9 x11 x13 FU A x15 (1970 : Int64) else ((f_X9_daysOf A x17 x7).bind fun v8 => rec258 A (x15 + v8) (x17 + (1 : Int64))))
def k_X9_readsDate_258  (x0 : Nat) (x5 : Int64) (x7 : Int64) (x9 : Int64) (x11 : Int64) (x13 : Int64)  : Nat → Hp → Int64 → Int64 → Option (Hp)
  | 0 => fun _ _ _ => none
  | fu + 1 => k_X9_readsDate_258s x0 x5 x7 x9 x11 x13  (k_X9_readsDate_258 x0 x5 x7 x9 x11 x13  fu)
set_option maxRecDepth 100000 in
theorem s_X9_readsDate_258 {κ : KT} {B : Hp}  {x0 : Nat} {x5 : Int64} {x7 : Int64} {x9 : Int64} {x11 : Int64} {x13 : Int64}  (K : Cx κ cX9_readsDate 19 RX9 3 71 0 0) (E : Ed κ none "readsDate" (.inl none) B 0 0)  : ∀ (fu : Nat) (A : Hp) (x15 : Int64) (x17 : Int64),  k_X9_readsDate_258 x0 x5 x7 x9 x11 x13  fu A x15 x17 = some B → Vw κ A 0 0 258 [(0, .inr (.inr x0)), (5, .inr (.inl x5)), (7, .inr (.inl x7)), (9, .inr (.inl x9)), (11, .inr (.inl x11)), (13, .inr (.inl x13)), (15, .inr (.inl x15)), (17, .inr (.inl x17))] [] := by
  intro fu
  induction fu with
  | zero => intro A x15 x17 h; cases h
  | succ fu hr258 =>
    intro A x15 x17 h
    have h : k_X9_readsDate_258s x0 x5 x7 x9 x11 x13  (k_X9_readsDate_258 x0 x5 x7 x9 x11 x13  fu) A x15 x17 = some B := h
    unfold k_X9_readsDate_258s at h
    refine Vw.lload (pc := 258) (x := x17) K dX9_readsDate_258 rfl ?_
    refine Vw.lload (pc := 260) (x := x5) K dX9_readsDate_260 rfl ?_
    refine Vw.lcmp_ge (pc := 262) (tgt := 287) K dX9_readsDate_262 dX9_readsDate_263 (by decide) (fun c6 => ?_) (fun c6 => ?_)
    · have h := wpos c6 h
      refine Vw.ldc2 (pc := 287) (v := (1970 : Int64)) K u_7_50 dX9_readsDate_287 ?_
      refine Vw.lstore (pc := 290) K dX9_readsDate_290 (by decide) ?_
      exact Vw.loc rfl (s_X9_readsDate_292 K E  _ _ _ _ h)
    · have h := wneg c6 h
      refine Vw.lload (pc := 266) (x := x15) K dX9_readsDate_266 rfl ?_
      refine Vw.lload (pc := 268) (x := x17) K dX9_readsDate_268 rfl ?_
      refine Vw.lload (pc := 270) (x := x7) K dX9_readsDate_270 rfl ?_
      obtain ⟨v8, e7, h⟩ := wbd h
      refine Vw.cS1 (pc := 272) (v := .inr (.inl v8)) (c' := 0) (n' := 0) K (s_X9_daysOf K.tr e7) cal_X9_daysOf u_7_51 rfl ⟨by decide, by decide⟩ ⟨by decide, by decide⟩ rfl (Nat.le_of_ble_eq_true rfl) dX9_readsDate_272 rfl rfl ?_
      refine Vw.ladd (pc := 275) K dX9_readsDate_275 ?_
      refine Vw.lstore (pc := 276) K dX9_readsDate_276 (by decide) ?_
      refine Vw.lload (pc := 278) (x := x17) K dX9_readsDate_278 rfl ?_
      refine Vw.lconst (pc := 280) (v := (1 : Int64)) K (by decide) dX9_readsDate_280 ?_
      refine Vw.ladd (pc := 281) K dX9_readsDate_281 ?_
      refine Vw.lstore (pc := 282) K dX9_readsDate_282 (by decide) ?_
      refine Vw.goto (pc := 284) (tgt := 258) K dX9_readsDate_284 (by decide) ?_
      exact Vw.loc rfl (hr258 _ _ _ h)
def f_X9_readsDate (A : Hp) (x0 : Nat) (x1 : Int32) (x2 : Int32) : Option (Hp) := (if (x2 - x1) = (20 : Int32) then if (hsh A x0).1 = 8 then if (hsh A (hgR A 448 x0 0)).1 = 11 then if wix (((8400 : Int32) + x1) + (2 : Int32)) (hsh A (hgR A 448 x0 0)).2 then (if (hgL A 1035 (hgR A 448 x0 0) (((8400 : Int32) + x1) + (2 : Int32)).toNatClampNeg) = (32 : Int64) then if wix (((8400 : Int32) + x1) + (6 : Int32)) (hsh A (hgR A 448 x0 0)).2 then (if (hgL A 1035 (hgR A 448 x0 0) (((8400 : Int32) + x1) + (6 : Int32)).toNatClampNeg) = (32 : Int64) then if wix (((8400 : Int32) + x1) + (11 : Int32)) (hsh A (hgR A 448 x0 0)).2 then (if (hgL A 1035 (hgR A 448 x0 0) (((8400 : Int32) + x1) + (11 : Int32)).toNatClampNeg) = (32 : Int64) then if wix (((8400 : Int32) + x1) + (14 : Int32)) (hsh A (hgR A 448 x0 0)).2 then (if (hgL A 1035 (hgR A 448 x0 0) (((8400 : Int32) + x1) + (14 : Int32)).toNatClampNeg) = (58 : Int64) then if wix (((8400 : Int32) + x1) + (17 : Int32)) (hsh A (hgR A 448 x0 0)).2 then (if (hgL A 1035 (hgR A 448 x0 0) (((8400 : Int32) + x1) + (17 : Int32)).toNatClampNeg) = (58 : Int64) then ((f_X9_number A x0 x1 (x1 + (2 : Int32))).bind fun v23 => ((f_X9_monthAt A x0 (x1 + (3 : Int32))).bind fun v25 => ((f_X9_number A x0 (x1 + (7 : Int32)) (x1 + (11 : Int32))).bind fun v27 => ((f_X9_number A x0 (x1 + (12 : Int32)) (x1 + (14 : Int32))).bind fun v29 => ((f_X9_number A x0 (x1 + (15 : Int32)) (x1 + (17 : Int32))).bind fun v31 => ((f_X9_number A x0 (x1 + (18 : Int32)) (x1 + (20 : Int32))).bind fun v33 => (if v25 = (0 : Int64) then some A else (if v27 < (1970 : Int64) then some A else ((f_X9_daysOf A v25 v27).bind fun v37 => ((f_X9_in A v23 (1 : Int64) v37).bind fun v39 => (if v39 = (0 : Int32) then some A else ((f_X9_in A v29 (0 : Int64) (23 : Int64)).bind fun v42 => (if v42 = (0 : Int32) then some A else ((f_X9_in A v31 (0 : Int64) (59 : Int64)).bind fun v45 => (if v45 = (0 : Int32) then some A else ((f_X9_in A v33 (0 : Int64) (59 : Int64)).bind fun v48 => (if v48 = (0 : Int32) then some A else k_X9_readsDate_258 x0 v25 v27 v29 v31 v33 FU A (v23 - (1 : Int64)) (1 : Int64)))))))))))))))))) else some A) else none else some A) else none else some A) else none else some A) else none else some A) else none else none else none else some A)
set_option maxRecDepth 100000 in
theorem s_X9_readsDate {l : Launch} {g : GT} (hl : l.stackTraces = false) {A : Hp} {x0 : Nat} {x1 : Int32} {x2 : Int32} {B : Hp} (h : f_X9_readsDate A x0 x1 x2 = some B) : MetV l g yX9_readsDate (.code yX9_readsDate cX9_readsDate 19 none) [.inr (.inr x0), .inl x1, .inl x2] A (.inl none) B 3 71 0 0 := by
  refine MetV.ofV hl (by decide +kernel) (Nat.le_of_ble_eq_true rfl) (fun κ K E => ?_)
  have K : Cx κ cX9_readsDate 19 RX9 3 71 0 0 := K
  have E : Ed κ none "readsDate" (.inl none) B 0 0 := E
  unfold f_X9_readsDate at h
  change Vw κ A 0 0 0 [(0, .inr (.inr x0)), (1, .inl x1), (2, .inl x2)] []
  refine Vw.iload_n (pc := 0) (x := x2) K dX9_readsDate_0 rfl ?_
  refine Vw.iload_n (pc := 1) (x := x1) K dX9_readsDate_1 rfl ?_
  refine Vw.isub (pc := 2) K dX9_readsDate_2 ?_
  refine Vw.bipush (pc := 3) (v := (20 : Int32)) K (by decide) dX9_readsDate_3 ?_
  refine Vw.icmp_ne (pc := 5) (tgt := 107) K dX9_readsDate_5 (by decide) (fun c9 => ?_) (fun c9 => ?_)
  · have h := wneg c9 h
    exact Vw.vretE (pc := 107) K (Option.some.inj h) E (by decide) (by decide) dX9_readsDate_107
  · have h := wpos c9 h
    refine Vw.aload_n (pc := 8) (x := x0) K dX9_readsDate_8 rfl ?_
    obtain ⟨g10, h⟩ := wgd h
    refine Vw.getR (pc := 9) (k := 0) (f := 448) K cls7 rfl rfl u_6_17 g10 dX9_readsDate_9 ?_
    refine Vw.sipush (pc := 12) (v := (8400 : Int32)) K (by decide) dX9_readsDate_12 ?_
    refine Vw.iload_n (pc := 15) (x := x1) K dX9_readsDate_15 rfl ?_
    refine Vw.iadd (pc := 16) K dX9_readsDate_16 ?_
    refine Vw.iconst (pc := 17) (v := (2 : Int32)) K (by decide) dX9_readsDate_17 ?_
    refine Vw.iadd (pc := 18) K dX9_readsDate_18 ?_
    obtain ⟨g11, h⟩ := wgd h
    obtain ⟨g12, h⟩ := wgd h
    refine Vw.laload (pc := 19) K g11 g12 dX9_readsDate_19 ?_
    refine Vw.ldc2 (pc := 20) (v := (32 : Int64)) K u_6_226 dX9_readsDate_20 ?_
    refine Vw.lcmp_ne (pc := 23) (tgt := 107) K dX9_readsDate_23 dX9_readsDate_24 (by decide) (fun c13 => ?_) (fun c13 => ?_)
    · have h := wneg c13 h
      exact Vw.vretE (pc := 107) K (Option.some.inj h) E (by decide) (by decide) dX9_readsDate_107
    · have h := wpos c13 h
      refine Vw.aload_n (pc := 27) (x := x0) K dX9_readsDate_27 rfl ?_
      refine Vw.getR (pc := 28) (k := 0) (f := 448) K cls7 rfl rfl u_6_17 g10 dX9_readsDate_28 ?_
      refine Vw.sipush (pc := 31) (v := (8400 : Int32)) K (by decide) dX9_readsDate_31 ?_
      refine Vw.iload_n (pc := 34) (x := x1) K dX9_readsDate_34 rfl ?_
      refine Vw.iadd (pc := 35) K dX9_readsDate_35 ?_
      refine Vw.bipush (pc := 36) (v := (6 : Int32)) K (by decide) dX9_readsDate_36 ?_
      refine Vw.iadd (pc := 38) K dX9_readsDate_38 ?_
      obtain ⟨g14, h⟩ := wgd h
      refine Vw.laload (pc := 39) K g11 g14 dX9_readsDate_39 ?_
      refine Vw.ldc2 (pc := 40) (v := (32 : Int64)) K u_6_226 dX9_readsDate_40 ?_
      refine Vw.lcmp_ne (pc := 43) (tgt := 107) K dX9_readsDate_43 dX9_readsDate_44 (by decide) (fun c15 => ?_) (fun c15 => ?_)
      · have h := wneg c15 h
        exact Vw.vretE (pc := 107) K (Option.some.inj h) E (by decide) (by decide) dX9_readsDate_107
      · have h := wpos c15 h
        refine Vw.aload_n (pc := 47) (x := x0) K dX9_readsDate_47 rfl ?_
        refine Vw.getR (pc := 48) (k := 0) (f := 448) K cls7 rfl rfl u_6_17 g10 dX9_readsDate_48 ?_
        refine Vw.sipush (pc := 51) (v := (8400 : Int32)) K (by decide) dX9_readsDate_51 ?_
        refine Vw.iload_n (pc := 54) (x := x1) K dX9_readsDate_54 rfl ?_
        refine Vw.iadd (pc := 55) K dX9_readsDate_55 ?_
        refine Vw.bipush (pc := 56) (v := (11 : Int32)) K (by decide) dX9_readsDate_56 ?_
        refine Vw.iadd (pc := 58) K dX9_readsDate_58 ?_
        obtain ⟨g16, h⟩ := wgd h
        refine Vw.laload (pc := 59) K g11 g16 dX9_readsDate_59 ?_
        refine Vw.ldc2 (pc := 60) (v := (32 : Int64)) K u_6_226 dX9_readsDate_60 ?_
        refine Vw.lcmp_ne (pc := 63) (tgt := 107) K dX9_readsDate_63 dX9_readsDate_64 (by decide) (fun c17 => ?_) (fun c17 => ?_)
        · have h := wneg c17 h
          exact Vw.vretE (pc := 107) K (Option.some.inj h) E (by decide) (by decide) dX9_readsDate_107
        · have h := wpos c17 h
          refine Vw.aload_n (pc := 67) (x := x0) K dX9_readsDate_67 rfl ?_
          refine Vw.getR (pc := 68) (k := 0) (f := 448) K cls7 rfl rfl u_6_17 g10 dX9_readsDate_68 ?_
          refine Vw.sipush (pc := 71) (v := (8400 : Int32)) K (by decide) dX9_readsDate_71 ?_
          refine Vw.iload_n (pc := 74) (x := x1) K dX9_readsDate_74 rfl ?_
          refine Vw.iadd (pc := 75) K dX9_readsDate_75 ?_
          refine Vw.bipush (pc := 76) (v := (14 : Int32)) K (by decide) dX9_readsDate_76 ?_
          refine Vw.iadd (pc := 78) K dX9_readsDate_78 ?_
          obtain ⟨g18, h⟩ := wgd h
          refine Vw.laload (pc := 79) K g11 g18 dX9_readsDate_79 ?_
          refine Vw.ldc2 (pc := 80) (v := (58 : Int64)) K u_7_36 dX9_readsDate_80 ?_
          refine Vw.lcmp_ne (pc := 83) (tgt := 107) K dX9_readsDate_83 dX9_readsDate_84 (by decide) (fun c19 => ?_) (fun c19 => ?_)
          · have h := wneg c19 h
            exact Vw.vretE (pc := 107) K (Option.some.inj h) E (by decide) (by decide) dX9_readsDate_107
          · have h := wpos c19 h
            refine Vw.aload_n (pc := 87) (x := x0) K dX9_readsDate_87 rfl ?_
            refine Vw.getR (pc := 88) (k := 0) (f := 448) K cls7 rfl rfl u_6_17 g10 dX9_readsDate_88 ?_
            refine Vw.sipush (pc := 91) (v := (8400 : Int32)) K (by decide) dX9_readsDate_91 ?_
            refine Vw.iload_n (pc := 94) (x := x1) K dX9_readsDate_94 rfl ?_
            refine Vw.iadd (pc := 95) K dX9_readsDate_95 ?_
            refine Vw.bipush (pc := 96) (v := (17 : Int32)) K (by decide) dX9_readsDate_96 ?_
            refine Vw.iadd (pc := 98) K dX9_readsDate_98 ?_
            obtain ⟨g20, h⟩ := wgd h
            refine Vw.laload (pc := 99) K g11 g20 dX9_readsDate_99 ?_
            refine Vw.ldc2 (pc := 100) (v := (58 : Int64)) K u_7_36 dX9_readsDate_100 ?_
            refine Vw.lcmp_eq (pc := 103) (tgt := 108) K dX9_readsDate_103 dX9_readsDate_104 (by decide) (fun c21 => ?_) (fun c21 => ?_)
            · have h := wpos c21 h
              refine Vw.aload_n (pc := 108) (x := x0) K dX9_readsDate_108 rfl ?_
              refine Vw.iload_n (pc := 109) (x := x1) K dX9_readsDate_109 rfl ?_
              refine Vw.iload_n (pc := 110) (x := x1) K dX9_readsDate_110 rfl ?_
              refine Vw.iconst (pc := 111) (v := (2 : Int32)) K (by decide) dX9_readsDate_111 ?_
              refine Vw.iadd (pc := 112) K dX9_readsDate_112 ?_
              obtain ⟨v23, e22, h⟩ := wbd h
              refine Vw.cV1 (pc := 113) (v := .inr (.inl v23)) (c' := 0) (n' := 0) K (s_X9_number K.tr e22) cal_X9_number cls7 u_7_37 g10 rfl ⟨by decide, by decide⟩ ⟨by decide, by decide⟩ rfl (Nat.le_of_ble_eq_true rfl) dX9_readsDate_113 rfl rfl ?_
              refine Vw.lstore_n (pc := 116) K dX9_readsDate_116 (by decide) ?_
              refine Vw.aload_n (pc := 117) (x := x0) K dX9_readsDate_117 rfl ?_
              refine Vw.iload_n (pc := 118) (x := x1) K dX9_readsDate_118 rfl ?_
              refine Vw.iconst (pc := 119) (v := (3 : Int32)) K (by decide) dX9_readsDate_119 ?_
              refine Vw.iadd (pc := 120) K dX9_readsDate_120 ?_
              obtain ⟨v25, e24, h⟩ := wbd h
              refine Vw.cV1 (pc := 121) (v := .inr (.inl v25)) (c' := 0) (n' := 0) K (s_X9_monthAt K.tr e24) cal_X9_monthAt cls7 u_7_46 g10 rfl ⟨by decide, by decide⟩ ⟨by decide, by decide⟩ rfl (Nat.le_of_ble_eq_true rfl) dX9_readsDate_121 rfl rfl ?_
              refine Vw.lstore (pc := 124) K dX9_readsDate_124 (by decide) ?_
              refine Vw.aload_n (pc := 126) (x := x0) K dX9_readsDate_126 rfl ?_
              refine Vw.iload_n (pc := 127) (x := x1) K dX9_readsDate_127 rfl ?_
              refine Vw.bipush (pc := 128) (v := (7 : Int32)) K (by decide) dX9_readsDate_128 ?_
              refine Vw.iadd (pc := 130) K dX9_readsDate_130 ?_
              refine Vw.iload_n (pc := 131) (x := x1) K dX9_readsDate_131 rfl ?_
              refine Vw.bipush (pc := 132) (v := (11 : Int32)) K (by decide) dX9_readsDate_132 ?_
              refine Vw.iadd (pc := 134) K dX9_readsDate_134 ?_
              obtain ⟨v27, e26, h⟩ := wbd h
              refine Vw.cV1 (pc := 135) (v := .inr (.inl v27)) (c' := 0) (n' := 0) K (s_X9_number K.tr e26) cal_X9_number cls7 u_7_37 g10 rfl ⟨by decide, by decide⟩ ⟨by decide, by decide⟩ rfl (Nat.le_of_ble_eq_true rfl) dX9_readsDate_135 rfl rfl ?_
              refine Vw.lstore (pc := 138) K dX9_readsDate_138 (by decide) ?_
              refine Vw.aload_n (pc := 140) (x := x0) K dX9_readsDate_140 rfl ?_
              refine Vw.iload_n (pc := 141) (x := x1) K dX9_readsDate_141 rfl ?_
              refine Vw.bipush (pc := 142) (v := (12 : Int32)) K (by decide) dX9_readsDate_142 ?_
              refine Vw.iadd (pc := 144) K dX9_readsDate_144 ?_
              refine Vw.iload_n (pc := 145) (x := x1) K dX9_readsDate_145 rfl ?_
              refine Vw.bipush (pc := 146) (v := (14 : Int32)) K (by decide) dX9_readsDate_146 ?_
              refine Vw.iadd (pc := 148) K dX9_readsDate_148 ?_
              obtain ⟨v29, e28, h⟩ := wbd h
              refine Vw.cV1 (pc := 149) (v := .inr (.inl v29)) (c' := 0) (n' := 0) K (s_X9_number K.tr e28) cal_X9_number cls7 u_7_37 g10 rfl ⟨by decide, by decide⟩ ⟨by decide, by decide⟩ rfl (Nat.le_of_ble_eq_true rfl) dX9_readsDate_149 rfl rfl ?_
              refine Vw.lstore (pc := 152) K dX9_readsDate_152 (by decide) ?_
              refine Vw.aload_n (pc := 154) (x := x0) K dX9_readsDate_154 rfl ?_
              refine Vw.iload_n (pc := 155) (x := x1) K dX9_readsDate_155 rfl ?_
              refine Vw.bipush (pc := 156) (v := (15 : Int32)) K (by decide) dX9_readsDate_156 ?_
              refine Vw.iadd (pc := 158) K dX9_readsDate_158 ?_
              refine Vw.iload_n (pc := 159) (x := x1) K dX9_readsDate_159 rfl ?_
              refine Vw.bipush (pc := 160) (v := (17 : Int32)) K (by decide) dX9_readsDate_160 ?_
              refine Vw.iadd (pc := 162) K dX9_readsDate_162 ?_
              obtain ⟨v31, e30, h⟩ := wbd h
              refine Vw.cV1 (pc := 163) (v := .inr (.inl v31)) (c' := 0) (n' := 0) K (s_X9_number K.tr e30) cal_X9_number cls7 u_7_37 g10 rfl ⟨by decide, by decide⟩ ⟨by decide, by decide⟩ rfl (Nat.le_of_ble_eq_true rfl) dX9_readsDate_163 rfl rfl ?_
              refine Vw.lstore (pc := 166) K dX9_readsDate_166 (by decide) ?_
              refine Vw.aload_n (pc := 168) (x := x0) K dX9_readsDate_168 rfl ?_
              refine Vw.iload_n (pc := 169) (x := x1) K dX9_readsDate_169 rfl ?_
              refine Vw.bipush (pc := 170) (v := (18 : Int32)) K (by decide) dX9_readsDate_170 ?_
              refine Vw.iadd (pc := 172) K dX9_readsDate_172 ?_
              refine Vw.iload_n (pc := 173) (x := x1) K dX9_readsDate_173 rfl ?_
              refine Vw.bipush (pc := 174) (v := (20 : Int32)) K (by decide) dX9_readsDate_174 ?_
              refine Vw.iadd (pc := 176) K dX9_readsDate_176 ?_
              obtain ⟨v33, e32, h⟩ := wbd h
              refine Vw.cV1 (pc := 177) (v := .inr (.inl v33)) (c' := 0) (n' := 0) K (s_X9_number K.tr e32) cal_X9_number cls7 u_7_37 g10 rfl ⟨by decide, by decide⟩ ⟨by decide, by decide⟩ rfl (Nat.le_of_ble_eq_true rfl) dX9_readsDate_177 rfl rfl ?_
              refine Vw.lstore (pc := 180) K dX9_readsDate_180 (by decide) ?_
              refine Vw.lload (pc := 182) (x := v25) K dX9_readsDate_182 rfl ?_
              refine Vw.lconst (pc := 184) (v := (0 : Int64)) K (by decide) dX9_readsDate_184 ?_
              refine Vw.lcmp_eq (pc := 185) (tgt := 249) K dX9_readsDate_185 dX9_readsDate_186 (by decide) (fun c34 => ?_) (fun c34 => ?_)
              · have h := wpos c34 h
                exact Vw.vretE (pc := 249) K (Option.some.inj h) E (by decide) (by decide) dX9_readsDate_249
              · have h := wneg c34 h
                refine Vw.lload (pc := 189) (x := v27) K dX9_readsDate_189 rfl ?_
                refine Vw.ldc2 (pc := 191) (v := (1970 : Int64)) K u_7_50 dX9_readsDate_191 ?_
                refine Vw.lcmp_lt (pc := 194) (tgt := 249) K dX9_readsDate_194 dX9_readsDate_195 (by decide) (fun c35 => ?_) (fun c35 => ?_)
                · have h := wpos c35 h
                  exact Vw.vretE (pc := 249) K (Option.some.inj h) E (by decide) (by decide) dX9_readsDate_249
                · have h := wneg c35 h
                  refine Vw.lload_n (pc := 198) (x := v23) K dX9_readsDate_198 rfl ?_
                  refine Vw.lconst (pc := 199) (v := (1 : Int64)) K (by decide) dX9_readsDate_199 ?_
                  refine Vw.lload (pc := 200) (x := v25) K dX9_readsDate_200 rfl ?_
                  refine Vw.lload (pc := 202) (x := v27) K dX9_readsDate_202 rfl ?_
                  obtain ⟨v37, e36, h⟩ := wbd h
                  refine Vw.cS1 (pc := 204) (v := .inr (.inl v37)) (c' := 0) (n' := 0) K (s_X9_daysOf K.tr e36) cal_X9_daysOf u_7_51 rfl ⟨by decide, by decide⟩ ⟨by decide, by decide⟩ rfl (Nat.le_of_ble_eq_true rfl) dX9_readsDate_204 rfl rfl ?_
                  obtain ⟨v39, e38, h⟩ := wbd h
                  refine Vw.cS1 (pc := 207) (v := .inl v39) (c' := 0) (n' := 0) K (s_X9_in K.tr e38) cal_X9_in u_6_161 rfl ⟨by decide, by decide⟩ ⟨by decide, by decide⟩ rfl (Nat.le_of_ble_eq_true rfl) dX9_readsDate_207 rfl rfl ?_
                  refine Vw.if_eq (pc := 210) (tgt := 249) K dX9_readsDate_210 (by decide) (fun c40 => ?_) (fun c40 => ?_)
                  · have h := wpos c40 h
                    exact Vw.vretE (pc := 249) K (Option.some.inj h) E (by decide) (by decide) dX9_readsDate_249
                  · have h := wneg c40 h
                    refine Vw.lload (pc := 213) (x := v29) K dX9_readsDate_213 rfl ?_
                    refine Vw.lconst (pc := 215) (v := (0 : Int64)) K (by decide) dX9_readsDate_215 ?_
                    refine Vw.ldc2 (pc := 216) (v := (23 : Int64)) K u_7_66 dX9_readsDate_216 ?_
                    obtain ⟨v42, e41, h⟩ := wbd h
                    refine Vw.cS1 (pc := 219) (v := .inl v42) (c' := 0) (n' := 0) K (s_X9_in K.tr e41) cal_X9_in u_6_161 rfl ⟨by decide, by decide⟩ ⟨by decide, by decide⟩ rfl (Nat.le_of_ble_eq_true rfl) dX9_readsDate_219 rfl rfl ?_
                    refine Vw.if_eq (pc := 222) (tgt := 249) K dX9_readsDate_222 (by decide) (fun c43 => ?_) (fun c43 => ?_)
                    · have h := wpos c43 h
                      exact Vw.vretE (pc := 249) K (Option.some.inj h) E (by decide) (by decide) dX9_readsDate_249
                    · have h := wneg c43 h
                      refine Vw.lload (pc := 225) (x := v31) K dX9_readsDate_225 rfl ?_
                      refine Vw.lconst (pc := 227) (v := (0 : Int64)) K (by decide) dX9_readsDate_227 ?_
                      refine Vw.ldc2 (pc := 228) (v := (59 : Int64)) K u_7_67 dX9_readsDate_228 ?_
                      obtain ⟨v45, e44, h⟩ := wbd h
                      refine Vw.cS1 (pc := 231) (v := .inl v45) (c' := 0) (n' := 0) K (s_X9_in K.tr e44) cal_X9_in u_6_161 rfl ⟨by decide, by decide⟩ ⟨by decide, by decide⟩ rfl (Nat.le_of_ble_eq_true rfl) dX9_readsDate_231 rfl rfl ?_
                      refine Vw.if_eq (pc := 234) (tgt := 249) K dX9_readsDate_234 (by decide) (fun c46 => ?_) (fun c46 => ?_)
                      · have h := wpos c46 h
                        exact Vw.vretE (pc := 249) K (Option.some.inj h) E (by decide) (by decide) dX9_readsDate_249
                      · have h := wneg c46 h
                        refine Vw.lload (pc := 237) (x := v33) K dX9_readsDate_237 rfl ?_
                        refine Vw.lconst (pc := 239) (v := (0 : Int64)) K (by decide) dX9_readsDate_239 ?_
                        refine Vw.ldc2 (pc := 240) (v := (59 : Int64)) K u_7_67 dX9_readsDate_240 ?_
                        obtain ⟨v48, e47, h⟩ := wbd h
                        refine Vw.cS1 (pc := 243) (v := .inl v48) (c' := 0) (n' := 0) K (s_X9_in K.tr e47) cal_X9_in u_6_161 rfl ⟨by decide, by decide⟩ ⟨by decide, by decide⟩ rfl (Nat.le_of_ble_eq_true rfl) dX9_readsDate_243 rfl rfl ?_
                        refine Vw.if_ne (pc := 246) (tgt := 250) K dX9_readsDate_246 (by decide) (fun c49 => ?_) (fun c49 => ?_)
                        · have h := wneg c49 h
                          refine Vw.lload_n (pc := 250) (x := v23) K dX9_readsDate_250 rfl ?_
                          refine Vw.lconst (pc := 251) (v := (1 : Int64)) K (by decide) dX9_readsDate_251 ?_
                          refine Vw.lsub (pc := 252) K dX9_readsDate_252 ?_
                          refine Vw.lstore (pc := 253) K dX9_readsDate_253 (by decide) ?_
                          refine Vw.lconst (pc := 255) (v := (1 : Int64)) K (by decide) dX9_readsDate_255 ?_
                          refine Vw.lstore (pc := 256) K dX9_readsDate_256 (by decide) ?_
                          exact Vw.loc rfl (s_X9_readsDate_258 K E  _ _ _ _ h)
                        · have h := wpos c49 h
                          exact Vw.vretE (pc := 249) K (Option.some.inj h) E (by decide) (by decide) dX9_readsDate_249
            · have h := wneg c21 h
              exact Vw.vretE (pc := 107) K (Option.some.inj h) E (by decide) (by decide) dX9_readsDate_107
theorem cal_X9_readsDate : wCalV RX9 yX9_readsDate (.code yX9_readsDate cX9_readsDate 19 none) 2 := ⟨by decide +kernel, u_7_34, us_4_7, u_1_9, u_7_35⟩
def k_X9_readsAge_97  (A : Hp)  (t0 : Nat) (t1 : Int64) : Option (Hp) := if (hsh A t0).1 = 8 then some (hsL A 473 t0 0 t1) else none
set_option maxRecDepth 100000 in
theorem s_X9_readsAge_97 {κ : KT} {B : Hp} {A : Hp}  {t0 : Nat} {t1 : Int64}  (K : Cx κ cX9_readsAge 7 RX9 3 71 0 0) (E : Ed κ none "readsAge" (.inl none) B 0 0)  (h : k_X9_readsAge_97  A  t0 t1 = some B) : Vw κ A 0 0 97 [] [.inr (.inl t1), .inr (.inr t0)] := by
  unfold k_X9_readsAge_97 at h
  obtain ⟨g1, h⟩ := wgd h
  refine Vw.putL (pc := 97) (k := 25) (f := 473) K cls7 rfl rfl u_6_42 g1 (Or.inl rfl) rfl rfl dX9_readsAge_97 ?_
  exact Vw.vretE (pc := 100) K (Option.some.inj h) E (by decide) (by decide) dX9_readsAge_100
def k_X9_readsAge_69  (A : Hp) (x0 : Nat) (x3 : Int32) (t0 : Int64) : Option (Hp) := (if t0 < (0 : Int64) then some A else if (hsh A x0).1 = 8 then (if x3 = (0 : Int32) then k_X9_readsAge_97 (hsI A 472 x0 0 (1 : Int32)) x0 t0 else k_X9_readsAge_97 (hsI A 472 x0 0 (1 : Int32)) x0 ((0 : Int64) - t0)) else none)
set_option maxRecDepth 100000 in
theorem s_X9_readsAge_69 {κ : KT} {B : Hp} {A : Hp} {x0 : Nat} {x3 : Int32} {t0 : Int64}  (K : Cx κ cX9_readsAge 7 RX9 3 71 0 0) (E : Ed κ none "readsAge" (.inl none) B 0 0)  (h : k_X9_readsAge_69  A x0 x3 t0 = some B) : Vw κ A 0 0 69 [(0, .inr (.inr x0)), (3, .inl x3)] [.inr (.inl t0)] := by
  unfold k_X9_readsAge_69 at h
  refine Vw.lstore (pc := 69) K dX9_readsAge_69 (by decide) ?_
  refine Vw.lload (pc := 71) (x := t0) K dX9_readsAge_71 rfl ?_
  refine Vw.lconst (pc := 73) (v := (0 : Int64)) K (by decide) dX9_readsAge_73 ?_
  refine Vw.lcmp_lt (pc := 74) (tgt := 100) K dX9_readsAge_74 dX9_readsAge_75 (by decide) (fun c2 => ?_) (fun c2 => ?_)
  · have h := wpos c2 h
    exact Vw.vretE (pc := 100) K (Option.some.inj h) E (by decide) (by decide) dX9_readsAge_100
  · have h := wneg c2 h
    refine Vw.aload_n (pc := 78) (x := x0) K dX9_readsAge_78 rfl ?_
    refine Vw.iconst (pc := 79) (v := (1 : Int32)) K (by decide) dX9_readsAge_79 ?_
    obtain ⟨g3, h⟩ := wgd h
    refine Vw.putI (pc := 80) (k := 24) (f := 472) K cls7 rfl rfl u_6_41 g3 (Or.inl rfl) (wZ_n (Or.inr rfl)) (wZ_f (Or.inr rfl)) dX9_readsAge_80 ?_
    refine Vw.aload_n (pc := 83) (x := x0) K dX9_readsAge_83 rfl ?_
    refine Vw.iload_n (pc := 84) (x := x3) K dX9_readsAge_84 rfl ?_
    refine Vw.if_eq (pc := 85) (tgt := 95) K dX9_readsAge_85 (by decide) (fun c4 => ?_) (fun c4 => ?_)
    · have h := wpos c4 h
      refine Vw.lload (pc := 95) (x := t0) K dX9_readsAge_95 rfl ?_
      exact Vw.loc rfl (s_X9_readsAge_97 K E  h)
    · have h := wneg c4 h
      refine Vw.lconst (pc := 88) (v := (0 : Int64)) K (by decide) dX9_readsAge_88 ?_
      refine Vw.lload (pc := 89) (x := t0) K dX9_readsAge_89 rfl ?_
      refine Vw.lsub (pc := 91) K dX9_readsAge_91 ?_
      refine Vw.goto (pc := 92) (tgt := 97) K dX9_readsAge_92 (by decide) ?_
      exact Vw.loc rfl (s_X9_readsAge_97 K E  h)
def k_X9_readsAge_39  (A : Hp) (x0 : Nat) (x2 : Int32) (x3 : Int32) (t0 : Int32) : Option (Hp) := ((f_X9_in A ((x2 - t0).toInt64) (1 : Int64) (9 : Int64)).bind fun v6 => (if v6 = (0 : Int32) then k_X9_readsAge_69 A x0 x3 (-1 : Int64) else if (hsh A x0).1 = 8 then ((f_X9_number A x0 t0 x2).bind fun v10 => k_X9_readsAge_69 A x0 x3 v10) else none))
set_option maxRecDepth 100000 in
theorem s_X9_readsAge_39 {κ : KT} {B : Hp} {A : Hp} {x0 : Nat} {x2 : Int32} {x3 : Int32} {t0 : Int32}  (K : Cx κ cX9_readsAge 7 RX9 3 71 0 0) (E : Ed κ none "readsAge" (.inl none) B 0 0)  (h : k_X9_readsAge_39  A x0 x2 x3 t0 = some B) : Vw κ A 0 0 39 [(0, .inr (.inr x0)), (2, .inl x2), (3, .inl x3)] [.inl t0] := by
  unfold k_X9_readsAge_39 at h
  refine Vw.istore (pc := 39) K dX9_readsAge_39 (by decide) ?_
  refine Vw.iload_n (pc := 41) (x := x2) K dX9_readsAge_41 rfl ?_
  refine Vw.iload (pc := 42) (x := t0) K dX9_readsAge_42 rfl ?_
  refine Vw.isub (pc := 44) K dX9_readsAge_44 ?_
  refine Vw.i2l (pc := 45) K dX9_readsAge_45 ?_
  refine Vw.lconst (pc := 46) (v := (1 : Int64)) K (by decide) dX9_readsAge_46 ?_
  refine Vw.ldc2 (pc := 47) (v := (9 : Int64)) K u_7_63 dX9_readsAge_47 ?_
  obtain ⟨v6, e5, h⟩ := wbd h
  refine Vw.cS1 (pc := 50) (v := .inl v6) (c' := 0) (n' := 0) K (s_X9_in K.tr e5) cal_X9_in u_6_161 rfl ⟨by decide, by decide⟩ ⟨by decide, by decide⟩ rfl (Nat.le_of_ble_eq_true rfl) dX9_readsAge_50 rfl rfl ?_
  refine Vw.if_eq (pc := 53) (tgt := 66) K dX9_readsAge_53 (by decide) (fun c7 => ?_) (fun c7 => ?_)
  · have h := wpos c7 h
    refine Vw.ldc2 (pc := 66) (v := (-1 : Int64)) K u_6_154 dX9_readsAge_66 ?_
    exact Vw.loc rfl (s_X9_readsAge_69 K E  h)
  · have h := wneg c7 h
    refine Vw.aload_n (pc := 56) (x := x0) K dX9_readsAge_56 rfl ?_
    refine Vw.iload (pc := 57) (x := t0) K dX9_readsAge_57 rfl ?_
    refine Vw.iload_n (pc := 59) (x := x2) K dX9_readsAge_59 rfl ?_
    obtain ⟨g8, h⟩ := wgd h
    obtain ⟨v10, e9, h⟩ := wbd h
    refine Vw.cV1 (pc := 60) (v := .inr (.inl v10)) (c' := 0) (n' := 0) K (s_X9_number K.tr e9) cal_X9_number cls7 u_7_37 g8 rfl ⟨by decide, by decide⟩ ⟨by decide, by decide⟩ rfl (Nat.le_of_ble_eq_true rfl) dX9_readsAge_60 rfl rfl ?_
    refine Vw.goto (pc := 63) (tgt := 69) K dX9_readsAge_63 (by decide) ?_
    exact Vw.loc rfl (s_X9_readsAge_69 K E  h)
def k_X9_readsAge_27  (A : Hp) (x0 : Nat) (x1 : Int32) (x2 : Int32) (t0 : Int32) : Option (Hp) := (if t0 = (0 : Int32) then k_X9_readsAge_39 A x0 x2 t0 x1 else k_X9_readsAge_39 A x0 x2 t0 (x1 + (1 : Int32)))
set_option maxRecDepth 100000 in
theorem s_X9_readsAge_27 {κ : KT} {B : Hp} {A : Hp} {x0 : Nat} {x1 : Int32} {x2 : Int32} {t0 : Int32}  (K : Cx κ cX9_readsAge 7 RX9 3 71 0 0) (E : Ed κ none "readsAge" (.inl none) B 0 0)  (h : k_X9_readsAge_27  A x0 x1 x2 t0 = some B) : Vw κ A 0 0 27 [(0, .inr (.inr x0)), (1, .inl x1), (2, .inl x2)] [.inl t0] := by
  unfold k_X9_readsAge_27 at h
  refine Vw.istore_n (pc := 27) K dX9_readsAge_27 (by decide) ?_
  refine Vw.iload_n (pc := 28) (x := t0) K dX9_readsAge_28 rfl ?_
  refine Vw.if_eq (pc := 29) (tgt := 38) K dX9_readsAge_29 (by decide) (fun c11 => ?_) (fun c11 => ?_)
  · have h := wpos c11 h
    refine Vw.iload_n (pc := 38) (x := x1) K dX9_readsAge_38 rfl ?_
    exact Vw.loc rfl (s_X9_readsAge_39 K E  h)
  · have h := wneg c11 h
    refine Vw.iload_n (pc := 32) (x := x1) K dX9_readsAge_32 rfl ?_
    refine Vw.iconst (pc := 33) (v := (1 : Int32)) K (by decide) dX9_readsAge_33 ?_
    refine Vw.iadd (pc := 34) K dX9_readsAge_34 ?_
    refine Vw.goto (pc := 35) (tgt := 39) K dX9_readsAge_35 (by decide) ?_
    exact Vw.loc rfl (s_X9_readsAge_39 K E  h)
def k_X9_readsAge_26  (A : Hp) (x0 : Nat) (x1 : Int32) (x2 : Int32)  : Option (Hp) := k_X9_readsAge_27 A x0 x1 x2 (0 : Int32)
set_option maxRecDepth 100000 in
theorem s_X9_readsAge_26 {κ : KT} {B : Hp} {A : Hp} {x0 : Nat} {x1 : Int32} {x2 : Int32}   (K : Cx κ cX9_readsAge 7 RX9 3 71 0 0) (E : Ed κ none "readsAge" (.inl none) B 0 0)  (h : k_X9_readsAge_26  A x0 x1 x2  = some B) : Vw κ A 0 0 26 [(0, .inr (.inr x0)), (1, .inl x1), (2, .inl x2)] [] := by
  unfold k_X9_readsAge_26 at h
  refine Vw.iconst (pc := 26) (v := (0 : Int32)) K (by decide) dX9_readsAge_26 ?_
  exact Vw.loc rfl (s_X9_readsAge_27 K E  h)
def f_X9_readsAge (A : Hp) (x0 : Nat) (x1 : Int32) (x2 : Int32) : Option (Hp) := (if x2 ≤ x1 then k_X9_readsAge_26 A x0 x1 x2 else if (hsh A x0).1 = 8 then if (hsh A (hgR A 448 x0 0)).1 = 11 then if wix ((8400 : Int32) + x1) (hsh A (hgR A 448 x0 0)).2 then (if (hgL A 1035 (hgR A 448 x0 0) ((8400 : Int32) + x1).toNatClampNeg) = (45 : Int64) then k_X9_readsAge_27 A x0 x1 x2 (1 : Int32) else k_X9_readsAge_26 A x0 x1 x2) else none else none else none)
set_option maxRecDepth 100000 in
theorem s_X9_readsAge {l : Launch} {g : GT} (hl : l.stackTraces = false) {A : Hp} {x0 : Nat} {x1 : Int32} {x2 : Int32} {B : Hp} (h : f_X9_readsAge A x0 x1 x2 = some B) : MetV l g yX9_readsAge (.code yX9_readsAge cX9_readsAge 7 none) [.inr (.inr x0), .inl x1, .inl x2] A (.inl none) B 3 71 0 0 := by
  refine MetV.ofV hl (by decide +kernel) (Nat.le_of_ble_eq_true rfl) (fun κ K E => ?_)
  have K : Cx κ cX9_readsAge 7 RX9 3 71 0 0 := K
  have E : Ed κ none "readsAge" (.inl none) B 0 0 := E
  unfold f_X9_readsAge at h
  change Vw κ A 0 0 0 [(0, .inr (.inr x0)), (1, .inl x1), (2, .inl x2)] []
  refine Vw.iload_n (pc := 0) (x := x2) K dX9_readsAge_0 rfl ?_
  refine Vw.iload_n (pc := 1) (x := x1) K dX9_readsAge_1 rfl ?_
  refine Vw.icmp_le (pc := 2) (tgt := 26) K dX9_readsAge_2 (by decide) (fun c12 => ?_) (fun c12 => ?_)
  · have h := wpos c12 h
    exact Vw.loc rfl (s_X9_readsAge_26 K E  h)
  · have h := wneg c12 h
    refine Vw.aload_n (pc := 5) (x := x0) K dX9_readsAge_5 rfl ?_
    obtain ⟨g13, h⟩ := wgd h
    refine Vw.getR (pc := 6) (k := 0) (f := 448) K cls7 rfl rfl u_6_17 g13 dX9_readsAge_6 ?_
    refine Vw.sipush (pc := 9) (v := (8400 : Int32)) K (by decide) dX9_readsAge_9 ?_
    refine Vw.iload_n (pc := 12) (x := x1) K dX9_readsAge_12 rfl ?_
    refine Vw.iadd (pc := 13) K dX9_readsAge_13 ?_
    obtain ⟨g14, h⟩ := wgd h
    obtain ⟨g15, h⟩ := wgd h
    refine Vw.laload (pc := 14) K g14 g15 dX9_readsAge_14 ?_
    refine Vw.ldc2 (pc := 15) (v := (45 : Int64)) K u_6_166 dX9_readsAge_15 ?_
    refine Vw.lcmp_ne (pc := 18) (tgt := 26) K dX9_readsAge_18 dX9_readsAge_19 (by decide) (fun c16 => ?_) (fun c16 => ?_)
    · have h := wneg c16 h
      exact Vw.loc rfl (s_X9_readsAge_26 K E  h)
    · have h := wpos c16 h
      refine Vw.iconst (pc := 22) (v := (1 : Int32)) K (by decide) dX9_readsAge_22 ?_
      refine Vw.goto (pc := 23) (tgt := 27) K dX9_readsAge_23 (by decide) ?_
      exact Vw.loc rfl (s_X9_readsAge_27 K E  h)
theorem cal_X9_readsAge : wCalV RX9 yX9_readsAge (.code yX9_readsAge cX9_readsAge 7 none) 2 := ⟨by decide +kernel, u_7_75, us_4_11, u_1_9, u_7_76⟩
def k_X9_readsDomain_129 (rec70 : Hp → Int32 → Option (Hp)) (A : Hp) (x0 : Nat) (x3 : Int32) (x4 : Int32) (t0 : Nat) (t1 : Int32) (t2 : Int64) : Option (Hp) := if (hsh A t0).1 = 11 then if wix t1 (hsh A t0).2 then rec70 (hsL A 1035 t0 t1.toNatClampNeg t2) (x4 + (1 : Int32)) else none else none
set_option maxRecDepth 100000 in
theorem s_X9_readsDomain_129 {κ : KT} {B : Hp} {A : Hp} {x0 : Nat} {x3 : Int32} {x4 : Int32} {t0 : Nat} {t1 : Int32} {t2 : Int64} {rec70 : Hp → Int32 → Option (Hp)} (K : Cx κ cX9_readsDomain 7 RX9 1 25 0 0) (E : Ed κ none "readsDomain" (.inl none) B 0 0) (hr70 : ∀ (A : Hp) (x4 : Int32), rec70 A x4 = some B → Vw κ A 0 0 70 [(0, .inr (.inr x0)), (3, .inl x3), (4, .inl x4)] []) (h : k_X9_readsDomain_129 rec70 A x0 x3 x4 t0 t1 t2 = some B) : Vw κ A 0 0 129 [(0, .inr (.inr x0)), (3, .inl x3), (4, .inl x4)] [.inr (.inl t2), .inl t1, .inr (.inr t0)] := by
  unfold k_X9_readsDomain_129 at h
  obtain ⟨g1, h⟩ := wgd h
  obtain ⟨g2, h⟩ := wgd h
  refine Vw.lastore (pc := 129) K g1 g2 dX9_readsDomain_129 ?_
  refine Vw.iinc (pc := 130) (x := x4) (v := (1 : Int32)) K dX9_readsDomain_130 rfl (by decide) (by decide) ?_
  refine Vw.goto (pc := 133) (tgt := 70) K dX9_readsDomain_133 (by decide) ?_
  exact Vw.loc rfl (hr70 _ _ h)
def k_X9_readsDomain_70s  (x0 : Nat) (x3 : Int32)  (rec70 : Hp → Int32 → Option (Hp)) (A : Hp) (x4 : Int32) : Option (Hp) := if (hsh A x0).1 = 8 then (if (hgI A 477 x0 0) ≤ x4 then some A else if (hsh A (hgR A 448 x0 0)).1 = 11 then if wix (((8400 : Int32) + x3) + x4) (hsh A (hgR A 448 x0 0)).2 then ((f_X9_in A (hgL A 1035 (hgR A 448 x0 0) (((8400 : Int32) + x3) + x4).toNatClampNeg) (65 : Int64) (90 : Int64)).bind fun v8 => (if v8 = (0 : Int32) then k_X9_readsDomain_129 rec70 A x0 x3 x4 (hgR A 448 x0 0) ((8800 : Int32) + x4) (hgL A 1035 (hgR A 448 x0 0) (((8400 : Int32) + x3) + x4).toNatClampNeg) else k_X9_readsDomain_129 rec70 A x0 x3 x4 (hgR A 448 x0 0) ((8800 : Int32) + x4) ((hgL A 1035 (hgR A 448 x0 0) (((8400 : Int32) + x3) + x4).toNatClampNeg) + (32 : Int64)))) else none else none) else none
def k_X9_readsDomain_70  (x0 : Nat) (x3 : Int32)  : Nat → Hp → Int32 → Option (Hp)
  | 0 => fun _ _ => none
  | fu + 1 => k_X9_readsDomain_70s x0 x3  (k_X9_readsDomain_70 x0 x3  fu)
set_option maxRecDepth 100000 in
theorem s_X9_readsDomain_70 {κ : KT} {B : Hp}  {x0 : Nat} {x3 : Int32}  (K : Cx κ cX9_readsDomain 7 RX9 1 25 0 0) (E : Ed κ none "readsDomain" (.inl none) B 0 0)  : ∀ (fu : Nat) (A : Hp) (x4 : Int32),  k_X9_readsDomain_70 x0 x3  fu A x4 = some B → Vw κ A 0 0 70 [(0, .inr (.inr x0)), (3, .inl x3), (4, .inl x4)] [] := by
  intro fu
  induction fu with
  | zero => intro A x4 h; cases h
  | succ fu hr70 =>
    intro A x4 h
    have h : k_X9_readsDomain_70s x0 x3  (k_X9_readsDomain_70 x0 x3  fu) A x4 = some B := h
    unfold k_X9_readsDomain_70s at h
    refine Vw.iload (pc := 70) (x := x4) K dX9_readsDomain_70 rfl ?_
    refine Vw.aload_n (pc := 72) (x := x0) K dX9_readsDomain_72 rfl ?_
    obtain ⟨g3, h⟩ := wgd h
    refine Vw.getI (pc := 73) (k := 29) (f := 477) K cls7 rfl rfl u_6_46 g3 dX9_readsDomain_73 ?_
    refine Vw.icmp_ge (pc := 76) (tgt := 136) K dX9_readsDomain_76 (by decide) (fun c4 => ?_) (fun c4 => ?_)
    · have h := wpos c4 h
      exact Vw.vretE (pc := 136) K (Option.some.inj h) E (by decide) (by decide) dX9_readsDomain_136
    · have h := wneg c4 h
      refine Vw.aload_n (pc := 79) (x := x0) K dX9_readsDomain_79 rfl ?_
      refine Vw.getR (pc := 80) (k := 0) (f := 448) K cls7 rfl rfl u_6_17 g3 dX9_readsDomain_80 ?_
      refine Vw.sipush (pc := 83) (v := (8400 : Int32)) K (by decide) dX9_readsDomain_83 ?_
      refine Vw.iload_n (pc := 86) (x := x3) K dX9_readsDomain_86 rfl ?_
      refine Vw.iadd (pc := 87) K dX9_readsDomain_87 ?_
      refine Vw.iload (pc := 88) (x := x4) K dX9_readsDomain_88 rfl ?_
      refine Vw.iadd (pc := 90) K dX9_readsDomain_90 ?_
      obtain ⟨g5, h⟩ := wgd h
      obtain ⟨g6, h⟩ := wgd h
      refine Vw.laload (pc := 91) K g5 g6 dX9_readsDomain_91 ?_
      refine Vw.lstore (pc := 92) K dX9_readsDomain_92 (by decide) ?_
      refine Vw.aload_n (pc := 94) (x := x0) K dX9_readsDomain_94 rfl ?_
      refine Vw.getR (pc := 95) (k := 0) (f := 448) K cls7 rfl rfl u_6_17 g3 dX9_readsDomain_95 ?_
      refine Vw.sipush (pc := 98) (v := (8800 : Int32)) K (by decide) dX9_readsDomain_98 ?_
      refine Vw.iload (pc := 101) (x := x4) K dX9_readsDomain_101 rfl ?_
      refine Vw.iadd (pc := 103) K dX9_readsDomain_103 ?_
      refine Vw.lload (pc := 104) (x := (hgL A 1035 (hgR A 448 x0 0) (((8400 : Int32) + x3) + x4).toNatClampNeg)) K dX9_readsDomain_104 rfl ?_
      refine Vw.ldc2 (pc := 106) (v := (65 : Int64)) K u_7_30 dX9_readsDomain_106 ?_
      refine Vw.ldc2 (pc := 109) (v := (90 : Int64)) K u_7_31 dX9_readsDomain_109 ?_
      obtain ⟨v8, e7, h⟩ := wbd h
      refine Vw.cS1 (pc := 112) (v := .inl v8) (c' := 0) (n' := 0) K (s_X9_in K.tr e7) cal_X9_in u_6_161 rfl ⟨by decide, by decide⟩ ⟨by decide, by decide⟩ rfl (Nat.le_of_ble_eq_true rfl) dX9_readsDomain_112 rfl rfl ?_
      refine Vw.if_eq (pc := 115) (tgt := 127) K dX9_readsDomain_115 (by decide) (fun c9 => ?_) (fun c9 => ?_)
      · have h := wpos c9 h
        refine Vw.lload (pc := 127) (x := (hgL A 1035 (hgR A 448 x0 0) (((8400 : Int32) + x3) + x4).toNatClampNeg)) K dX9_readsDomain_127 rfl ?_
        exact Vw.loc rfl (s_X9_readsDomain_129 K E hr70 h)
      · have h := wneg c9 h
        refine Vw.lload (pc := 118) (x := (hgL A 1035 (hgR A 448 x0 0) (((8400 : Int32) + x3) + x4).toNatClampNeg)) K dX9_readsDomain_118 rfl ?_
        refine Vw.ldc2 (pc := 120) (v := (32 : Int64)) K u_6_226 dX9_readsDomain_120 ?_
        refine Vw.ladd (pc := 123) K dX9_readsDomain_123 ?_
        refine Vw.goto (pc := 124) (tgt := 129) K dX9_readsDomain_124 (by decide) ?_
        exact Vw.loc rfl (s_X9_readsDomain_129 K E hr70 h)
def k_X9_readsDomain_54  (A : Hp) (x0 : Nat) (x2 : Int32) (t0 : Int32) : Option (Hp) := if (hsh A x0).1 = 8 then k_X9_readsDomain_70 x0 t0 FU (hsI (hsI A 476 x0 0 (1 : Int32)) 477 x0 0 (x2 - t0)) (0 : Int32) else none
set_option maxRecDepth 100000 in
theorem s_X9_readsDomain_54 {κ : KT} {B : Hp} {A : Hp} {x0 : Nat} {x2 : Int32} {t0 : Int32}  (K : Cx κ cX9_readsDomain 7 RX9 1 25 0 0) (E : Ed κ none "readsDomain" (.inl none) B 0 0)  (h : k_X9_readsDomain_54  A x0 x2 t0 = some B) : Vw κ A 0 0 54 [(0, .inr (.inr x0)), (2, .inl x2)] [.inl t0] := by
  unfold k_X9_readsDomain_54 at h
  refine Vw.istore_n (pc := 54) K dX9_readsDomain_54 (by decide) ?_
  refine Vw.aload_n (pc := 55) (x := x0) K dX9_readsDomain_55 rfl ?_
  refine Vw.iconst (pc := 56) (v := (1 : Int32)) K (by decide) dX9_readsDomain_56 ?_
  obtain ⟨g10, h⟩ := wgd h
  refine Vw.putI (pc := 57) (k := 28) (f := 476) K cls7 rfl rfl u_6_45 g10 (Or.inl rfl) (wZ_n (Or.inr rfl)) (wZ_f (Or.inr rfl)) dX9_readsDomain_57 ?_
  refine Vw.aload_n (pc := 60) (x := x0) K dX9_readsDomain_60 rfl ?_
  refine Vw.iload_n (pc := 61) (x := x2) K dX9_readsDomain_61 rfl ?_
  refine Vw.iload_n (pc := 62) (x := t0) K dX9_readsDomain_62 rfl ?_
  refine Vw.isub (pc := 63) K dX9_readsDomain_63 ?_
  refine Vw.putI (pc := 64) (k := 29) (f := 477) K cls7 rfl rfl u_6_46 g10 (Or.inl rfl) rfl rfl dX9_readsDomain_64 ?_
  refine Vw.iconst (pc := 67) (v := (0 : Int32)) K (by decide) dX9_readsDomain_67 ?_
  refine Vw.istore (pc := 68) K dX9_readsDomain_68 (by decide) ?_
  exact Vw.loc rfl (s_X9_readsDomain_70 K E  _ _ _ h)
def k_X9_readsDomain_30  (A : Hp) (x0 : Nat) (x1 : Int32) (x2 : Int32)  : Option (Hp) := if (hsh A x0).1 = 8 then if (hsh A (hgR A 448 x0 0)).1 = 11 then if wix ((8400 : Int32) + x1) (hsh A (hgR A 448 x0 0)).2 then (if (hgL A 1035 (hgR A 448 x0 0) ((8400 : Int32) + x1).toNatClampNeg) = (46 : Int64) then k_X9_readsDomain_54 A x0 x2 (x1 + (1 : Int32)) else k_X9_readsDomain_54 A x0 x2 x1) else none else none else none
set_option maxRecDepth 100000 in
theorem s_X9_readsDomain_30 {κ : KT} {B : Hp} {A : Hp} {x0 : Nat} {x1 : Int32} {x2 : Int32}   (K : Cx κ cX9_readsDomain 7 RX9 1 25 0 0) (E : Ed κ none "readsDomain" (.inl none) B 0 0)  (h : k_X9_readsDomain_30  A x0 x1 x2  = some B) : Vw κ A 0 0 30 [(0, .inr (.inr x0)), (1, .inl x1), (2, .inl x2)] [] := by
  unfold k_X9_readsDomain_30 at h
  refine Vw.aload_n (pc := 30) (x := x0) K dX9_readsDomain_30 rfl ?_
  obtain ⟨g11, h⟩ := wgd h
  refine Vw.getR (pc := 31) (k := 0) (f := 448) K cls7 rfl rfl u_6_17 g11 dX9_readsDomain_31 ?_
  refine Vw.sipush (pc := 34) (v := (8400 : Int32)) K (by decide) dX9_readsDomain_34 ?_
  refine Vw.iload_n (pc := 37) (x := x1) K dX9_readsDomain_37 rfl ?_
  refine Vw.iadd (pc := 38) K dX9_readsDomain_38 ?_
  obtain ⟨g12, h⟩ := wgd h
  obtain ⟨g13, h⟩ := wgd h
  refine Vw.laload (pc := 39) K g12 g13 dX9_readsDomain_39 ?_
  refine Vw.ldc2 (pc := 40) (v := (46 : Int64)) K u_6_167 dX9_readsDomain_40 ?_
  refine Vw.lcmp_ne (pc := 43) (tgt := 53) K dX9_readsDomain_43 dX9_readsDomain_44 (by decide) (fun c14 => ?_) (fun c14 => ?_)
  · have h := wneg c14 h
    refine Vw.iload_n (pc := 53) (x := x1) K dX9_readsDomain_53 rfl ?_
    exact Vw.loc rfl (s_X9_readsDomain_54 K E  h)
  · have h := wpos c14 h
    refine Vw.iload_n (pc := 47) (x := x1) K dX9_readsDomain_47 rfl ?_
    refine Vw.iconst (pc := 48) (v := (1 : Int32)) K (by decide) dX9_readsDomain_48 ?_
    refine Vw.iadd (pc := 49) K dX9_readsDomain_49 ?_
    refine Vw.goto (pc := 50) (tgt := 54) K dX9_readsDomain_50 (by decide) ?_
    exact Vw.loc rfl (s_X9_readsDomain_54 K E  h)
def f_X9_readsDomain (A : Hp) (x0 : Nat) (x1 : Int32) (x2 : Int32) : Option (Hp) := (if x2 = x1 then some A else (if (x2 - x1) = (1 : Int32) then if (hsh A x0).1 = 8 then if (hsh A (hgR A 448 x0 0)).1 = 11 then if wix ((8400 : Int32) + x1) (hsh A (hgR A 448 x0 0)).2 then (if (hgL A 1035 (hgR A 448 x0 0) ((8400 : Int32) + x1).toNatClampNeg) = (46 : Int64) then some A else k_X9_readsDomain_30 A x0 x1 x2) else none else none else none else k_X9_readsDomain_30 A x0 x1 x2))
set_option maxRecDepth 100000 in
theorem s_X9_readsDomain {l : Launch} {g : GT} (hl : l.stackTraces = false) {A : Hp} {x0 : Nat} {x1 : Int32} {x2 : Int32} {B : Hp} (h : f_X9_readsDomain A x0 x1 x2 = some B) : MetV l g yX9_readsDomain (.code yX9_readsDomain cX9_readsDomain 7 none) [.inr (.inr x0), .inl x1, .inl x2] A (.inl none) B 1 25 0 0 := by
  refine MetV.ofV hl (by decide +kernel) (Nat.le_of_ble_eq_true rfl) (fun κ K E => ?_)
  have K : Cx κ cX9_readsDomain 7 RX9 1 25 0 0 := K
  have E : Ed κ none "readsDomain" (.inl none) B 0 0 := E
  unfold f_X9_readsDomain at h
  change Vw κ A 0 0 0 [(0, .inr (.inr x0)), (1, .inl x1), (2, .inl x2)] []
  refine Vw.iload_n (pc := 0) (x := x2) K dX9_readsDomain_0 rfl ?_
  refine Vw.iload_n (pc := 1) (x := x1) K dX9_readsDomain_1 rfl ?_
  refine Vw.icmp_eq (pc := 2) (tgt := 29) K dX9_readsDomain_2 (by decide) (fun c15 => ?_) (fun c15 => ?_)
  · have h := wpos c15 h
    exact Vw.vretE (pc := 29) K (Option.some.inj h) E (by decide) (by decide) dX9_readsDomain_29
  · have h := wneg c15 h
    refine Vw.iload_n (pc := 5) (x := x2) K dX9_readsDomain_5 rfl ?_
    refine Vw.iload_n (pc := 6) (x := x1) K dX9_readsDomain_6 rfl ?_
    refine Vw.isub (pc := 7) K dX9_readsDomain_7 ?_
    refine Vw.iconst (pc := 8) (v := (1 : Int32)) K (by decide) dX9_readsDomain_8 ?_
    refine Vw.icmp_ne (pc := 9) (tgt := 30) K dX9_readsDomain_9 (by decide) (fun c16 => ?_) (fun c16 => ?_)
    · have h := wneg c16 h
      exact Vw.loc rfl (s_X9_readsDomain_30 K E  h)
    · have h := wpos c16 h
      refine Vw.aload_n (pc := 12) (x := x0) K dX9_readsDomain_12 rfl ?_
      obtain ⟨g17, h⟩ := wgd h
      refine Vw.getR (pc := 13) (k := 0) (f := 448) K cls7 rfl rfl u_6_17 g17 dX9_readsDomain_13 ?_
      refine Vw.sipush (pc := 16) (v := (8400 : Int32)) K (by decide) dX9_readsDomain_16 ?_
      refine Vw.iload_n (pc := 19) (x := x1) K dX9_readsDomain_19 rfl ?_
      refine Vw.iadd (pc := 20) K dX9_readsDomain_20 ?_
      obtain ⟨g18, h⟩ := wgd h
      obtain ⟨g19, h⟩ := wgd h
      refine Vw.laload (pc := 21) K g18 g19 dX9_readsDomain_21 ?_
      refine Vw.ldc2 (pc := 22) (v := (46 : Int64)) K u_6_167 dX9_readsDomain_22 ?_
      refine Vw.lcmp_ne (pc := 25) (tgt := 30) K dX9_readsDomain_25 dX9_readsDomain_26 (by decide) (fun c20 => ?_) (fun c20 => ?_)
      · have h := wneg c20 h
        exact Vw.loc rfl (s_X9_readsDomain_30 K E  h)
      · have h := wpos c20 h
        exact Vw.vretE (pc := 29) K (Option.some.inj h) E (by decide) (by decide) dX9_readsDomain_29
theorem cal_X9_readsDomain : wCalV RX9 yX9_readsDomain (.code yX9_readsDomain cX9_readsDomain 7 none) 2 := ⟨by decide +kernel, u_7_79, us_4_12, u_1_9, u_7_80⟩
def k_X9_readsChoice_78  (A : Hp)  (t0 : Nat) (t1 : Int32) (t2 : Int64) : Option (Hp) := if (hsh A t0).1 = 11 then if wix t1 (hsh A t0).2 then some (hsL A 1035 t0 t1.toNatClampNeg t2) else none else none
set_option maxRecDepth 100000 in
theorem s_X9_readsChoice_78 {κ : KT} {B : Hp} {A : Hp}  {t0 : Nat} {t1 : Int32} {t2 : Int64}  (K : Cx κ cX9_readsChoice 8 RX9 2 52 0 0) (E : Ed κ none "readsChoice" (.inl none) B 0 0)  (h : k_X9_readsChoice_78  A  t0 t1 t2 = some B) : Vw κ A 0 0 78 [] [.inr (.inl t2), .inl t1, .inr (.inr t0)] := by
  unfold k_X9_readsChoice_78 at h
  obtain ⟨g1, h⟩ := wgd h
  obtain ⟨g2, h⟩ := wgd h
  refine Vw.lastore (pc := 78) K g1 g2 dX9_readsChoice_78 ?_
  exact Vw.vretE (pc := 79) K (Option.some.inj h) E (by decide) (by decide) dX9_readsChoice_79
def k_X9_readsChoice_46  (A : Hp) (x0 : Nat) (x1 : Int32) (t0 : Int32) : Option (Hp) := if (hsh A x0).1 = 8 then (if t0 < (0 : Int32) then if (hsh A (hgR A 448 x0 0)).1 = 11 then if wix ((8600 : Int32) + x1) (hsh A (hgR A 448 x0 0)).2 then k_X9_readsChoice_78 A (hgR A 448 x0 0) ((8600 : Int32) + x1) (hgL A 1035 (hgR A 448 x0 0) ((8600 : Int32) + x1).toNatClampNeg) else none else none else k_X9_readsChoice_78 A (hgR A 448 x0 0) ((8600 : Int32) + x1) t0.toInt64) else none
set_option maxRecDepth 100000 in
theorem s_X9_readsChoice_46 {κ : KT} {B : Hp} {A : Hp} {x0 : Nat} {x1 : Int32} {t0 : Int32}  (K : Cx κ cX9_readsChoice 8 RX9 2 52 0 0) (E : Ed κ none "readsChoice" (.inl none) B 0 0)  (h : k_X9_readsChoice_46  A x0 x1 t0 = some B) : Vw κ A 0 0 46 [(0, .inr (.inr x0)), (1, .inl x1)] [.inl t0] := by
  unfold k_X9_readsChoice_46 at h
  refine Vw.istore (pc := 46) K dX9_readsChoice_46 (by decide) ?_
  refine Vw.aload_n (pc := 48) (x := x0) K dX9_readsChoice_48 rfl ?_
  obtain ⟨g3, h⟩ := wgd h
  refine Vw.getR (pc := 49) (k := 0) (f := 448) K cls7 rfl rfl u_6_17 g3 dX9_readsChoice_49 ?_
  refine Vw.sipush (pc := 52) (v := (8600 : Int32)) K (by decide) dX9_readsChoice_52 ?_
  refine Vw.iload_n (pc := 55) (x := x1) K dX9_readsChoice_55 rfl ?_
  refine Vw.iadd (pc := 56) K dX9_readsChoice_56 ?_
  refine Vw.iload (pc := 57) (x := t0) K dX9_readsChoice_57 rfl ?_
  refine Vw.if_lt (pc := 59) (tgt := 68) K dX9_readsChoice_59 (by decide) (fun c4 => ?_) (fun c4 => ?_)
  · have h := wpos c4 h
    refine Vw.aload_n (pc := 68) (x := x0) K dX9_readsChoice_68 rfl ?_
    refine Vw.getR (pc := 69) (k := 0) (f := 448) K cls7 rfl rfl u_6_17 g3 dX9_readsChoice_69 ?_
    refine Vw.sipush (pc := 72) (v := (8600 : Int32)) K (by decide) dX9_readsChoice_72 ?_
    refine Vw.iload_n (pc := 75) (x := x1) K dX9_readsChoice_75 rfl ?_
    refine Vw.iadd (pc := 76) K dX9_readsChoice_76 ?_
    obtain ⟨g5, h⟩ := wgd h
    obtain ⟨g6, h⟩ := wgd h
    refine Vw.laload (pc := 77) K g5 g6 dX9_readsChoice_77 ?_
    exact Vw.loc rfl (s_X9_readsChoice_78 K E  h)
  · have h := wneg c4 h
    refine Vw.iload (pc := 62) (x := t0) K dX9_readsChoice_62 rfl ?_
    refine Vw.i2l (pc := 64) K dX9_readsChoice_64 ?_
    refine Vw.goto (pc := 65) (tgt := 78) K dX9_readsChoice_65 (by decide) ?_
    exact Vw.loc rfl (s_X9_readsChoice_78 K E  h)
def f_X9_readsChoice (A : Hp) (x0 : Nat) (x1 : Int32) (x2 : Int32) (x3 : Int32) (x4 : Nat) (x5 : Nat) (x6 : Nat) : Option (Hp) := if (hsh A x0).1 = 8 then ((f_X9_isLikely A x0 x2 x3 x4).bind fun v9 => (if v9 = (0 : Int32) then ((f_X9_isLikely A x0 x2 x3 x5).bind fun v12 => (if v12 = (0 : Int32) then ((f_X9_isLikely A x0 x2 x3 x6).bind fun v15 => (if v15 = (0 : Int32) then k_X9_readsChoice_46 A x0 x1 (-1 : Int32) else k_X9_readsChoice_46 A x0 x1 (2 : Int32))) else k_X9_readsChoice_46 A x0 x1 (1 : Int32))) else k_X9_readsChoice_46 A x0 x1 (0 : Int32))) else none
set_option maxRecDepth 100000 in
theorem s_X9_readsChoice {l : Launch} {g : GT} (hl : l.stackTraces = false) {A : Hp} {x0 : Nat} {x1 : Int32} {x2 : Int32} {x3 : Int32} {x4 : Nat} {x5 : Nat} {x6 : Nat} {B : Hp} (h : f_X9_readsChoice A x0 x1 x2 x3 x4 x5 x6 = some B) : MetV l g yX9_readsChoice (.code yX9_readsChoice cX9_readsChoice 8 none) [.inr (.inr x0), .inl x1, .inl x2, .inl x3, .inr (.inr x4), .inr (.inr x5), .inr (.inr x6)] A (.inl none) B 2 52 0 0 := by
  refine MetV.ofV hl (by decide +kernel) (Nat.le_of_ble_eq_true rfl) (fun κ K E => ?_)
  have K : Cx κ cX9_readsChoice 8 RX9 2 52 0 0 := K
  have E : Ed κ none "readsChoice" (.inl none) B 0 0 := E
  unfold f_X9_readsChoice at h
  change Vw κ A 0 0 0 [(0, .inr (.inr x0)), (1, .inl x1), (2, .inl x2), (3, .inl x3), (4, .inr (.inr x4)), (5, .inr (.inr x5)), (6, .inr (.inr x6))] []
  refine Vw.aload_n (pc := 0) (x := x0) K dX9_readsChoice_0 rfl ?_
  refine Vw.iload_n (pc := 1) (x := x2) K dX9_readsChoice_1 rfl ?_
  refine Vw.iload_n (pc := 2) (x := x3) K dX9_readsChoice_2 rfl ?_
  refine Vw.aload (pc := 3) (x := x4) K dX9_readsChoice_3 rfl ?_
  obtain ⟨g7, h⟩ := wgd h
  obtain ⟨v9, e8, h⟩ := wbd h
  refine Vw.cV1 (pc := 5) (v := .inl v9) (c' := 0) (n' := 0) K (s_X9_isLikely K.tr e8) cal_X9_isLikely cls7 u_7_26 g7 rfl ⟨by decide, by decide⟩ ⟨by decide, by decide⟩ rfl (Nat.le_of_ble_eq_true rfl) dX9_readsChoice_5 rfl rfl ?_
  refine Vw.if_eq (pc := 8) (tgt := 15) K dX9_readsChoice_8 (by decide) (fun c10 => ?_) (fun c10 => ?_)
  · have h := wpos c10 h
    refine Vw.aload_n (pc := 15) (x := x0) K dX9_readsChoice_15 rfl ?_
    refine Vw.iload_n (pc := 16) (x := x2) K dX9_readsChoice_16 rfl ?_
    refine Vw.iload_n (pc := 17) (x := x3) K dX9_readsChoice_17 rfl ?_
    refine Vw.aload (pc := 18) (x := x5) K dX9_readsChoice_18 rfl ?_
    obtain ⟨v12, e11, h⟩ := wbd h
    refine Vw.cV1 (pc := 20) (v := .inl v12) (c' := 0) (n' := 0) K (s_X9_isLikely K.tr e11) cal_X9_isLikely cls7 u_7_26 g7 rfl ⟨by decide, by decide⟩ ⟨by decide, by decide⟩ rfl (Nat.le_of_ble_eq_true rfl) dX9_readsChoice_20 rfl rfl ?_
    refine Vw.if_eq (pc := 23) (tgt := 30) K dX9_readsChoice_23 (by decide) (fun c13 => ?_) (fun c13 => ?_)
    · have h := wpos c13 h
      refine Vw.aload_n (pc := 30) (x := x0) K dX9_readsChoice_30 rfl ?_
      refine Vw.iload_n (pc := 31) (x := x2) K dX9_readsChoice_31 rfl ?_
      refine Vw.iload_n (pc := 32) (x := x3) K dX9_readsChoice_32 rfl ?_
      refine Vw.aload (pc := 33) (x := x6) K dX9_readsChoice_33 rfl ?_
      obtain ⟨v15, e14, h⟩ := wbd h
      refine Vw.cV1 (pc := 35) (v := .inl v15) (c' := 0) (n' := 0) K (s_X9_isLikely K.tr e14) cal_X9_isLikely cls7 u_7_26 g7 rfl ⟨by decide, by decide⟩ ⟨by decide, by decide⟩ rfl (Nat.le_of_ble_eq_true rfl) dX9_readsChoice_35 rfl rfl ?_
      refine Vw.if_eq (pc := 38) (tgt := 45) K dX9_readsChoice_38 (by decide) (fun c16 => ?_) (fun c16 => ?_)
      · have h := wpos c16 h
        refine Vw.iconst (pc := 45) (v := (-1 : Int32)) K (by decide) dX9_readsChoice_45 ?_
        exact Vw.loc rfl (s_X9_readsChoice_46 K E  h)
      · have h := wneg c16 h
        refine Vw.iconst (pc := 41) (v := (2 : Int32)) K (by decide) dX9_readsChoice_41 ?_
        refine Vw.goto (pc := 42) (tgt := 46) K dX9_readsChoice_42 (by decide) ?_
        exact Vw.loc rfl (s_X9_readsChoice_46 K E  h)
    · have h := wneg c13 h
      refine Vw.iconst (pc := 26) (v := (1 : Int32)) K (by decide) dX9_readsChoice_26 ?_
      refine Vw.goto (pc := 27) (tgt := 46) K dX9_readsChoice_27 (by decide) ?_
      exact Vw.loc rfl (s_X9_readsChoice_46 K E  h)
  · have h := wneg c10 h
    refine Vw.iconst (pc := 11) (v := (0 : Int32)) K (by decide) dX9_readsChoice_11 ?_
    refine Vw.goto (pc := 12) (tgt := 46) K dX9_readsChoice_12 (by decide) ?_
    exact Vw.loc rfl (s_X9_readsChoice_46 K E  h)
theorem cal_X9_readsChoice : wCalV RX9 yX9_readsChoice (.code yX9_readsChoice cX9_readsChoice 8 none) 6 := ⟨by decide +kernel, u_7_84, us_4_13, u_1_9, u_7_85⟩
def k_X9_readsAttribute_204  (A : Hp) (x0 : Nat) (x4 : Int32) (x5 : Int32) (x6 : Int32) (x7 : Int32)  : Option (Hp) := if (hsh A x0).1 = 8 then ((f_X9_isLikely A x0 x4 x5 (hgR A 459 x0 0)).bind fun v3 => (if v3 = (0 : Int32) then ((f_X9_isLikely A x0 x4 x5 (hgR A 460 x0 0)).bind fun v6 => (if v6 = (0 : Int32) then ((f_X9_isLikely A x0 x4 x5 (hgR A 461 x0 0)).bind fun v9 => (if v9 = (0 : Int32) then ((f_X9_isLikely A x0 x4 x5 (hgR A 462 x0 0)).bind fun v12 => (if v12 = (0 : Int32) then some A else ((f_X9_readsChoice A x0 (12 : Int32) x6 x7 (hgR A 466 x0 0) (hgR A 467 x0 0) (hgR A 468 x0 0)).bind fun A15 => some A15))) else ((f_X9_readsChoice A x0 (11 : Int32) x6 x7 (hgR A 463 x0 0) (hgR A 464 x0 0) (hgR A 465 x0 0)).bind fun A17 => some A17))) else if (hsh A (hgR A 448 x0 0)).1 = 11 then if wix (8610 : Int32) (hsh A (hgR A 448 x0 0)).2 then some (hsL A 1035 (hgR A 448 x0 0) (8610 : Int32).toNatClampNeg (1 : Int64)) else none else none)) else if (hsh A (hgR A 448 x0 0)).1 = 11 then if wix (8609 : Int32) (hsh A (hgR A 448 x0 0)).2 then some (hsL A 1035 (hgR A 448 x0 0) (8609 : Int32).toNatClampNeg (1 : Int64)) else none else none)) else none
set_option maxRecDepth 100000 in
theorem s_X9_readsAttribute_204 {κ : KT} {B : Hp} {A : Hp} {x0 : Nat} {x4 : Int32} {x5 : Int32} {x6 : Int32} {x7 : Int32}   (K : Cx κ cX9_readsAttribute 8 RX9 4 109 0 0) (E : Ed κ none "readsAttribute" (.inl none) B 0 0)  (h : k_X9_readsAttribute_204  A x0 x4 x5 x6 x7  = some B) : Vw κ A 0 0 204 [(0, .inr (.inr x0)), (4, .inl x4), (5, .inl x5), (6, .inl x6), (7, .inl x7)] [] := by
  unfold k_X9_readsAttribute_204 at h
  refine Vw.aload_n (pc := 204) (x := x0) K dX9_readsAttribute_204 rfl ?_
  refine Vw.iload (pc := 205) (x := x4) K dX9_readsAttribute_205 rfl ?_
  refine Vw.iload (pc := 207) (x := x5) K dX9_readsAttribute_207 rfl ?_
  refine Vw.aload_n (pc := 209) (x := x0) K dX9_readsAttribute_209 rfl ?_
  obtain ⟨g1, h⟩ := wgd h
  refine Vw.getR (pc := 210) (k := 11) (f := 459) K cls7 rfl rfl u_6_28 g1 dX9_readsAttribute_210 ?_
  obtain ⟨v3, e2, h⟩ := wbd h
  refine Vw.cV1 (pc := 213) (v := .inl v3) (c' := 0) (n' := 0) K (s_X9_isLikely K.tr e2) cal_X9_isLikely cls7 u_7_26 g1 rfl ⟨by decide, by decide⟩ ⟨by decide, by decide⟩ rfl (Nat.le_of_ble_eq_true rfl) dX9_readsAttribute_213 rfl rfl ?_
  refine Vw.if_eq (pc := 216) (tgt := 231) K dX9_readsAttribute_216 (by decide) (fun c4 => ?_) (fun c4 => ?_)
  · have h := wpos c4 h
    refine Vw.aload_n (pc := 231) (x := x0) K dX9_readsAttribute_231 rfl ?_
    refine Vw.iload (pc := 232) (x := x4) K dX9_readsAttribute_232 rfl ?_
    refine Vw.iload (pc := 234) (x := x5) K dX9_readsAttribute_234 rfl ?_
    refine Vw.aload_n (pc := 236) (x := x0) K dX9_readsAttribute_236 rfl ?_
    refine Vw.getR (pc := 237) (k := 12) (f := 460) K cls7 rfl rfl u_6_29 g1 dX9_readsAttribute_237 ?_
    obtain ⟨v6, e5, h⟩ := wbd h
    refine Vw.cV1 (pc := 240) (v := .inl v6) (c' := 0) (n' := 0) K (s_X9_isLikely K.tr e5) cal_X9_isLikely cls7 u_7_26 g1 rfl ⟨by decide, by decide⟩ ⟨by decide, by decide⟩ rfl (Nat.le_of_ble_eq_true rfl) dX9_readsAttribute_240 rfl rfl ?_
    refine Vw.if_eq (pc := 243) (tgt := 258) K dX9_readsAttribute_243 (by decide) (fun c7 => ?_) (fun c7 => ?_)
    · have h := wpos c7 h
      refine Vw.aload_n (pc := 258) (x := x0) K dX9_readsAttribute_258 rfl ?_
      refine Vw.iload (pc := 259) (x := x4) K dX9_readsAttribute_259 rfl ?_
      refine Vw.iload (pc := 261) (x := x5) K dX9_readsAttribute_261 rfl ?_
      refine Vw.aload_n (pc := 263) (x := x0) K dX9_readsAttribute_263 rfl ?_
      refine Vw.getR (pc := 264) (k := 13) (f := 461) K cls7 rfl rfl u_6_30 g1 dX9_readsAttribute_264 ?_
      obtain ⟨v9, e8, h⟩ := wbd h
      refine Vw.cV1 (pc := 267) (v := .inl v9) (c' := 0) (n' := 0) K (s_X9_isLikely K.tr e8) cal_X9_isLikely cls7 u_7_26 g1 rfl ⟨by decide, by decide⟩ ⟨by decide, by decide⟩ rfl (Nat.le_of_ble_eq_true rfl) dX9_readsAttribute_267 rfl rfl ?_
      refine Vw.if_eq (pc := 270) (tgt := 298) K dX9_readsAttribute_270 (by decide) (fun c10 => ?_) (fun c10 => ?_)
      · have h := wpos c10 h
        refine Vw.aload_n (pc := 298) (x := x0) K dX9_readsAttribute_298 rfl ?_
        refine Vw.iload (pc := 299) (x := x4) K dX9_readsAttribute_299 rfl ?_
        refine Vw.iload (pc := 301) (x := x5) K dX9_readsAttribute_301 rfl ?_
        refine Vw.aload_n (pc := 303) (x := x0) K dX9_readsAttribute_303 rfl ?_
        refine Vw.getR (pc := 304) (k := 14) (f := 462) K cls7 rfl rfl u_6_31 g1 dX9_readsAttribute_304 ?_
        obtain ⟨v12, e11, h⟩ := wbd h
        refine Vw.cV1 (pc := 307) (v := .inl v12) (c' := 0) (n' := 0) K (s_X9_isLikely K.tr e11) cal_X9_isLikely cls7 u_7_26 g1 rfl ⟨by decide, by decide⟩ ⟨by decide, by decide⟩ rfl (Nat.le_of_ble_eq_true rfl) dX9_readsAttribute_307 rfl rfl ?_
        refine Vw.if_eq (pc := 310) (tgt := 335) K dX9_readsAttribute_310 (by decide) (fun c13 => ?_) (fun c13 => ?_)
        · have h := wpos c13 h
          exact Vw.vretE (pc := 335) K (Option.some.inj h) E (by decide) (by decide) dX9_readsAttribute_335
        · have h := wneg c13 h
          refine Vw.aload_n (pc := 313) (x := x0) K dX9_readsAttribute_313 rfl ?_
          refine Vw.bipush (pc := 314) (v := (12 : Int32)) K (by decide) dX9_readsAttribute_314 ?_
          refine Vw.iload (pc := 316) (x := x6) K dX9_readsAttribute_316 rfl ?_
          refine Vw.iload (pc := 318) (x := x7) K dX9_readsAttribute_318 rfl ?_
          refine Vw.aload_n (pc := 320) (x := x0) K dX9_readsAttribute_320 rfl ?_
          refine Vw.getR (pc := 321) (k := 18) (f := 466) K cls7 rfl rfl u_6_35 g1 dX9_readsAttribute_321 ?_
          refine Vw.aload_n (pc := 324) (x := x0) K dX9_readsAttribute_324 rfl ?_
          refine Vw.getR (pc := 325) (k := 19) (f := 467) K cls7 rfl rfl u_6_36 g1 dX9_readsAttribute_325 ?_
          refine Vw.aload_n (pc := 328) (x := x0) K dX9_readsAttribute_328 rfl ?_
          refine Vw.getR (pc := 329) (k := 20) (f := 468) K cls7 rfl rfl u_6_37 g1 dX9_readsAttribute_329 ?_
          obtain ⟨A15, e14, h⟩ := wbd h
          refine Vw.cV0 (pc := 332) (c' := 0) (n' := 0) K (s_X9_readsChoice K.tr e14) cal_X9_readsChoice cls7 u_7_82 g1 rfl ⟨by decide, by decide⟩ ⟨by decide, by decide⟩ rfl (Nat.le_of_ble_eq_true rfl) dX9_readsAttribute_332 rfl rfl ?_
          exact Vw.vretE (pc := 335) K (Option.some.inj h) E (by decide) (by decide) dX9_readsAttribute_335
      · have h := wneg c10 h
        refine Vw.aload_n (pc := 273) (x := x0) K dX9_readsAttribute_273 rfl ?_
        refine Vw.bipush (pc := 274) (v := (11 : Int32)) K (by decide) dX9_readsAttribute_274 ?_
        refine Vw.iload (pc := 276) (x := x6) K dX9_readsAttribute_276 rfl ?_
        refine Vw.iload (pc := 278) (x := x7) K dX9_readsAttribute_278 rfl ?_
        refine Vw.aload_n (pc := 280) (x := x0) K dX9_readsAttribute_280 rfl ?_
        refine Vw.getR (pc := 281) (k := 15) (f := 463) K cls7 rfl rfl u_6_32 g1 dX9_readsAttribute_281 ?_
        refine Vw.aload_n (pc := 284) (x := x0) K dX9_readsAttribute_284 rfl ?_
        refine Vw.getR (pc := 285) (k := 16) (f := 464) K cls7 rfl rfl u_6_33 g1 dX9_readsAttribute_285 ?_
        refine Vw.aload_n (pc := 288) (x := x0) K dX9_readsAttribute_288 rfl ?_
        refine Vw.getR (pc := 289) (k := 17) (f := 465) K cls7 rfl rfl u_6_34 g1 dX9_readsAttribute_289 ?_
        obtain ⟨A17, e16, h⟩ := wbd h
        refine Vw.cV0 (pc := 292) (c' := 0) (n' := 0) K (s_X9_readsChoice K.tr e16) cal_X9_readsChoice cls7 u_7_82 g1 rfl ⟨by decide, by decide⟩ ⟨by decide, by decide⟩ rfl (Nat.le_of_ble_eq_true rfl) dX9_readsAttribute_292 rfl rfl ?_
        refine Vw.goto (pc := 295) (tgt := 335) K dX9_readsAttribute_295 (by decide) ?_
        exact Vw.vretE (pc := 335) K (Option.some.inj h) E (by decide) (by decide) dX9_readsAttribute_335
    · have h := wneg c7 h
      refine Vw.aload_n (pc := 246) (x := x0) K dX9_readsAttribute_246 rfl ?_
      refine Vw.getR (pc := 247) (k := 0) (f := 448) K cls7 rfl rfl u_6_17 g1 dX9_readsAttribute_247 ?_
      refine Vw.sipush (pc := 250) (v := (8610 : Int32)) K (by decide) dX9_readsAttribute_250 ?_
      refine Vw.lconst (pc := 253) (v := (1 : Int64)) K (by decide) dX9_readsAttribute_253 ?_
      obtain ⟨g18, h⟩ := wgd h
      obtain ⟨g19, h⟩ := wgd h
      refine Vw.lastore (pc := 254) K g18 g19 dX9_readsAttribute_254 ?_
      refine Vw.goto (pc := 255) (tgt := 335) K dX9_readsAttribute_255 (by decide) ?_
      exact Vw.vretE (pc := 335) K (Option.some.inj h) E (by decide) (by decide) dX9_readsAttribute_335
  · have h := wneg c4 h
    refine Vw.aload_n (pc := 219) (x := x0) K dX9_readsAttribute_219 rfl ?_
    refine Vw.getR (pc := 220) (k := 0) (f := 448) K cls7 rfl rfl u_6_17 g1 dX9_readsAttribute_220 ?_
    refine Vw.sipush (pc := 223) (v := (8609 : Int32)) K (by decide) dX9_readsAttribute_223 ?_
    refine Vw.lconst (pc := 226) (v := (1 : Int64)) K (by decide) dX9_readsAttribute_226 ?_
    obtain ⟨g20, h⟩ := wgd h
    obtain ⟨g21, h⟩ := wgd h
    refine Vw.lastore (pc := 227) K g20 g21 dX9_readsAttribute_227 ?_
    refine Vw.goto (pc := 228) (tgt := 335) K dX9_readsAttribute_228 (by decide) ?_
    exact Vw.vretE (pc := 335) K (Option.some.inj h) E (by decide) (by decide) dX9_readsAttribute_335
def k_X9_readsAttribute_39  (A : Hp) (x0 : Nat) (x2 : Int32) (x4 : Int32) (x5 : Int32) (t0 : Nat) (t1 : Int32) : Option (Hp) := if (hsh A t0).1 = 8 then ((f_X9_trimFrom A t0 t1 x2).bind fun v24 => if (hsh A x0).1 = 8 then ((f_X9_trimTo A x0 v24 x2).bind fun v27 => ((f_X9_isLikely A x0 x4 x5 (hgR A 455 x0 0)).bind fun v29 => (if v29 = (0 : Int32) then ((f_X9_isLikely A x0 x4 x5 (hgR A 456 x0 0)).bind fun v32 => (if v32 = (0 : Int32) then ((f_X9_isLikely A x0 x4 x5 (hgR A 457 x0 0)).bind fun v35 => (if v35 = (0 : Int32) then ((f_X9_isLikely A x0 x4 x5 (hgR A 458 x0 0)).bind fun v38 => (if v38 = (0 : Int32) then k_X9_readsAttribute_204 A x0 x4 x5 v24 v27 else ((f_X9_in A ((v27 - v24).toInt64) (1 : Int64) (40 : Int64)).bind fun v41 => (if v41 = (0 : Int32) then k_X9_readsAttribute_204 A x0 x4 x5 v24 v27 else if (hsh A (hgR A 448 x0 0)).1 = 11 then if wix ((8400 : Int32) + v24) (hsh A (hgR A 448 x0 0)).2 then (if (hgL A 1035 (hgR A 448 x0 0) ((8400 : Int32) + v24).toNatClampNeg) = (47 : Int64) then some (hsI (hsI (hsI A 478 x0 0 (1 : Int32)) 479 x0 0 v24) 480 x0 0 (v27 - v24)) else k_X9_readsAttribute_204 A x0 x4 x5 v24 v27) else none else none)))) else ((f_X9_readsDomain A x0 v24 v27).bind fun A47 => some A47))) else ((f_X9_readsAge A x0 v24 v27).bind fun A49 => some A49))) else ((f_X9_readsDate A x0 v24 v27).bind fun A51 => some A51)))) else none) else none
set_option maxRecDepth 100000 in
theorem s_X9_readsAttribute_39 {κ : KT} {B : Hp} {A : Hp} {x0 : Nat} {x2 : Int32} {x4 : Int32} {x5 : Int32} {t0 : Nat} {t1 : Int32}  (K : Cx κ cX9_readsAttribute 8 RX9 4 109 0 0) (E : Ed κ none "readsAttribute" (.inl none) B 0 0)  (h : k_X9_readsAttribute_39  A x0 x2 x4 x5 t0 t1 = some B) : Vw κ A 0 0 39 [(0, .inr (.inr x0)), (2, .inl x2), (4, .inl x4), (5, .inl x5)] [.inl t1, .inr (.inr t0)] := by
  unfold k_X9_readsAttribute_39 at h
  refine Vw.iload_n (pc := 39) (x := x2) K dX9_readsAttribute_39 rfl ?_
  obtain ⟨g22, h⟩ := wgd h
  obtain ⟨v24, e23, h⟩ := wbd h
  refine Vw.cV1 (pc := 40) (v := .inl v24) (c' := 0) (n' := 0) K (s_X9_trimFrom K.tr e23) cal_X9_trimFrom cls7 u_7_14 g22 rfl ⟨by decide, by decide⟩ ⟨by decide, by decide⟩ rfl (Nat.le_of_ble_eq_true rfl) dX9_readsAttribute_40 rfl rfl ?_
  refine Vw.istore (pc := 43) K dX9_readsAttribute_43 (by decide) ?_
  refine Vw.aload_n (pc := 45) (x := x0) K dX9_readsAttribute_45 rfl ?_
  refine Vw.iload (pc := 46) (x := v24) K dX9_readsAttribute_46 rfl ?_
  refine Vw.iload_n (pc := 48) (x := x2) K dX9_readsAttribute_48 rfl ?_
  obtain ⟨g25, h⟩ := wgd h
  obtain ⟨v27, e26, h⟩ := wbd h
  refine Vw.cV1 (pc := 49) (v := .inl v27) (c' := 0) (n' := 0) K (s_X9_trimTo K.tr e26) cal_X9_trimTo cls7 u_7_18 g25 rfl ⟨by decide, by decide⟩ ⟨by decide, by decide⟩ rfl (Nat.le_of_ble_eq_true rfl) dX9_readsAttribute_49 rfl rfl ?_
  refine Vw.istore (pc := 52) K dX9_readsAttribute_52 (by decide) ?_
  refine Vw.aload_n (pc := 54) (x := x0) K dX9_readsAttribute_54 rfl ?_
  refine Vw.iload (pc := 55) (x := x4) K dX9_readsAttribute_55 rfl ?_
  refine Vw.iload (pc := 57) (x := x5) K dX9_readsAttribute_57 rfl ?_
  refine Vw.aload_n (pc := 59) (x := x0) K dX9_readsAttribute_59 rfl ?_
  refine Vw.getR (pc := 60) (k := 7) (f := 455) K cls7 rfl rfl u_6_24 g25 dX9_readsAttribute_60 ?_
  obtain ⟨v29, e28, h⟩ := wbd h
  refine Vw.cV1 (pc := 63) (v := .inl v29) (c' := 0) (n' := 0) K (s_X9_isLikely K.tr e28) cal_X9_isLikely cls7 u_7_26 g25 rfl ⟨by decide, by decide⟩ ⟨by decide, by decide⟩ rfl (Nat.le_of_ble_eq_true rfl) dX9_readsAttribute_63 rfl rfl ?_
  refine Vw.if_eq (pc := 66) (tgt := 80) K dX9_readsAttribute_66 (by decide) (fun c30 => ?_) (fun c30 => ?_)
  · have h := wpos c30 h
    refine Vw.aload_n (pc := 80) (x := x0) K dX9_readsAttribute_80 rfl ?_
    refine Vw.iload (pc := 81) (x := x4) K dX9_readsAttribute_81 rfl ?_
    refine Vw.iload (pc := 83) (x := x5) K dX9_readsAttribute_83 rfl ?_
    refine Vw.aload_n (pc := 85) (x := x0) K dX9_readsAttribute_85 rfl ?_
    refine Vw.getR (pc := 86) (k := 8) (f := 456) K cls7 rfl rfl u_6_25 g25 dX9_readsAttribute_86 ?_
    obtain ⟨v32, e31, h⟩ := wbd h
    refine Vw.cV1 (pc := 89) (v := .inl v32) (c' := 0) (n' := 0) K (s_X9_isLikely K.tr e31) cal_X9_isLikely cls7 u_7_26 g25 rfl ⟨by decide, by decide⟩ ⟨by decide, by decide⟩ rfl (Nat.le_of_ble_eq_true rfl) dX9_readsAttribute_89 rfl rfl ?_
    refine Vw.if_eq (pc := 92) (tgt := 106) K dX9_readsAttribute_92 (by decide) (fun c33 => ?_) (fun c33 => ?_)
    · have h := wpos c33 h
      refine Vw.aload_n (pc := 106) (x := x0) K dX9_readsAttribute_106 rfl ?_
      refine Vw.iload (pc := 107) (x := x4) K dX9_readsAttribute_107 rfl ?_
      refine Vw.iload (pc := 109) (x := x5) K dX9_readsAttribute_109 rfl ?_
      refine Vw.aload_n (pc := 111) (x := x0) K dX9_readsAttribute_111 rfl ?_
      refine Vw.getR (pc := 112) (k := 9) (f := 457) K cls7 rfl rfl u_6_26 g25 dX9_readsAttribute_112 ?_
      obtain ⟨v35, e34, h⟩ := wbd h
      refine Vw.cV1 (pc := 115) (v := .inl v35) (c' := 0) (n' := 0) K (s_X9_isLikely K.tr e34) cal_X9_isLikely cls7 u_7_26 g25 rfl ⟨by decide, by decide⟩ ⟨by decide, by decide⟩ rfl (Nat.le_of_ble_eq_true rfl) dX9_readsAttribute_115 rfl rfl ?_
      refine Vw.if_eq (pc := 118) (tgt := 132) K dX9_readsAttribute_118 (by decide) (fun c36 => ?_) (fun c36 => ?_)
      · have h := wpos c36 h
        refine Vw.aload_n (pc := 132) (x := x0) K dX9_readsAttribute_132 rfl ?_
        refine Vw.iload (pc := 133) (x := x4) K dX9_readsAttribute_133 rfl ?_
        refine Vw.iload (pc := 135) (x := x5) K dX9_readsAttribute_135 rfl ?_
        refine Vw.aload_n (pc := 137) (x := x0) K dX9_readsAttribute_137 rfl ?_
        refine Vw.getR (pc := 138) (k := 10) (f := 458) K cls7 rfl rfl u_6_27 g25 dX9_readsAttribute_138 ?_
        obtain ⟨v38, e37, h⟩ := wbd h
        refine Vw.cV1 (pc := 141) (v := .inl v38) (c' := 0) (n' := 0) K (s_X9_isLikely K.tr e37) cal_X9_isLikely cls7 u_7_26 g25 rfl ⟨by decide, by decide⟩ ⟨by decide, by decide⟩ rfl (Nat.le_of_ble_eq_true rfl) dX9_readsAttribute_141 rfl rfl ?_
        refine Vw.if_eq (pc := 144) (tgt := 204) K dX9_readsAttribute_144 (by decide) (fun c39 => ?_) (fun c39 => ?_)
        · have h := wpos c39 h
          exact Vw.loc rfl (s_X9_readsAttribute_204 K E  h)
        · have h := wneg c39 h
          refine Vw.iload (pc := 147) (x := v27) K dX9_readsAttribute_147 rfl ?_
          refine Vw.iload (pc := 149) (x := v24) K dX9_readsAttribute_149 rfl ?_
          refine Vw.isub (pc := 151) K dX9_readsAttribute_151 ?_
          refine Vw.i2l (pc := 152) K dX9_readsAttribute_152 ?_
          refine Vw.lconst (pc := 153) (v := (1 : Int64)) K (by decide) dX9_readsAttribute_153 ?_
          refine Vw.ldc2 (pc := 154) (v := (40 : Int64)) K u_7_81 dX9_readsAttribute_154 ?_
          obtain ⟨v41, e40, h⟩ := wbd h
          refine Vw.cS1 (pc := 157) (v := .inl v41) (c' := 0) (n' := 0) K (s_X9_in K.tr e40) cal_X9_in u_6_161 rfl ⟨by decide, by decide⟩ ⟨by decide, by decide⟩ rfl (Nat.le_of_ble_eq_true rfl) dX9_readsAttribute_157 rfl rfl ?_
          refine Vw.if_eq (pc := 160) (tgt := 204) K dX9_readsAttribute_160 (by decide) (fun c42 => ?_) (fun c42 => ?_)
          · have h := wpos c42 h
            exact Vw.loc rfl (s_X9_readsAttribute_204 K E  h)
          · have h := wneg c42 h
            refine Vw.aload_n (pc := 163) (x := x0) K dX9_readsAttribute_163 rfl ?_
            refine Vw.getR (pc := 164) (k := 0) (f := 448) K cls7 rfl rfl u_6_17 g25 dX9_readsAttribute_164 ?_
            refine Vw.sipush (pc := 167) (v := (8400 : Int32)) K (by decide) dX9_readsAttribute_167 ?_
            refine Vw.iload (pc := 170) (x := v24) K dX9_readsAttribute_170 rfl ?_
            refine Vw.iadd (pc := 172) K dX9_readsAttribute_172 ?_
            obtain ⟨g43, h⟩ := wgd h
            obtain ⟨g44, h⟩ := wgd h
            refine Vw.laload (pc := 173) K g43 g44 dX9_readsAttribute_173 ?_
            refine Vw.ldc2 (pc := 174) (v := (47 : Int64)) K u_6_168 dX9_readsAttribute_174 ?_
            refine Vw.lcmp_ne (pc := 177) (tgt := 204) K dX9_readsAttribute_177 dX9_readsAttribute_178 (by decide) (fun c45 => ?_) (fun c45 => ?_)
            · have h := wneg c45 h
              exact Vw.loc rfl (s_X9_readsAttribute_204 K E  h)
            · have h := wpos c45 h
              refine Vw.aload_n (pc := 181) (x := x0) K dX9_readsAttribute_181 rfl ?_
              refine Vw.iconst (pc := 182) (v := (1 : Int32)) K (by decide) dX9_readsAttribute_182 ?_
              refine Vw.putI (pc := 183) (k := 30) (f := 478) K cls7 rfl rfl u_6_47 g25 (Or.inl rfl) (wZ_n (Or.inr rfl)) (wZ_f (Or.inr rfl)) dX9_readsAttribute_183 ?_
              refine Vw.aload_n (pc := 186) (x := x0) K dX9_readsAttribute_186 rfl ?_
              refine Vw.iload (pc := 187) (x := v24) K dX9_readsAttribute_187 rfl ?_
              refine Vw.putI (pc := 189) (k := 31) (f := 479) K cls7 rfl rfl u_6_48 g25 (Or.inl rfl) rfl rfl dX9_readsAttribute_189 ?_
              refine Vw.aload_n (pc := 192) (x := x0) K dX9_readsAttribute_192 rfl ?_
              refine Vw.iload (pc := 193) (x := v27) K dX9_readsAttribute_193 rfl ?_
              refine Vw.iload (pc := 195) (x := v24) K dX9_readsAttribute_195 rfl ?_
              refine Vw.isub (pc := 197) K dX9_readsAttribute_197 ?_
              refine Vw.putI (pc := 198) (k := 32) (f := 480) K cls7 rfl rfl u_6_49 g25 (Or.inl rfl) rfl rfl dX9_readsAttribute_198 ?_
              refine Vw.goto (pc := 201) (tgt := 335) K dX9_readsAttribute_201 (by decide) ?_
              exact Vw.vretE (pc := 335) K (Option.some.inj h) E (by decide) (by decide) dX9_readsAttribute_335
      · have h := wneg c36 h
        refine Vw.aload_n (pc := 121) (x := x0) K dX9_readsAttribute_121 rfl ?_
        refine Vw.iload (pc := 122) (x := v24) K dX9_readsAttribute_122 rfl ?_
        refine Vw.iload (pc := 124) (x := v27) K dX9_readsAttribute_124 rfl ?_
        obtain ⟨A47, e46, h⟩ := wbd h
        refine Vw.cV0 (pc := 126) (c' := 0) (n' := 0) K (s_X9_readsDomain K.tr e46) cal_X9_readsDomain cls7 u_7_77 g25 rfl ⟨by decide, by decide⟩ ⟨by decide, by decide⟩ rfl (Nat.le_of_ble_eq_true rfl) dX9_readsAttribute_126 rfl rfl ?_
        refine Vw.goto (pc := 129) (tgt := 335) K dX9_readsAttribute_129 (by decide) ?_
        exact Vw.vretE (pc := 335) K (Option.some.inj h) E (by decide) (by decide) dX9_readsAttribute_335
    · have h := wneg c33 h
      refine Vw.aload_n (pc := 95) (x := x0) K dX9_readsAttribute_95 rfl ?_
      refine Vw.iload (pc := 96) (x := v24) K dX9_readsAttribute_96 rfl ?_
      refine Vw.iload (pc := 98) (x := v27) K dX9_readsAttribute_98 rfl ?_
      obtain ⟨A49, e48, h⟩ := wbd h
      refine Vw.cV0 (pc := 100) (c' := 0) (n' := 0) K (s_X9_readsAge K.tr e48) cal_X9_readsAge cls7 u_7_73 g25 rfl ⟨by decide, by decide⟩ ⟨by decide, by decide⟩ rfl (Nat.le_of_ble_eq_true rfl) dX9_readsAttribute_100 rfl rfl ?_
      refine Vw.goto (pc := 103) (tgt := 335) K dX9_readsAttribute_103 (by decide) ?_
      exact Vw.vretE (pc := 335) K (Option.some.inj h) E (by decide) (by decide) dX9_readsAttribute_335
  · have h := wneg c30 h
    refine Vw.aload_n (pc := 69) (x := x0) K dX9_readsAttribute_69 rfl ?_
    refine Vw.iload (pc := 70) (x := v24) K dX9_readsAttribute_70 rfl ?_
    refine Vw.iload (pc := 72) (x := v27) K dX9_readsAttribute_72 rfl ?_
    obtain ⟨A51, e50, h⟩ := wbd h
    refine Vw.cV0 (pc := 74) (c' := 0) (n' := 0) K (s_X9_readsDate K.tr e50) cal_X9_readsDate cls7 u_7_32 g25 rfl ⟨by decide, by decide⟩ ⟨by decide, by decide⟩ rfl (Nat.le_of_ble_eq_true rfl) dX9_readsAttribute_74 rfl rfl ?_
    refine Vw.goto (pc := 77) (tgt := 335) K dX9_readsAttribute_77 (by decide) ?_
    exact Vw.vretE (pc := 335) K (Option.some.inj h) E (by decide) (by decide) dX9_readsAttribute_335
def f_X9_readsAttribute (A : Hp) (x0 : Nat) (x1 : Int32) (x2 : Int32) : Option (Hp) := if (hsh A x0).1 = 8 then ((f_X9_find A x0 (61 : Int32) x1 x2).bind fun v54 => ((f_X9_trimFrom A x0 x1 v54).bind fun v56 => ((f_X9_trimTo A x0 v56 v54).bind fun v58 => (if x2 ≤ v54 then k_X9_readsAttribute_39 A x0 x2 v56 v58 x0 x2 else k_X9_readsAttribute_39 A x0 x2 v56 v58 x0 (v54 + (1 : Int32)))))) else none
set_option maxRecDepth 100000 in
theorem s_X9_readsAttribute {l : Launch} {g : GT} (hl : l.stackTraces = false) {A : Hp} {x0 : Nat} {x1 : Int32} {x2 : Int32} {B : Hp} (h : f_X9_readsAttribute A x0 x1 x2 = some B) : MetV l g yX9_readsAttribute (.code yX9_readsAttribute cX9_readsAttribute 8 none) [.inr (.inr x0), .inl x1, .inl x2] A (.inl none) B 4 109 0 0 := by
  refine MetV.ofV hl (by decide +kernel) (Nat.le_of_ble_eq_true rfl) (fun κ K E => ?_)
  have K : Cx κ cX9_readsAttribute 8 RX9 4 109 0 0 := K
  have E : Ed κ none "readsAttribute" (.inl none) B 0 0 := E
  unfold f_X9_readsAttribute at h
  change Vw κ A 0 0 0 [(0, .inr (.inr x0)), (1, .inl x1), (2, .inl x2)] []
  refine Vw.aload_n (pc := 0) (x := x0) K dX9_readsAttribute_0 rfl ?_
  refine Vw.bipush (pc := 1) (v := (61 : Int32)) K (by decide) dX9_readsAttribute_1 ?_
  refine Vw.iload_n (pc := 3) (x := x1) K dX9_readsAttribute_3 rfl ?_
  refine Vw.iload_n (pc := 4) (x := x2) K dX9_readsAttribute_4 rfl ?_
  obtain ⟨g52, h⟩ := wgd h
  obtain ⟨v54, e53, h⟩ := wbd h
  refine Vw.cV1 (pc := 5) (v := .inl v54) (c' := 0) (n' := 0) K (s_X9_find K.tr e53) cal_X9_find cls7 u_7_10 g52 rfl ⟨by decide, by decide⟩ ⟨by decide, by decide⟩ rfl (Nat.le_of_ble_eq_true rfl) dX9_readsAttribute_5 rfl rfl ?_
  refine Vw.istore_n (pc := 8) K dX9_readsAttribute_8 (by decide) ?_
  refine Vw.aload_n (pc := 9) (x := x0) K dX9_readsAttribute_9 rfl ?_
  refine Vw.iload_n (pc := 10) (x := x1) K dX9_readsAttribute_10 rfl ?_
  refine Vw.iload_n (pc := 11) (x := v54) K dX9_readsAttribute_11 rfl ?_
  obtain ⟨v56, e55, h⟩ := wbd h
  refine Vw.cV1 (pc := 12) (v := .inl v56) (c' := 0) (n' := 0) K (s_X9_trimFrom K.tr e55) cal_X9_trimFrom cls7 u_7_14 g52 rfl ⟨by decide, by decide⟩ ⟨by decide, by decide⟩ rfl (Nat.le_of_ble_eq_true rfl) dX9_readsAttribute_12 rfl rfl ?_
  refine Vw.istore (pc := 15) K dX9_readsAttribute_15 (by decide) ?_
  refine Vw.aload_n (pc := 17) (x := x0) K dX9_readsAttribute_17 rfl ?_
  refine Vw.iload (pc := 18) (x := v56) K dX9_readsAttribute_18 rfl ?_
  refine Vw.iload_n (pc := 20) (x := v54) K dX9_readsAttribute_20 rfl ?_
  obtain ⟨v58, e57, h⟩ := wbd h
  refine Vw.cV1 (pc := 21) (v := .inl v58) (c' := 0) (n' := 0) K (s_X9_trimTo K.tr e57) cal_X9_trimTo cls7 u_7_18 g52 rfl ⟨by decide, by decide⟩ ⟨by decide, by decide⟩ rfl (Nat.le_of_ble_eq_true rfl) dX9_readsAttribute_21 rfl rfl ?_
  refine Vw.istore (pc := 24) K dX9_readsAttribute_24 (by decide) ?_
  refine Vw.aload_n (pc := 26) (x := x0) K dX9_readsAttribute_26 rfl ?_
  refine Vw.iload_n (pc := 27) (x := v54) K dX9_readsAttribute_27 rfl ?_
  refine Vw.iload_n (pc := 28) (x := x2) K dX9_readsAttribute_28 rfl ?_
  refine Vw.icmp_ge (pc := 29) (tgt := 38) K dX9_readsAttribute_29 (by decide) (fun c59 => ?_) (fun c59 => ?_)
  · have h := wpos c59 h
    refine Vw.iload_n (pc := 38) (x := x2) K dX9_readsAttribute_38 rfl ?_
    exact Vw.loc rfl (s_X9_readsAttribute_39 K E  h)
  · have h := wneg c59 h
    refine Vw.iload_n (pc := 32) (x := v54) K dX9_readsAttribute_32 rfl ?_
    refine Vw.iconst (pc := 33) (v := (1 : Int32)) K (by decide) dX9_readsAttribute_33 ?_
    refine Vw.iadd (pc := 34) K dX9_readsAttribute_34 ?_
    refine Vw.goto (pc := 35) (tgt := 39) K dX9_readsAttribute_35 (by decide) ?_
    exact Vw.loc rfl (s_X9_readsAttribute_39 K E  h)
theorem cal_X9_readsAttribute : wCalV RX9 yX9_readsAttribute (.code yX9_readsAttribute cX9_readsAttribute 8 none) 2 := ⟨by decide +kernel, u_7_24, us_4_5, u_1_9, u_7_25⟩
def k_X9_readsCookie_160s  (x0 : Nat)  (rec160 : Hp → Int32 → Option (Hp)) (A : Hp) (x1 : Int32) : Option (Hp) := if (hsh A x0).1 = 8 then (if (hgI A 451 x0 0) ≤ x1 then some A else ((f_X9_find A x0 (59 : Int32) (x1 + (1 : Int32)) (hgI A 451 x0 0)).bind fun v4 => ((f_X9_readsAttribute A x0 (x1 + (1 : Int32)) v4).bind fun A6 => rec160 A6 v4))) else none
def k_X9_readsCookie_160  (x0 : Nat)  : Nat → Hp → Int32 → Option (Hp)
  | 0 => fun _ _ => none
  | fu + 1 => k_X9_readsCookie_160s x0  (k_X9_readsCookie_160 x0  fu)
set_option maxRecDepth 100000 in
theorem s_X9_readsCookie_160 {κ : KT} {B : Hp}  {x0 : Nat}  (K : Cx κ cX9_readsCookie 4 RX9 5 136 0 0) (E : Ed κ none "readsCookie" (.inl none) B 0 0)  : ∀ (fu : Nat) (A : Hp) (x1 : Int32),  k_X9_readsCookie_160 x0  fu A x1 = some B → Vw κ A 0 0 160 [(0, .inr (.inr x0)), (1, .inl x1)] [] := by
  intro fu
  induction fu with
  | zero => intro A x1 h; cases h
  | succ fu hr160 =>
    intro A x1 h
    have h : k_X9_readsCookie_160s x0  (k_X9_readsCookie_160 x0  fu) A x1 = some B := h
    unfold k_X9_readsCookie_160s at h
    refine Vw.iload_n (pc := 160) (x := x1) K dX9_readsCookie_160 rfl ?_
    refine Vw.aload_n (pc := 161) (x := x0) K dX9_readsCookie_161 rfl ?_
    obtain ⟨g1, h⟩ := wgd h
    refine Vw.getI (pc := 162) (k := 3) (f := 451) K cls7 rfl rfl u_6_20 g1 dX9_readsCookie_162 ?_
    refine Vw.icmp_ge (pc := 165) (tgt := 193) K dX9_readsCookie_165 (by decide) (fun c2 => ?_) (fun c2 => ?_)
    · have h := wpos c2 h
      exact Vw.vretE (pc := 193) K (Option.some.inj h) E (by decide) (by decide) dX9_readsCookie_193
    · have h := wneg c2 h
      refine Vw.iload_n (pc := 168) (x := x1) K dX9_readsCookie_168 rfl ?_
      refine Vw.iconst (pc := 169) (v := (1 : Int32)) K (by decide) dX9_readsCookie_169 ?_
      refine Vw.iadd (pc := 170) K dX9_readsCookie_170 ?_
      refine Vw.istore_n (pc := 171) K dX9_readsCookie_171 (by decide) ?_
      refine Vw.aload_n (pc := 172) (x := x0) K dX9_readsCookie_172 rfl ?_
      refine Vw.bipush (pc := 173) (v := (59 : Int32)) K (by decide) dX9_readsCookie_173 ?_
      refine Vw.iload_n (pc := 175) (x := (x1 + (1 : Int32))) K dX9_readsCookie_175 rfl ?_
      refine Vw.aload_n (pc := 176) (x := x0) K dX9_readsCookie_176 rfl ?_
      refine Vw.getI (pc := 177) (k := 3) (f := 451) K cls7 rfl rfl u_6_20 g1 dX9_readsCookie_177 ?_
      obtain ⟨v4, e3, h⟩ := wbd h
      refine Vw.cV1 (pc := 180) (v := .inl v4) (c' := 0) (n' := 0) K (s_X9_find K.tr e3) cal_X9_find cls7 u_7_10 g1 rfl ⟨by decide, by decide⟩ ⟨by decide, by decide⟩ rfl (Nat.le_of_ble_eq_true rfl) dX9_readsCookie_180 rfl rfl ?_
      refine Vw.istore_n (pc := 183) K dX9_readsCookie_183 (by decide) ?_
      refine Vw.aload_n (pc := 184) (x := x0) K dX9_readsCookie_184 rfl ?_
      refine Vw.iload_n (pc := 185) (x := (x1 + (1 : Int32))) K dX9_readsCookie_185 rfl ?_
      refine Vw.iload_n (pc := 186) (x := v4) K dX9_readsCookie_186 rfl ?_
      obtain ⟨A6, e5, h⟩ := wbd h
      refine Vw.cV0 (pc := 187) (c' := 0) (n' := 0) K (s_X9_readsAttribute K.tr e5) cal_X9_readsAttribute cls7 u_7_22 g1 rfl ⟨by decide, by decide⟩ ⟨by decide, by decide⟩ rfl (Nat.le_of_ble_eq_true rfl) dX9_readsCookie_187 rfl rfl ?_
      refine Vw.goto (pc := 190) (tgt := 160) K dX9_readsCookie_190 (by decide) ?_
      exact Vw.loc rfl (hr160 _ _ h)
def k_X9_readsCookie_135  (A : Hp) (x0 : Nat) (x1 : Int32) (t0 : Nat) (t1 : Nat) (t2 : Int32) : Option (Hp) := if (hsh A t1).1 = 8 then ((f_X9_trimFrom A t1 t2 x1).bind fun v9 => if (hsh A t0).1 = 8 then if (hsh (hsI A 484 t0 0 v9) x0).1 = 8 then ((f_X9_trimTo (hsI A 484 t0 0 v9) x0 (hgI (hsI A 484 t0 0 v9) 484 x0 0) x1).bind fun v13 => k_X9_readsCookie_160 x0 FU (hsI (hsI A 484 t0 0 v9) 485 x0 0 (v13 - (hgI (hsI A 484 t0 0 v9) 484 x0 0))) x1) else none else none) else none
set_option maxRecDepth 100000 in
theorem s_X9_readsCookie_135 {κ : KT} {B : Hp} {A : Hp} {x0 : Nat} {x1 : Int32} {t0 : Nat} {t1 : Nat} {t2 : Int32}  (K : Cx κ cX9_readsCookie 4 RX9 5 136 0 0) (E : Ed κ none "readsCookie" (.inl none) B 0 0)  (h : k_X9_readsCookie_135  A x0 x1 t0 t1 t2 = some B) : Vw κ A 0 0 135 [(0, .inr (.inr x0)), (1, .inl x1)] [.inl t2, .inr (.inr t1), .inr (.inr t0)] := by
  unfold k_X9_readsCookie_135 at h
  refine Vw.iload_n (pc := 135) (x := x1) K dX9_readsCookie_135 rfl ?_
  obtain ⟨g7, h⟩ := wgd h
  obtain ⟨v9, e8, h⟩ := wbd h
  refine Vw.cV1 (pc := 136) (v := .inl v9) (c' := 0) (n' := 0) K (s_X9_trimFrom K.tr e8) cal_X9_trimFrom cls7 u_7_14 g7 rfl ⟨by decide, by decide⟩ ⟨by decide, by decide⟩ rfl (Nat.le_of_ble_eq_true rfl) dX9_readsCookie_136 rfl rfl ?_
  obtain ⟨g10, h⟩ := wgd h
  refine Vw.putI (pc := 139) (k := 36) (f := 484) K cls7 rfl rfl u_6_53 g10 (Or.inl rfl) rfl rfl dX9_readsCookie_139 ?_
  refine Vw.aload_n (pc := 142) (x := x0) K dX9_readsCookie_142 rfl ?_
  refine Vw.aload_n (pc := 143) (x := x0) K dX9_readsCookie_143 rfl ?_
  refine Vw.aload_n (pc := 144) (x := x0) K dX9_readsCookie_144 rfl ?_
  obtain ⟨g11, h⟩ := wgd h
  refine Vw.getI (pc := 145) (k := 36) (f := 484) K cls7 rfl rfl u_6_53 g11 dX9_readsCookie_145 ?_
  refine Vw.iload_n (pc := 148) (x := x1) K dX9_readsCookie_148 rfl ?_
  obtain ⟨v13, e12, h⟩ := wbd h
  refine Vw.cV1 (pc := 149) (v := .inl v13) (c' := 0) (n' := 0) K (s_X9_trimTo K.tr e12) cal_X9_trimTo cls7 u_7_18 g11 rfl ⟨by decide, by decide⟩ ⟨by decide, by decide⟩ rfl (Nat.le_of_ble_eq_true rfl) dX9_readsCookie_149 rfl rfl ?_
  refine Vw.aload_n (pc := 152) (x := x0) K dX9_readsCookie_152 rfl ?_
  refine Vw.getI (pc := 153) (k := 36) (f := 484) K cls7 rfl rfl u_6_53 g11 dX9_readsCookie_153 ?_
  refine Vw.isub (pc := 156) K dX9_readsCookie_156 ?_
  refine Vw.putI (pc := 157) (k := 37) (f := 485) K cls7 rfl rfl u_6_54 g11 (Or.inl rfl) rfl rfl dX9_readsCookie_157 ?_
  exact Vw.loc rfl (s_X9_readsCookie_160 K E  _ _ _ h)
def k_X9_readsCookie_88  (A : Hp) (x0 : Nat) (x1 : Int32) (x2 : Int32) (t0 : Nat) (t1 : Int32) : Option (Hp) := if (hsh A t0).1 = 8 then if wZ t1 then if (hsh (hsI A 481 t0 0 t1) x0).1 = 8 then ((f_X9_trimFrom (hsI A 481 t0 0 t1) x0 (0 : Int32) x2).bind fun v18 => ((f_X9_trimTo (hsI (hsI A 481 t0 0 t1) 482 x0 0 v18) x0 (hgI (hsI (hsI A 481 t0 0 t1) 482 x0 0 v18) 482 x0 0) x2).bind fun v20 => (if (hgI (hsI (hsI (hsI A 481 t0 0 t1) 482 x0 0 v18) 483 x0 0 (v20 - (hgI (hsI (hsI A 481 t0 0 t1) 482 x0 0 v18) 482 x0 0))) 481 x0 0) = (0 : Int32) then k_X9_readsCookie_135 (hsI (hsI (hsI A 481 t0 0 t1) 482 x0 0 v18) 483 x0 0 (v20 - (hgI (hsI (hsI A 481 t0 0 t1) 482 x0 0 v18) 482 x0 0))) x0 x1 x0 x0 x1 else k_X9_readsCookie_135 (hsI (hsI (hsI A 481 t0 0 t1) 482 x0 0 v18) 483 x0 0 (v20 - (hgI (hsI (hsI A 481 t0 0 t1) 482 x0 0 v18) 482 x0 0))) x0 x1 x0 x0 (x2 + (1 : Int32))))) else none else none else none
set_option maxRecDepth 100000 in
theorem s_X9_readsCookie_88 {κ : KT} {B : Hp} {A : Hp} {x0 : Nat} {x1 : Int32} {x2 : Int32} {t0 : Nat} {t1 : Int32}  (K : Cx κ cX9_readsCookie 4 RX9 5 136 0 0) (E : Ed κ none "readsCookie" (.inl none) B 0 0)  (h : k_X9_readsCookie_88  A x0 x1 x2 t0 t1 = some B) : Vw κ A 0 0 88 [(0, .inr (.inr x0)), (1, .inl x1), (2, .inl x2)] [.inl t1, .inr (.inr t0)] := by
  unfold k_X9_readsCookie_88 at h
  obtain ⟨g14, h⟩ := wgd h
  obtain ⟨g15, h⟩ := wgd h
  refine Vw.putI (pc := 88) (k := 33) (f := 481) K cls7 rfl rfl u_6_50 g14 (Or.inl rfl) (wZ_n g15) (wZ_f g15) dX9_readsCookie_88 ?_
  refine Vw.aload_n (pc := 91) (x := x0) K dX9_readsCookie_91 rfl ?_
  refine Vw.aload_n (pc := 92) (x := x0) K dX9_readsCookie_92 rfl ?_
  refine Vw.iconst (pc := 93) (v := (0 : Int32)) K (by decide) dX9_readsCookie_93 ?_
  refine Vw.iload_n (pc := 94) (x := x2) K dX9_readsCookie_94 rfl ?_
  obtain ⟨g16, h⟩ := wgd h
  obtain ⟨v18, e17, h⟩ := wbd h
  refine Vw.cV1 (pc := 95) (v := .inl v18) (c' := 0) (n' := 0) K (s_X9_trimFrom K.tr e17) cal_X9_trimFrom cls7 u_7_14 g16 rfl ⟨by decide, by decide⟩ ⟨by decide, by decide⟩ rfl (Nat.le_of_ble_eq_true rfl) dX9_readsCookie_95 rfl rfl ?_
  refine Vw.putI (pc := 98) (k := 34) (f := 482) K cls7 rfl rfl u_6_51 g16 (Or.inl rfl) rfl rfl dX9_readsCookie_98 ?_
  refine Vw.aload_n (pc := 101) (x := x0) K dX9_readsCookie_101 rfl ?_
  refine Vw.aload_n (pc := 102) (x := x0) K dX9_readsCookie_102 rfl ?_
  refine Vw.aload_n (pc := 103) (x := x0) K dX9_readsCookie_103 rfl ?_
  refine Vw.getI (pc := 104) (k := 34) (f := 482) K cls7 rfl rfl u_6_51 g16 dX9_readsCookie_104 ?_
  refine Vw.iload_n (pc := 107) (x := x2) K dX9_readsCookie_107 rfl ?_
  obtain ⟨v20, e19, h⟩ := wbd h
  refine Vw.cV1 (pc := 108) (v := .inl v20) (c' := 0) (n' := 0) K (s_X9_trimTo K.tr e19) cal_X9_trimTo cls7 u_7_18 g16 rfl ⟨by decide, by decide⟩ ⟨by decide, by decide⟩ rfl (Nat.le_of_ble_eq_true rfl) dX9_readsCookie_108 rfl rfl ?_
  refine Vw.aload_n (pc := 111) (x := x0) K dX9_readsCookie_111 rfl ?_
  refine Vw.getI (pc := 112) (k := 34) (f := 482) K cls7 rfl rfl u_6_51 g16 dX9_readsCookie_112 ?_
  refine Vw.isub (pc := 115) K dX9_readsCookie_115 ?_
  refine Vw.putI (pc := 116) (k := 35) (f := 483) K cls7 rfl rfl u_6_52 g16 (Or.inl rfl) rfl rfl dX9_readsCookie_116 ?_
  refine Vw.aload_n (pc := 119) (x := x0) K dX9_readsCookie_119 rfl ?_
  refine Vw.aload_n (pc := 120) (x := x0) K dX9_readsCookie_120 rfl ?_
  refine Vw.aload_n (pc := 121) (x := x0) K dX9_readsCookie_121 rfl ?_
  refine Vw.getI (pc := 122) (k := 33) (f := 481) K cls7 rfl rfl u_6_50 g16 dX9_readsCookie_122 ?_
  refine Vw.if_eq (pc := 125) (tgt := 134) K dX9_readsCookie_125 (by decide) (fun c21 => ?_) (fun c21 => ?_)
  · have h := wpos c21 h
    refine Vw.iload_n (pc := 134) (x := x1) K dX9_readsCookie_134 rfl ?_
    exact Vw.loc rfl (s_X9_readsCookie_135 K E  h)
  · have h := wneg c21 h
    refine Vw.iload_n (pc := 128) (x := x2) K dX9_readsCookie_128 rfl ?_
    refine Vw.iconst (pc := 129) (v := (1 : Int32)) K (by decide) dX9_readsCookie_129 ?_
    refine Vw.iadd (pc := 130) K dX9_readsCookie_130 ?_
    refine Vw.goto (pc := 131) (tgt := 135) K dX9_readsCookie_131 (by decide) ?_
    exact Vw.loc rfl (s_X9_readsCookie_135 K E  h)
def k_X9_readsCookie_38  (A : Hp) (x0 : Nat)  : Option (Hp) := if (hsh A x0).1 = 8 then if (hsh A (hgR A 448 x0 0)).1 = 11 then if wix (8611 : Int32) (hsh A (hgR A 448 x0 0)).2 then if (hsh (hsL A 1035 (hgR A 448 x0 0) (8611 : Int32).toNatClampNeg (1 : Int64)) (hgR (hsL A 1035 (hgR A 448 x0 0) (8611 : Int32).toNatClampNeg (1 : Int64)) 448 x0 0)).1 = 11 then if wix (8612 : Int32) (hsh (hsL A 1035 (hgR A 448 x0 0) (8611 : Int32).toNatClampNeg (1 : Int64)) (hgR (hsL A 1035 (hgR A 448 x0 0) (8611 : Int32).toNatClampNeg (1 : Int64)) 448 x0 0)).2 then ((f_X9_find (hsL (hsL A 1035 (hgR A 448 x0 0) (8611 : Int32).toNatClampNeg (1 : Int64)) 1035 (hgR (hsL A 1035 (hgR A 448 x0 0) (8611 : Int32).toNatClampNeg (1 : Int64)) 448 x0 0) (8612 : Int32).toNatClampNeg (1 : Int64)) x0 (59 : Int32) (0 : Int32) (hgI (hsL (hsL A 1035 (hgR A 448 x0 0) (8611 : Int32).toNatClampNeg (1 : Int64)) 1035 (hgR (hsL A 1035 (hgR A 448 x0 0) (8611 : Int32).toNatClampNeg (1 : Int64)) 448 x0 0) (8612 : Int32).toNatClampNeg (1 : Int64)) 451 x0 0)).bind fun v28 => ((f_X9_find (hsL (hsL A 1035 (hgR A 448 x0 0) (8611 : Int32).toNatClampNeg (1 : Int64)) 1035 (hgR (hsL A 1035 (hgR A 448 x0 0) (8611 : Int32).toNatClampNeg (1 : Int64)) 448 x0 0) (8612 : Int32).toNatClampNeg (1 : Int64)) x0 (61 : Int32) (0 : Int32) v28).bind fun v30 => (if v28 ≤ v30 then k_X9_readsCookie_88 (hsL (hsL A 1035 (hgR A 448 x0 0) (8611 : Int32).toNatClampNeg (1 : Int64)) 1035 (hgR (hsL A 1035 (hgR A 448 x0 0) (8611 : Int32).toNatClampNeg (1 : Int64)) 448 x0 0) (8612 : Int32).toNatClampNeg (1 : Int64)) x0 v28 v30 x0 (0 : Int32) else k_X9_readsCookie_88 (hsL (hsL A 1035 (hgR A 448 x0 0) (8611 : Int32).toNatClampNeg (1 : Int64)) 1035 (hgR (hsL A 1035 (hgR A 448 x0 0) (8611 : Int32).toNatClampNeg (1 : Int64)) 448 x0 0) (8612 : Int32).toNatClampNeg (1 : Int64)) x0 v28 v30 x0 (1 : Int32)))) else none else none else none else none else none
set_option maxRecDepth 100000 in
theorem s_X9_readsCookie_38 {κ : KT} {B : Hp} {A : Hp} {x0 : Nat}   (K : Cx κ cX9_readsCookie 4 RX9 5 136 0 0) (E : Ed κ none "readsCookie" (.inl none) B 0 0)  (h : k_X9_readsCookie_38  A x0  = some B) : Vw κ A 0 0 38 [(0, .inr (.inr x0))] [] := by
  unfold k_X9_readsCookie_38 at h
  refine Vw.aload_n (pc := 38) (x := x0) K dX9_readsCookie_38 rfl ?_
  obtain ⟨g22, h⟩ := wgd h
  refine Vw.getR (pc := 39) (k := 0) (f := 448) K cls7 rfl rfl u_6_17 g22 dX9_readsCookie_39 ?_
  refine Vw.sipush (pc := 42) (v := (8611 : Int32)) K (by decide) dX9_readsCookie_42 ?_
  refine Vw.lconst (pc := 45) (v := (1 : Int64)) K (by decide) dX9_readsCookie_45 ?_
  obtain ⟨g23, h⟩ := wgd h
  obtain ⟨g24, h⟩ := wgd h
  refine Vw.lastore (pc := 46) K g23 g24 dX9_readsCookie_46 ?_
  refine Vw.aload_n (pc := 47) (x := x0) K dX9_readsCookie_47 rfl ?_
  refine Vw.getR (pc := 48) (k := 0) (f := 448) K cls7 rfl rfl u_6_17 g22 dX9_readsCookie_48 ?_
  refine Vw.sipush (pc := 51) (v := (8612 : Int32)) K (by decide) dX9_readsCookie_51 ?_
  refine Vw.lconst (pc := 54) (v := (1 : Int64)) K (by decide) dX9_readsCookie_54 ?_
  obtain ⟨g25, h⟩ := wgd h
  obtain ⟨g26, h⟩ := wgd h
  refine Vw.lastore (pc := 55) K g25 g26 dX9_readsCookie_55 ?_
  refine Vw.aload_n (pc := 56) (x := x0) K dX9_readsCookie_56 rfl ?_
  refine Vw.bipush (pc := 57) (v := (59 : Int32)) K (by decide) dX9_readsCookie_57 ?_
  refine Vw.iconst (pc := 59) (v := (0 : Int32)) K (by decide) dX9_readsCookie_59 ?_
  refine Vw.aload_n (pc := 60) (x := x0) K dX9_readsCookie_60 rfl ?_
  refine Vw.getI (pc := 61) (k := 3) (f := 451) K cls7 rfl rfl u_6_20 g22 dX9_readsCookie_61 ?_
  obtain ⟨v28, e27, h⟩ := wbd h
  refine Vw.cV1 (pc := 64) (v := .inl v28) (c' := 0) (n' := 0) K (s_X9_find K.tr e27) cal_X9_find cls7 u_7_10 g22 rfl ⟨by decide, by decide⟩ ⟨by decide, by decide⟩ rfl (Nat.le_of_ble_eq_true rfl) dX9_readsCookie_64 rfl rfl ?_
  refine Vw.istore_n (pc := 67) K dX9_readsCookie_67 (by decide) ?_
  refine Vw.aload_n (pc := 68) (x := x0) K dX9_readsCookie_68 rfl ?_
  refine Vw.bipush (pc := 69) (v := (61 : Int32)) K (by decide) dX9_readsCookie_69 ?_
  refine Vw.iconst (pc := 71) (v := (0 : Int32)) K (by decide) dX9_readsCookie_71 ?_
  refine Vw.iload_n (pc := 72) (x := v28) K dX9_readsCookie_72 rfl ?_
  obtain ⟨v30, e29, h⟩ := wbd h
  refine Vw.cV1 (pc := 73) (v := .inl v30) (c' := 0) (n' := 0) K (s_X9_find K.tr e29) cal_X9_find cls7 u_7_10 g22 rfl ⟨by decide, by decide⟩ ⟨by decide, by decide⟩ rfl (Nat.le_of_ble_eq_true rfl) dX9_readsCookie_73 rfl rfl ?_
  refine Vw.istore_n (pc := 76) K dX9_readsCookie_76 (by decide) ?_
  refine Vw.aload_n (pc := 77) (x := x0) K dX9_readsCookie_77 rfl ?_
  refine Vw.iload_n (pc := 78) (x := v30) K dX9_readsCookie_78 rfl ?_
  refine Vw.iload_n (pc := 79) (x := v28) K dX9_readsCookie_79 rfl ?_
  refine Vw.icmp_ge (pc := 80) (tgt := 87) K dX9_readsCookie_80 (by decide) (fun c31 => ?_) (fun c31 => ?_)
  · have h := wpos c31 h
    refine Vw.iconst (pc := 87) (v := (0 : Int32)) K (by decide) dX9_readsCookie_87 ?_
    exact Vw.loc rfl (s_X9_readsCookie_88 K E  h)
  · have h := wneg c31 h
    refine Vw.iconst (pc := 83) (v := (1 : Int32)) K (by decide) dX9_readsCookie_83 ?_
    refine Vw.goto (pc := 84) (tgt := 88) K dX9_readsCookie_84 (by decide) ?_
    exact Vw.loc rfl (s_X9_readsCookie_88 K E  h)
def f_X9_readsCookie (A : Hp) (x0 : Nat) : Option (Hp) := if (hsh A x0).1 = 8 then if (hsh (hsI (hsI (hsI (hsI A 472 x0 0 (0 : Int32)) 474 x0 0 (0 : Int32)) 476 x0 0 (0 : Int32)) 478 x0 0 (0 : Int32)) (hgR (hsI (hsI (hsI (hsI A 472 x0 0 (0 : Int32)) 474 x0 0 (0 : Int32)) 476 x0 0 (0 : Int32)) 478 x0 0 (0 : Int32)) 448 x0 0)).1 = 11 then if wix (8609 : Int32) (hsh (hsI (hsI (hsI (hsI A 472 x0 0 (0 : Int32)) 474 x0 0 (0 : Int32)) 476 x0 0 (0 : Int32)) 478 x0 0 (0 : Int32)) (hgR (hsI (hsI (hsI (hsI A 472 x0 0 (0 : Int32)) 474 x0 0 (0 : Int32)) 476 x0 0 (0 : Int32)) 478 x0 0 (0 : Int32)) 448 x0 0)).2 then if (hsh (hsL (hsI (hsI (hsI (hsI A 472 x0 0 (0 : Int32)) 474 x0 0 (0 : Int32)) 476 x0 0 (0 : Int32)) 478 x0 0 (0 : Int32)) 1035 (hgR (hsI (hsI (hsI (hsI A 472 x0 0 (0 : Int32)) 474 x0 0 (0 : Int32)) 476 x0 0 (0 : Int32)) 478 x0 0 (0 : Int32)) 448 x0 0) (8609 : Int32).toNatClampNeg (0 : Int64)) (hgR (hsL (hsI (hsI (hsI (hsI A 472 x0 0 (0 : Int32)) 474 x0 0 (0 : Int32)) 476 x0 0 (0 : Int32)) 478 x0 0 (0 : Int32)) 1035 (hgR (hsI (hsI (hsI (hsI A 472 x0 0 (0 : Int32)) 474 x0 0 (0 : Int32)) 476 x0 0 (0 : Int32)) 478 x0 0 (0 : Int32)) 448 x0 0) (8609 : Int32).toNatClampNeg (0 : Int64)) 448 x0 0)).1 = 11 then if wix (8610 : Int32) (hsh (hsL (hsI (hsI (hsI (hsI A 472 x0 0 (0 : Int32)) 474 x0 0 (0 : Int32)) 476 x0 0 (0 : Int32)) 478 x0 0 (0 : Int32)) 1035 (hgR (hsI (hsI (hsI (hsI A 472 x0 0 (0 : Int32)) 474 x0 0 (0 : Int32)) 476 x0 0 (0 : Int32)) 478 x0 0 (0 : Int32)) 448 x0 0) (8609 : Int32).toNatClampNeg (0 : Int64)) (hgR (hsL (hsI (hsI (hsI (hsI A 472 x0 0 (0 : Int32)) 474 x0 0 (0 : Int32)) 476 x0 0 (0 : Int32)) 478 x0 0 (0 : Int32)) 1035 (hgR (hsI (hsI (hsI (hsI A 472 x0 0 (0 : Int32)) 474 x0 0 (0 : Int32)) 476 x0 0 (0 : Int32)) 478 x0 0 (0 : Int32)) 448 x0 0) (8609 : Int32).toNatClampNeg (0 : Int64)) 448 x0 0)).2 then k_X9_readsCookie_38 (hsL (hsL (hsI (hsI (hsI (hsI A 472 x0 0 (0 : Int32)) 474 x0 0 (0 : Int32)) 476 x0 0 (0 : Int32)) 478 x0 0 (0 : Int32)) 1035 (hgR (hsI (hsI (hsI (hsI A 472 x0 0 (0 : Int32)) 474 x0 0 (0 : Int32)) 476 x0 0 (0 : Int32)) 478 x0 0 (0 : Int32)) 448 x0 0) (8609 : Int32).toNatClampNeg (0 : Int64)) 1035 (hgR (hsL (hsI (hsI (hsI (hsI A 472 x0 0 (0 : Int32)) 474 x0 0 (0 : Int32)) 476 x0 0 (0 : Int32)) 478 x0 0 (0 : Int32)) 1035 (hgR (hsI (hsI (hsI (hsI A 472 x0 0 (0 : Int32)) 474 x0 0 (0 : Int32)) 476 x0 0 (0 : Int32)) 478 x0 0 (0 : Int32)) 448 x0 0) (8609 : Int32).toNatClampNeg (0 : Int64)) 448 x0 0) (8610 : Int32).toNatClampNeg (0 : Int64)) x0 else none else none else none else none else none
set_option maxRecDepth 100000 in
theorem s_X9_readsCookie {l : Launch} {g : GT} (hl : l.stackTraces = false) {A : Hp} {x0 : Nat} {B : Hp} (h : f_X9_readsCookie A x0 = some B) : MetV l g yX9_readsCookie (.code yX9_readsCookie cX9_readsCookie 4 none) [.inr (.inr x0)] A (.inl none) B 5 136 0 0 := by
  refine MetV.ofV hl (by decide +kernel) (Nat.le_of_ble_eq_true rfl) (fun κ K E => ?_)
  have K : Cx κ cX9_readsCookie 4 RX9 5 136 0 0 := K
  have E : Ed κ none "readsCookie" (.inl none) B 0 0 := E
  unfold f_X9_readsCookie at h
  change Vw κ A 0 0 0 [(0, .inr (.inr x0))] []
  refine Vw.aload_n (pc := 0) (x := x0) K dX9_readsCookie_0 rfl ?_
  refine Vw.iconst (pc := 1) (v := (0 : Int32)) K (by decide) dX9_readsCookie_1 ?_
  obtain ⟨g32, h⟩ := wgd h
  refine Vw.putI (pc := 2) (k := 24) (f := 472) K cls7 rfl rfl u_6_41 g32 (Or.inl rfl) (wZ_n (Or.inl rfl)) (wZ_f (Or.inl rfl)) dX9_readsCookie_2 ?_
  refine Vw.aload_n (pc := 5) (x := x0) K dX9_readsCookie_5 rfl ?_
  refine Vw.iconst (pc := 6) (v := (0 : Int32)) K (by decide) dX9_readsCookie_6 ?_
  refine Vw.putI (pc := 7) (k := 26) (f := 474) K cls7 rfl rfl u_6_43 g32 (Or.inl rfl) (wZ_n (Or.inl rfl)) (wZ_f (Or.inl rfl)) dX9_readsCookie_7 ?_
  refine Vw.aload_n (pc := 10) (x := x0) K dX9_readsCookie_10 rfl ?_
  refine Vw.iconst (pc := 11) (v := (0 : Int32)) K (by decide) dX9_readsCookie_11 ?_
  refine Vw.putI (pc := 12) (k := 28) (f := 476) K cls7 rfl rfl u_6_45 g32 (Or.inl rfl) (wZ_n (Or.inl rfl)) (wZ_f (Or.inl rfl)) dX9_readsCookie_12 ?_
  refine Vw.aload_n (pc := 15) (x := x0) K dX9_readsCookie_15 rfl ?_
  refine Vw.iconst (pc := 16) (v := (0 : Int32)) K (by decide) dX9_readsCookie_16 ?_
  refine Vw.putI (pc := 17) (k := 30) (f := 478) K cls7 rfl rfl u_6_47 g32 (Or.inl rfl) (wZ_n (Or.inl rfl)) (wZ_f (Or.inl rfl)) dX9_readsCookie_17 ?_
  refine Vw.aload_n (pc := 20) (x := x0) K dX9_readsCookie_20 rfl ?_
  refine Vw.getR (pc := 21) (k := 0) (f := 448) K cls7 rfl rfl u_6_17 g32 dX9_readsCookie_21 ?_
  refine Vw.sipush (pc := 24) (v := (8609 : Int32)) K (by decide) dX9_readsCookie_24 ?_
  refine Vw.lconst (pc := 27) (v := (0 : Int64)) K (by decide) dX9_readsCookie_27 ?_
  obtain ⟨g33, h⟩ := wgd h
  obtain ⟨g34, h⟩ := wgd h
  refine Vw.lastore (pc := 28) K g33 g34 dX9_readsCookie_28 ?_
  refine Vw.aload_n (pc := 29) (x := x0) K dX9_readsCookie_29 rfl ?_
  refine Vw.getR (pc := 30) (k := 0) (f := 448) K cls7 rfl rfl u_6_17 g32 dX9_readsCookie_30 ?_
  refine Vw.sipush (pc := 33) (v := (8610 : Int32)) K (by decide) dX9_readsCookie_33 ?_
  refine Vw.lconst (pc := 36) (v := (0 : Int64)) K (by decide) dX9_readsCookie_36 ?_
  obtain ⟨g35, h⟩ := wgd h
  obtain ⟨g36, h⟩ := wgd h
  refine Vw.lastore (pc := 37) K g35 g36 dX9_readsCookie_37 ?_
  exact Vw.loc rfl (s_X9_readsCookie_38 K E  h)
theorem cal_X9_readsCookie : wCalV RX9 yX9_readsCookie (.code yX9_readsCookie cX9_readsCookie 4 none) 0 := ⟨by decide +kernel, u_7_8, us_4_1, u_1_9, u_7_9⟩
