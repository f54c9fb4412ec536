def k_X3_isOfLabel_30  (A : Hp)   : Option (Int32) := some (1 : Int32)
set_option maxRecDepth 100000 in
theorem s_X3_isOfLabel_30 {κ : KT} {r : Int32} {A : Hp}    (K : Cx κ cX3_isOfLabel 1 RX3 0 0 0 0) (E : Ed κ (some .boolean) "isOfLabel" (.inl (some (.inl r))) A 0 0)  (h : k_X3_isOfLabel_30  A   = some r) : Vw κ A 0 0 30 [] [] := by
  unfold k_X3_isOfLabel_30 at h
  refine Vw.iconst (pc := 30) (v := (1 : Int32)) K (by decide) dX3_isOfLabel_30 ?_
  refine Vw.goto (pc := 31) (tgt := 35) K dX3_isOfLabel_31 (by decide) ?_
  exact Vw.zretE (pc := 35) K (Or.inr rfl) (Option.some.inj h) rfl E (by decide) (by decide) dX3_isOfLabel_35
def k_X3_isOfLabel_24  (A : Hp) (x0 : Int32)  : Option (Int32) := (if x0 = (45 : Int32) then k_X3_isOfLabel_30 A else some (0 : Int32))
set_option maxRecDepth 100000 in
theorem s_X3_isOfLabel_24 {κ : KT} {r : Int32} {A : Hp} {x0 : Int32}   (K : Cx κ cX3_isOfLabel 1 RX3 0 0 0 0) (E : Ed κ (some .boolean) "isOfLabel" (.inl (some (.inl r))) A 0 0)  (h : k_X3_isOfLabel_24  A x0  = some r) : Vw κ A 0 0 24 [(0, .inl x0)] [] := by
  unfold k_X3_isOfLabel_24 at h
  refine Vw.iload_n (pc := 24) (x := x0) K dX3_isOfLabel_24 rfl ?_
  refine Vw.bipush (pc := 25) (v := (45 : Int32)) K (by decide) dX3_isOfLabel_25 ?_
  refine Vw.icmp_ne (pc := 27) (tgt := 34) K dX3_isOfLabel_27 (by decide) (fun c1 => ?_) (fun c1 => ?_)
  · have h := wneg c1 h
    refine Vw.iconst (pc := 34) (v := (0 : Int32)) K (by decide) dX3_isOfLabel_34 ?_
    exact Vw.zretE (pc := 35) K (Or.inl rfl) (Option.some.inj h) rfl E (by decide) (by decide) dX3_isOfLabel_35
  · have h := wpos c1 h
    exact Vw.loc rfl (s_X3_isOfLabel_30 K E  h)
def k_X3_isOfLabel_12  (A : Hp) (x0 : Int32)  : Option (Int32) := (if x0 < (48 : Int32) then k_X3_isOfLabel_24 A x0 else (if x0 ≤ (57 : Int32) then k_X3_isOfLabel_30 A else k_X3_isOfLabel_24 A x0))
set_option maxRecDepth 100000 in
theorem s_X3_isOfLabel_12 {κ : KT} {r : Int32} {A : Hp} {x0 : Int32}   (K : Cx κ cX3_isOfLabel 1 RX3 0 0 0 0) (E : Ed κ (some .boolean) "isOfLabel" (.inl (some (.inl r))) A 0 0)  (h : k_X3_isOfLabel_12  A x0  = some r) : Vw κ A 0 0 12 [(0, .inl x0)] [] := by
  unfold k_X3_isOfLabel_12 at h
  refine Vw.iload_n (pc := 12) (x := x0) K dX3_isOfLabel_12 rfl ?_
  refine Vw.bipush (pc := 13) (v := (48 : Int32)) K (by decide) dX3_isOfLabel_13 ?_
  refine Vw.icmp_lt (pc := 15) (tgt := 24) K dX3_isOfLabel_15 (by decide) (fun c2 => ?_) (fun c2 => ?_)
  · have h := wpos c2 h
    exact Vw.loc rfl (s_X3_isOfLabel_24 K E  h)
  · have h := wneg c2 h
    refine Vw.iload_n (pc := 18) (x := x0) K dX3_isOfLabel_18 rfl ?_
    refine Vw.bipush (pc := 19) (v := (57 : Int32)) K (by decide) dX3_isOfLabel_19 ?_
    refine Vw.icmp_le (pc := 21) (tgt := 30) K dX3_isOfLabel_21 (by decide) (fun c3 => ?_) (fun c3 => ?_)
    · have h := wpos c3 h
      exact Vw.loc rfl (s_X3_isOfLabel_30 K E  h)
    · have h := wneg c3 h
      exact Vw.loc rfl (s_X3_isOfLabel_24 K E  h)
def f_X3_isOfLabel (A : Hp) (x0 : Int32) : Option (Int32) := (if x0 < (97 : Int32) then k_X3_isOfLabel_12 A x0 else (if x0 ≤ (122 : Int32) then k_X3_isOfLabel_30 A else k_X3_isOfLabel_12 A x0))
set_option maxRecDepth 100000 in
theorem s_X3_isOfLabel {l : Launch} {g : GT} (hl : l.stackTraces = false) {A : Hp} {x0 : Int32} {r : Int32} (h : f_X3_isOfLabel A x0 = some r) : MetV l g yX3_isOfLabel (.code yX3_isOfLabel cX3_isOfLabel 1 (some .boolean)) [.inl x0] A (.inl (some (.inl r))) A 0 0 0 0 := by
  refine MetV.ofV hl (by decide +kernel) (Nat.le_of_ble_eq_true rfl) (fun κ K E => ?_)
  have K : Cx κ cX3_isOfLabel 1 RX3 0 0 0 0 := K
  have E : Ed κ (some .boolean) "isOfLabel" (.inl (some (.inl r))) A 0 0 := E
  unfold f_X3_isOfLabel at h
  change Vw κ A 0 0 0 [(0, .inl x0)] []
  refine Vw.iload_n (pc := 0) (x := x0) K dX3_isOfLabel_0 rfl ?_
  refine Vw.bipush (pc := 1) (v := (97 : Int32)) K (by decide) dX3_isOfLabel_1 ?_
  refine Vw.icmp_lt (pc := 3) (tgt := 12) K dX3_isOfLabel_3 (by decide) (fun c4 => ?_) (fun c4 => ?_)
  · have h := wpos c4 h
    exact Vw.loc rfl (s_X3_isOfLabel_12 K E  h)
  · have h := wneg c4 h
    refine Vw.iload_n (pc := 6) (x := x0) K dX3_isOfLabel_6 rfl ?_
    refine Vw.bipush (pc := 7) (v := (122 : Int32)) K (by decide) dX3_isOfLabel_7 ?_
    refine Vw.icmp_le (pc := 9) (tgt := 30) K dX3_isOfLabel_9 (by decide) (fun c5 => ?_) (fun c5 => ?_)
    · have h := wpos c5 h
      exact Vw.loc rfl (s_X3_isOfLabel_30 K E  h)
    · have h := wneg c5 h
      exact Vw.loc rfl (s_X3_isOfLabel_12 K E  h)
theorem cal_X3_isOfLabel : wCalS yX3_isOfLabel (.code yX3_isOfLabel cX3_isOfLabel 1 (some .boolean)) 1 := ⟨by decide +kernel, u_2_158, u_1_19, u_2_159⟩
def f_X3_goesOn (A : Hp) (x0 : Nat) (x1 : Int32) (x2 : Int32) : Option (Int32) := if (hsh A x0).1 = 5 then ((f_X6_at A x0 x2).bind fun v3 => (if v3 = (46 : Int32) then (if x2 ≤ x1 then some (0 : Int32) else ((f_X6_at A x0 (x2 - (1 : Int32))).bind fun v13 => (if v13 = (46 : Int32) then some (0 : Int32) else (if (29 : Int32) ≤ (x2 - x1) then some (0 : Int32) else some (1 : Int32))))) else ((f_X6_at A x0 x2).bind fun v6 => ((f_X3_isOfLabel A v6).bind fun v8 => (if v8 = (0 : Int32) then some (0 : Int32) else (if (30 : Int32) ≤ (x2 - x1) then some (0 : Int32) else some (1 : Int32))))))) else none
set_option maxRecDepth 100000 in
theorem s_X3_goesOn {l : Launch} {g : GT} (hl : l.stackTraces = false) {A : Hp} {x0 : Nat} {x1 : Int32} {x2 : Int32} {r : Int32} (h : f_X3_goesOn A x0 x1 x2 = some r) : MetV l g yX3_goesOn (.code yX3_goesOn cX3_goesOn 3 (some .boolean)) [.inr (.inr x0), .inl x1, .inl x2] A (.inl (some (.inl r))) A 1 21 0 0 := by
  refine MetV.ofV hl (by decide +kernel) (Nat.le_of_ble_eq_true rfl) (fun κ K E => ?_)
  have K : Cx κ cX3_goesOn 3 RX3 1 21 0 0 := K
  have E : Ed κ (some .boolean) "goesOn" (.inl (some (.inl r))) A 0 0 := E
  unfold f_X3_goesOn at h
  change Vw κ A 0 0 0 [(0, .inr (.inr x0)), (1, .inl x1), (2, .inl x2)] []
  refine Vw.aload_n (pc := 0) (x := x0) K dX3_goesOn_0 rfl ?_
  refine Vw.iload_n (pc := 1) (x := x2) K dX3_goesOn_1 rfl ?_
  obtain ⟨g1, h⟩ := wgd h
  obtain ⟨v3, e2, h⟩ := wbd h
  refine Vw.cV1 (pc := 2) (v := .inl v3) (c' := 0) (n' := 0) K (s_X6_at K.tr e2) cal_X6_at cls4 u_2_156 g1 rfl ⟨by decide, by decide⟩ ⟨by decide, by decide⟩ rfl (Nat.le_of_ble_eq_true rfl) dX3_goesOn_2 rfl rfl ?_
  refine Vw.bipush (pc := 5) (v := (46 : Int32)) K (by decide) dX3_goesOn_5 ?_
  refine Vw.icmp_ne (pc := 7) (tgt := 41) K dX3_goesOn_7 (by decide) (fun c4 => ?_) (fun c4 => ?_)
  · have h := wneg c4 h
    refine Vw.aload_n (pc := 41) (x := x0) K dX3_goesOn_41 rfl ?_
    refine Vw.iload_n (pc := 42) (x := x2) K dX3_goesOn_42 rfl ?_
    obtain ⟨v6, e5, h⟩ := wbd h
    refine Vw.cV1 (pc := 43) (v := .inl v6) (c' := 0) (n' := 0) K (s_X6_at K.tr e5) cal_X6_at cls4 u_2_156 g1 rfl ⟨by decide, by decide⟩ ⟨by decide, by decide⟩ rfl (Nat.le_of_ble_eq_true rfl) dX3_goesOn_43 rfl rfl ?_
    obtain ⟨v8, e7, h⟩ := wbd h
    refine Vw.cS1 (pc := 46) (v := .inl v8) (c' := 0) (n' := 0) K (s_X3_isOfLabel K.tr e7) cal_X3_isOfLabel u_2_157 rfl ⟨by decide, by decide⟩ ⟨by decide, by decide⟩ rfl (Nat.le_of_ble_eq_true rfl) dX3_goesOn_46 rfl rfl ?_
    refine Vw.if_eq (pc := 49) (tgt := 64) K dX3_goesOn_49 (by decide) (fun c9 => ?_) (fun c9 => ?_)
    · have h := wpos c9 h
      refine Vw.iconst (pc := 64) (v := (0 : Int32)) K (by decide) dX3_goesOn_64 ?_
      exact Vw.zretE (pc := 65) K (Or.inl rfl) (Option.some.inj h) rfl E (by decide) (by decide) dX3_goesOn_65
    · have h := wneg c9 h
      refine Vw.iload_n (pc := 52) (x := x2) K dX3_goesOn_52 rfl ?_
      refine Vw.iload_n (pc := 53) (x := x1) K dX3_goesOn_53 rfl ?_
      refine Vw.isub (pc := 54) K dX3_goesOn_54 ?_
      refine Vw.bipush (pc := 55) (v := (30 : Int32)) K (by decide) dX3_goesOn_55 ?_
      refine Vw.icmp_ge (pc := 57) (tgt := 64) K dX3_goesOn_57 (by decide) (fun c10 => ?_) (fun c10 => ?_)
      · have h := wpos c10 h
        refine Vw.iconst (pc := 64) (v := (0 : Int32)) K (by decide) dX3_goesOn_64 ?_
        exact Vw.zretE (pc := 65) K (Or.inl rfl) (Option.some.inj h) rfl E (by decide) (by decide) dX3_goesOn_65
      · have h := wneg c10 h
        refine Vw.iconst (pc := 60) (v := (1 : Int32)) K (by decide) dX3_goesOn_60 ?_
        refine Vw.goto (pc := 61) (tgt := 65) K dX3_goesOn_61 (by decide) ?_
        exact Vw.zretE (pc := 65) K (Or.inr rfl) (Option.some.inj h) rfl E (by decide) (by decide) dX3_goesOn_65
  · have h := wpos c4 h
    refine Vw.iload_n (pc := 10) (x := x2) K dX3_goesOn_10 rfl ?_
    refine Vw.iload_n (pc := 11) (x := x1) K dX3_goesOn_11 rfl ?_
    refine Vw.icmp_le (pc := 12) (tgt := 39) K dX3_goesOn_12 (by decide) (fun c11 => ?_) (fun c11 => ?_)
    · have h := wpos c11 h
      refine Vw.iconst (pc := 39) (v := (0 : Int32)) K (by decide) dX3_goesOn_39 ?_
      exact Vw.zretE (pc := 40) K (Or.inl rfl) (Option.some.inj h) rfl E (by decide) (by decide) dX3_goesOn_40
    · have h := wneg c11 h
      refine Vw.aload_n (pc := 15) (x := x0) K dX3_goesOn_15 rfl ?_
      refine Vw.iload_n (pc := 16) (x := x2) K dX3_goesOn_16 rfl ?_
      refine Vw.iconst (pc := 17) (v := (1 : Int32)) K (by decide) dX3_goesOn_17 ?_
      refine Vw.isub (pc := 18) K dX3_goesOn_18 ?_
      obtain ⟨v13, e12, h⟩ := wbd h
      refine Vw.cV1 (pc := 19) (v := .inl v13) (c' := 0) (n' := 0) K (s_X6_at K.tr e12) cal_X6_at cls4 u_2_156 g1 rfl ⟨by decide, by decide⟩ ⟨by decide, by decide⟩ rfl (Nat.le_of_ble_eq_true rfl) dX3_goesOn_19 rfl rfl ?_
      refine Vw.bipush (pc := 22) (v := (46 : Int32)) K (by decide) dX3_goesOn_22 ?_
      refine Vw.icmp_eq (pc := 24) (tgt := 39) K dX3_goesOn_24 (by decide) (fun c14 => ?_) (fun c14 => ?_)
      · have h := wpos c14 h
        refine Vw.iconst (pc := 39) (v := (0 : Int32)) K (by decide) dX3_goesOn_39 ?_
        exact Vw.zretE (pc := 40) K (Or.inl rfl) (Option.some.inj h) rfl E (by decide) (by decide) dX3_goesOn_40
      · have h := wneg c14 h
        refine Vw.iload_n (pc := 27) (x := x2) K dX3_goesOn_27 rfl ?_
        refine Vw.iload_n (pc := 28) (x := x1) K dX3_goesOn_28 rfl ?_
        refine Vw.isub (pc := 29) K dX3_goesOn_29 ?_
        refine Vw.bipush (pc := 30) (v := (29 : Int32)) K (by decide) dX3_goesOn_30 ?_
        refine Vw.icmp_ge (pc := 32) (tgt := 39) K dX3_goesOn_32 (by decide) (fun c15 => ?_) (fun c15 => ?_)
        · have h := wpos c15 h
          refine Vw.iconst (pc := 39) (v := (0 : Int32)) K (by decide) dX3_goesOn_39 ?_
          exact Vw.zretE (pc := 40) K (Or.inl rfl) (Option.some.inj h) rfl E (by decide) (by decide) dX3_goesOn_40
        · have h := wneg c15 h
          refine Vw.iconst (pc := 35) (v := (1 : Int32)) K (by decide) dX3_goesOn_35 ?_
          refine Vw.goto (pc := 36) (tgt := 40) K dX3_goesOn_36 (by decide) ?_
          exact Vw.zretE (pc := 40) K (Or.inr rfl) (Option.some.inj h) rfl E (by decide) (by decide) dX3_goesOn_40
theorem cal_X3_goesOn : wCalS yX3_goesOn (.code yX3_goesOn cX3_goesOn 3 (some .boolean)) 3 := ⟨by decide +kernel, u_2_154, u_1_19, u_2_155⟩
def k_X3_end_2s (A : Hp) (x0 : Nat) (x1 : Int32)  (rec2 : Int32 → Option (Int32))  (x2 : Int32) : Option (Int32) := if (hsh A x0).1 = 5 then (if (hgI A 257 x0 0) ≤ x2 then some x2 else ((f_X3_goesOn A x0 x1 x2).bind fun v4 => (if v4 = (0 : Int32) then some x2 else rec2 (x2 + (1 : Int32))))) else none
def k_X3_end_2 (A : Hp) (x0 : Nat) (x1 : Int32)  : Nat → Int32 → Option (Int32)
  | 0 => fun _ => none
  | fu + 1 => k_X3_end_2s A x0 x1  (k_X3_end_2 A x0 x1  fu)
set_option maxRecDepth 100000 in
theorem s_X3_end_2 {κ : KT} {r : Int32} {A : Hp} {x0 : Nat} {x1 : Int32}  (K : Cx κ cX3_end 3 RX3 2 43 0 0) (E : Ed κ (some .int) "end" (.inl (some (.inl r))) A 0 0)  : ∀ (fu : Nat)  (x2 : Int32),  k_X3_end_2 A x0 x1  fu x2 = some r → Vw κ A 0 0 2 [(0, .inr (.inr x0)), (1, .inl x1), (2, .inl x2)] [] := by
  intro fu
  induction fu with
  | zero => intro x2 h; cases h
  | succ fu hr2 =>
    intro x2 h
    have h : k_X3_end_2s A x0 x1  (k_X3_end_2 A x0 x1  fu) x2 = some r := h
    unfold k_X3_end_2s at h
    refine Vw.iload_n (pc := 2) (x := x2) K dX3_end_2 rfl ?_
    refine Vw.aload_n (pc := 3) (x := x0) K dX3_end_3 rfl ?_
    obtain ⟨g1, h⟩ := wgd h
    refine Vw.getI (pc := 4) (k := 1) (f := 257) K cls4 rfl rfl u_1_44 g1 dX3_end_4 ?_
    refine Vw.icmp_ge (pc := 7) (tgt := 25) K dX3_end_7 (by decide) (fun c2 => ?_) (fun c2 => ?_)
    · have h := wpos c2 h
      refine Vw.iload_n (pc := 25) (x := x2) K dX3_end_25 rfl ?_
      exact Vw.iretE (pc := 26) K (Option.some.inj h) rfl E (by decide) (by decide) dX3_end_26
    · have h := wneg c2 h
      refine Vw.aload_n (pc := 10) (x := x0) K dX3_end_10 rfl ?_
      refine Vw.iload_n (pc := 11) (x := x1) K dX3_end_11 rfl ?_
      refine Vw.iload_n (pc := 12) (x := x2) K dX3_end_12 rfl ?_
      obtain ⟨v4, e3, h⟩ := wbd h
      refine Vw.cS1 (pc := 13) (v := .inl v4) (c' := 0) (n' := 0) K (s_X3_goesOn K.tr e3) cal_X3_goesOn u_2_153 rfl ⟨by decide, by decide⟩ ⟨by decide, by decide⟩ rfl (Nat.le_of_ble_eq_true rfl) dX3_end_13 rfl rfl ?_
      refine Vw.if_eq (pc := 16) (tgt := 25) K dX3_end_16 (by decide) (fun c5 => ?_) (fun c5 => ?_)
      · have h := wpos c5 h
        refine Vw.iload_n (pc := 25) (x := x2) K dX3_end_25 rfl ?_
        exact Vw.iretE (pc := 26) K (Option.some.inj h) rfl E (by decide) (by decide) dX3_end_26
      · have h := wneg c5 h
        refine Vw.iinc (pc := 19) (x := x2) (v := (1 : Int32)) K dX3_end_19 rfl (by decide) (by decide) ?_
        refine Vw.goto (pc := 22) (tgt := 2) K dX3_end_22 (by decide) ?_
        exact Vw.loc rfl (hr2 _ h)
def f_X3_end (A : Hp) (x0 : Nat) (x1 : Int32) : Option (Int32) := k_X3_end_2 A x0 x1 FU x1
set_option maxRecDepth 100000 in
theorem s_X3_end {l : Launch} {g : GT} (hl : l.stackTraces = false) {A : Hp} {x0 : Nat} {x1 : Int32} {r : Int32} (h : f_X3_end A x0 x1 = some r) : MetV l g yX3_end (.code yX3_end cX3_end 3 (some .int)) [.inr (.inr x0), .inl x1] A (.inl (some (.inl r))) A 2 43 0 0 := by
  refine MetV.ofV hl (by decide +kernel) (Nat.le_of_ble_eq_true rfl) (fun κ K E => ?_)
  have K : Cx κ cX3_end 3 RX3 2 43 0 0 := K
  have E : Ed κ (some .int) "end" (.inl (some (.inl r))) A 0 0 := E
  unfold f_X3_end at h
  change Vw κ A 0 0 0 [(0, .inr (.inr x0)), (1, .inl x1)] []
  refine Vw.iload_n (pc := 0) (x := x1) K dX3_end_0 rfl ?_
  refine Vw.istore_n (pc := 1) K dX3_end_1 (by decide) ?_
  exact Vw.loc rfl (s_X3_end_2 K E  _ _ h)
theorem cal_X3_end : wCalS yX3_end (.code yX3_end cX3_end 3 (some .int)) 2 := ⟨by decide +kernel, u_2_151, u_1_19, u_2_152⟩
def f_X3_isWhole (A : Hp) (x0 : Nat) (x1 : Int32) (x2 : Int32) : Option (Int32) := (if x2 ≤ x1 then some (0 : Int32) else if (hsh A x0).1 = 5 then ((f_X6_at A x0 (x2 - (1 : Int32))).bind fun v4 => (if v4 = (46 : Int32) then some (0 : Int32) else some (1 : Int32))) else none)
set_option maxRecDepth 100000 in
theorem s_X3_isWhole {l : Launch} {g : GT} (hl : l.stackTraces = false) {A : Hp} {x0 : Nat} {x1 : Int32} {x2 : Int32} {r : Int32} (h : f_X3_isWhole A x0 x1 x2 = some r) : MetV l g yX3_isWhole (.code yX3_isWhole cX3_isWhole 3 (some .boolean)) [.inr (.inr x0), .inl x1, .inl x2] A (.inl (some (.inl r))) A 1 21 0 0 := by
  refine MetV.ofV hl (by decide +kernel) (Nat.le_of_ble_eq_true rfl) (fun κ K E => ?_)
  have K : Cx κ cX3_isWhole 3 RX3 1 21 0 0 := K
  have E : Ed κ (some .boolean) "isWhole" (.inl (some (.inl r))) A 0 0 := E
  unfold f_X3_isWhole at h
  change Vw κ A 0 0 0 [(0, .inr (.inr x0)), (1, .inl x1), (2, .inl x2)] []
  refine Vw.iload_n (pc := 0) (x := x2) K dX3_isWhole_0 rfl ?_
  refine Vw.iload_n (pc := 1) (x := x1) K dX3_isWhole_1 rfl ?_
  refine Vw.icmp_le (pc := 2) (tgt := 21) K dX3_isWhole_2 (by decide) (fun c1 => ?_) (fun c1 => ?_)
  · have h := wpos c1 h
    refine Vw.iconst (pc := 21) (v := (0 : Int32)) K (by decide) dX3_isWhole_21 ?_
    exact Vw.zretE (pc := 22) K (Or.inl rfl) (Option.some.inj h) rfl E (by decide) (by decide) dX3_isWhole_22
  · have h := wneg c1 h
    refine Vw.aload_n (pc := 5) (x := x0) K dX3_isWhole_5 rfl ?_
    refine Vw.iload_n (pc := 6) (x := x2) K dX3_isWhole_6 rfl ?_
    refine Vw.iconst (pc := 7) (v := (1 : Int32)) K (by decide) dX3_isWhole_7 ?_
    refine Vw.isub (pc := 8) K dX3_isWhole_8 ?_
    obtain ⟨g2, h⟩ := wgd h
    obtain ⟨v4, e3, h⟩ := wbd h
    refine Vw.cV1 (pc := 9) (v := .inl v4) (c' := 0) (n' := 0) K (s_X6_at K.tr e3) cal_X6_at cls4 u_2_156 g2 rfl ⟨by decide, by decide⟩ ⟨by decide, by decide⟩ rfl (Nat.le_of_ble_eq_true rfl) dX3_isWhole_9 rfl rfl ?_
    refine Vw.bipush (pc := 12) (v := (46 : Int32)) K (by decide) dX3_isWhole_12 ?_
    refine Vw.icmp_eq (pc := 14) (tgt := 21) K dX3_isWhole_14 (by decide) (fun c5 => ?_) (fun c5 => ?_)
    · have h := wpos c5 h
      refine Vw.iconst (pc := 21) (v := (0 : Int32)) K (by decide) dX3_isWhole_21 ?_
      exact Vw.zretE (pc := 22) K (Or.inl rfl) (Option.some.inj h) rfl E (by decide) (by decide) dX3_isWhole_22
    · have h := wneg c5 h
      refine Vw.iconst (pc := 17) (v := (1 : Int32)) K (by decide) dX3_isWhole_17 ?_
      refine Vw.goto (pc := 18) (tgt := 22) K dX3_isWhole_18 (by decide) ?_
      exact Vw.zretE (pc := 22) K (Or.inr rfl) (Option.some.inj h) rfl E (by decide) (by decide) dX3_isWhole_22
theorem cal_X3_isWhole : wCalS yX3_isWhole (.code yX3_isWhole cX3_isWhole 3 (some .boolean)) 3 := ⟨by decide +kernel, u_2_161, u_1_19, u_2_162⟩
def k_X3_labelStart_2s (A : Hp) (x0 : Nat)  (rec2 : Int32 → Option (Int32))  (x2 : Int32) : Option (Int32) := (if x2 ≤ (0 : Int32) then some x2 else if (hsh A x0).1 = 5 then ((f_X6_at A x0 (x2 - (1 : Int32))).bind fun v4 => (if v4 = (46 : Int32) then some x2 else rec2 (x2 + (-1 : Int32)))) else none)
def k_X3_labelStart_2 (A : Hp) (x0 : Nat)  : Nat → Int32 → Option (Int32)
  | 0 => fun _ => none
  | fu + 1 => k_X3_labelStart_2s A x0  (k_X3_labelStart_2 A x0  fu)
set_option maxRecDepth 100000 in
theorem s_X3_labelStart_2 {κ : KT} {r : Int32} {A : Hp} {x0 : Nat}  (K : Cx κ cX3_labelStart 3 RX3 1 21 0 0) (E : Ed κ (some .int) "labelStart" (.inl (some (.inl r))) A 0 0)  : ∀ (fu : Nat)  (x2 : Int32),  k_X3_labelStart_2 A x0  fu x2 = some r → Vw κ A 0 0 2 [(0, .inr (.inr x0)), (2, .inl x2)] [] := by
  intro fu
  induction fu with
  | zero => intro x2 h; cases h
  | succ fu hr2 =>
    intro x2 h
    have h : k_X3_labelStart_2s A x0  (k_X3_labelStart_2 A x0  fu) x2 = some r := h
    unfold k_X3_labelStart_2s at h
    refine Vw.iload_n (pc := 2) (x := x2) K dX3_labelStart_2 rfl ?_
    refine Vw.if_le (pc := 3) (tgt := 24) K dX3_labelStart_3 (by decide) (fun c1 => ?_) (fun c1 => ?_)
    · have h := wpos c1 h
      refine Vw.iload_n (pc := 24) (x := x2) K dX3_labelStart_24 rfl ?_
      exact Vw.iretE (pc := 25) K (Option.some.inj h) rfl E (by decide) (by decide) dX3_labelStart_25
    · have h := wneg c1 h
      refine Vw.aload_n (pc := 6) (x := x0) K dX3_labelStart_6 rfl ?_
      refine Vw.iload_n (pc := 7) (x := x2) K dX3_labelStart_7 rfl ?_
      refine Vw.iconst (pc := 8) (v := (1 : Int32)) K (by decide) dX3_labelStart_8 ?_
      refine Vw.isub (pc := 9) K dX3_labelStart_9 ?_
      obtain ⟨g2, h⟩ := wgd h
      obtain ⟨v4, e3, h⟩ := wbd h
      refine Vw.cV1 (pc := 10) (v := .inl v4) (c' := 0) (n' := 0) K (s_X6_at K.tr e3) cal_X6_at cls4 u_2_156 g2 rfl ⟨by decide, by decide⟩ ⟨by decide, by decide⟩ rfl (Nat.le_of_ble_eq_true rfl) dX3_labelStart_10 rfl rfl ?_
      refine Vw.bipush (pc := 13) (v := (46 : Int32)) K (by decide) dX3_labelStart_13 ?_
      refine Vw.icmp_eq (pc := 15) (tgt := 24) K dX3_labelStart_15 (by decide) (fun c5 => ?_) (fun c5 => ?_)
      · have h := wpos c5 h
        refine Vw.iload_n (pc := 24) (x := x2) K dX3_labelStart_24 rfl ?_
        exact Vw.iretE (pc := 25) K (Option.some.inj h) rfl E (by decide) (by decide) dX3_labelStart_25
      · have h := wneg c5 h
        refine Vw.iinc (pc := 18) (x := x2) (v := (-1 : Int32)) K dX3_labelStart_18 rfl (by decide) (by decide) ?_
        refine Vw.goto (pc := 21) (tgt := 2) K dX3_labelStart_21 (by decide) ?_
        exact Vw.loc rfl (hr2 _ h)
def f_X3_labelStart (A : Hp) (x0 : Nat) (x1 : Int32) : Option (Int32) := k_X3_labelStart_2 A x0 FU x1
set_option maxRecDepth 100000 in
theorem s_X3_labelStart {l : Launch} {g : GT} (hl : l.stackTraces = false) {A : Hp} {x0 : Nat} {x1 : Int32} {r : Int32} (h : f_X3_labelStart A x0 x1 = some r) : MetV l g yX3_labelStart (.code yX3_labelStart cX3_labelStart 3 (some .int)) [.inr (.inr x0), .inl x1] A (.inl (some (.inl r))) A 1 21 0 0 := by
  refine MetV.ofV hl (by decide +kernel) (Nat.le_of_ble_eq_true rfl) (fun κ K E => ?_)
  have K : Cx κ cX3_labelStart 3 RX3 1 21 0 0 := K
  have E : Ed κ (some .int) "labelStart" (.inl (some (.inl r))) A 0 0 := E
  unfold f_X3_labelStart at h
  change Vw κ A 0 0 0 [(0, .inr (.inr x0)), (1, .inl x1)] []
  refine Vw.iload_n (pc := 0) (x := x1) K dX3_labelStart_0 rfl ?_
  refine Vw.istore_n (pc := 1) K dX3_labelStart_1 (by decide) ?_
  exact Vw.loc rfl (s_X3_labelStart_2 K E  _ _ h)
theorem cal_X3_labelStart : wCalS yX3_labelStart (.code yX3_labelStart cX3_labelStart 3 (some .int)) 2 := ⟨by decide +kernel, u_3_148, u_1_19, u_3_149⟩
def f_X3_isDomain (A : Hp) (x0 : Nat) : Option (Int32) := ((f_X3_end A x0 (0 : Int32)).bind fun v2 => if (hsh A x0).1 = 5 then (if v2 = (hgI A 257 x0 0) then ((f_X3_isWhole A x0 (0 : Int32) v2).bind fun v6 => (if v6 = (0 : Int32) then some (0 : Int32) else some (1 : Int32))) else some (0 : Int32)) else none)
set_option maxRecDepth 100000 in
theorem s_X3_isDomain {l : Launch} {g : GT} (hl : l.stackTraces = false) {A : Hp} {x0 : Nat} {r : Int32} (h : f_X3_isDomain A x0 = some r) : MetV l g yX3_isDomain (.code yX3_isDomain cX3_isDomain 2 (some .boolean)) [.inr (.inr x0)] A (.inl (some (.inl r))) A 3 65 0 0 := by
  refine MetV.ofV hl (by decide +kernel) (Nat.le_of_ble_eq_true rfl) (fun κ K E => ?_)
  have K : Cx κ cX3_isDomain 2 RX3 3 65 0 0 := K
  have E : Ed κ (some .boolean) "isDomain" (.inl (some (.inl r))) A 0 0 := E
  unfold f_X3_isDomain at h
  change Vw κ A 0 0 0 [(0, .inr (.inr x0))] []
  refine Vw.aload_n (pc := 0) (x := x0) K dX3_isDomain_0 rfl ?_
  refine Vw.iconst (pc := 1) (v := (0 : Int32)) K (by decide) dX3_isDomain_1 ?_
  obtain ⟨v2, e1, h⟩ := wbd h
  refine Vw.cS1 (pc := 2) (v := .inl v2) (c' := 0) (n' := 0) K (s_X3_end K.tr e1) cal_X3_end u_3_206 rfl ⟨by decide, by decide⟩ ⟨by decide, by decide⟩ rfl (Nat.le_of_ble_eq_true rfl) dX3_isDomain_2 rfl rfl ?_
  refine Vw.istore_n (pc := 5) K dX3_isDomain_5 (by decide) ?_
  refine Vw.iload_n (pc := 6) (x := v2) K dX3_isDomain_6 rfl ?_
  refine Vw.aload_n (pc := 7) (x := x0) K dX3_isDomain_7 rfl ?_
  obtain ⟨g3, h⟩ := wgd h
  refine Vw.getI (pc := 8) (k := 1) (f := 257) K cls4 rfl rfl u_1_44 g3 dX3_isDomain_8 ?_
  refine Vw.icmp_ne (pc := 11) (tgt := 27) K dX3_isDomain_11 (by decide) (fun c4 => ?_) (fun c4 => ?_)
  · have h := wneg c4 h
    refine Vw.iconst (pc := 27) (v := (0 : Int32)) K (by decide) dX3_isDomain_27 ?_
    exact Vw.zretE (pc := 28) K (Or.inl rfl) (Option.some.inj h) rfl E (by decide) (by decide) dX3_isDomain_28
  · have h := wpos c4 h
    refine Vw.aload_n (pc := 14) (x := x0) K dX3_isDomain_14 rfl ?_
    refine Vw.iconst (pc := 15) (v := (0 : Int32)) K (by decide) dX3_isDomain_15 ?_
    refine Vw.iload_n (pc := 16) (x := v2) K dX3_isDomain_16 rfl ?_
    obtain ⟨v6, e5, h⟩ := wbd h
    refine Vw.cS1 (pc := 17) (v := .inl v6) (c' := 0) (n' := 0) K (s_X3_isWhole K.tr e5) cal_X3_isWhole u_3_207 rfl ⟨by decide, by decide⟩ ⟨by decide, by decide⟩ rfl (Nat.le_of_ble_eq_true rfl) dX3_isDomain_17 rfl rfl ?_
    refine Vw.if_eq (pc := 20) (tgt := 27) K dX3_isDomain_20 (by decide) (fun c7 => ?_) (fun c7 => ?_)
    · have h := wpos c7 h
      refine Vw.iconst (pc := 27) (v := (0 : Int32)) K (by decide) dX3_isDomain_27 ?_
      exact Vw.zretE (pc := 28) K (Or.inl rfl) (Option.some.inj h) rfl E (by decide) (by decide) dX3_isDomain_28
    · have h := wneg c7 h
      refine Vw.iconst (pc := 23) (v := (1 : Int32)) K (by decide) dX3_isDomain_23 ?_
      refine Vw.goto (pc := 24) (tgt := 28) K dX3_isDomain_24 (by decide) ?_
      exact Vw.zretE (pc := 28) K (Or.inr rfl) (Option.some.inj h) rfl E (by decide) (by decide) dX3_isDomain_28
theorem cal_X3_isDomain : wCalS yX3_isDomain (.code yX3_isDomain cX3_isDomain 2 (some .boolean)) 1 := ⟨by decide +kernel, u_3_204, u_1_19, u_3_205⟩
def k_X3_compare_79  (A : Hp) (x2 : Int32) (x3 : Int32)  : Option (Int32) := ((f_J6_compare_7cf53 A x2 x3).bind fun v2 => some v2)
set_option maxRecDepth 100000 in
theorem s_X3_compare_79 {κ : KT} {r : Int32} {A : Hp} {x2 : Int32} {x3 : Int32}   (K : Cx κ cX3_compare 8 RX3 2 51 0 0) (E : Ed κ (some .int) "compare" (.inl (some (.inl r))) A 0 0)  (h : k_X3_compare_79  A x2 x3  = some r) : Vw κ A 0 0 79 [(2, .inl x2), (3, .inl x3)] [] := by
  unfold k_X3_compare_79 at h
  refine Vw.iload_n (pc := 79) (x := x2) K dX3_compare_79 rfl ?_
  refine Vw.iload_n (pc := 80) (x := x3) K dX3_compare_80 rfl ?_
  obtain ⟨v2, e1, h⟩ := wbd h
  refine Vw.cS1 (pc := 81) (v := .inl v2) (c' := 0) (n' := 0) K (s_J6_compare_7cf53 K.tr e1) cal_J6_compare_7cf53 u_4_155 rfl ⟨by decide, by decide⟩ ⟨by decide, by decide⟩ rfl (Nat.le_of_ble_eq_true rfl) dX3_compare_81 rfl rfl ?_
  exact Vw.iretE (pc := 84) K (Option.some.inj h) rfl E (by decide) (by decide) dX3_compare_84
def k_X3_compare_13s (A : Hp) (x0 : Nat) (x1 : Nat)  (rec13 : Int32 → Int32 → Int32 → Option (Int32))  (x2 : Int32) (x3 : Int32) (x4 : Int32) : Option (Int32) := (if (30 : Int32) ≤ x4 then k_X3_compare_79 A x2 x3 else (if x2 ≤ (0 : Int32) then k_X3_compare_79 A x2 x3 else (if x3 ≤ (0 : Int32) then k_X3_compare_79 A x2 x3 else ((f_X3_labelStart A x0 x2).bind fun v7 => ((f_X3_labelStart A x1 x3).bind fun v9 => if (hsh A x0).1 = 5 then ((f_X6_compareParts A x0 v7 x2 x1 v9 x3).bind fun v12 => (if v12 = (0 : Int32) then rec13 (v7 - (1 : Int32)) (v9 - (1 : Int32)) (x4 + (1 : Int32)) else some v12)) else none)))))
def k_X3_compare_13 (A : Hp) (x0 : Nat) (x1 : Nat)  : Nat → Int32 → Int32 → Int32 → Option (Int32)
  | 0 => fun _ _ _ => none
  | fu + 1 => k_X3_compare_13s A x0 x1  (k_X3_compare_13 A x0 x1  fu)
set_option maxRecDepth 100000 in
theorem s_X3_compare_13 {κ : KT} {r : Int32} {A : Hp} {x0 : Nat} {x1 : Nat}  (K : Cx κ cX3_compare 8 RX3 2 51 0 0) (E : Ed κ (some .int) "compare" (.inl (some (.inl r))) A 0 0)  : ∀ (fu : Nat)  (x2 : Int32) (x3 : Int32) (x4 : Int32),  k_X3_compare_13 A x0 x1  fu x2 x3 x4 = some r → Vw κ A 0 0 13 [(0, .inr (.inr x0)), (1, .inr (.inr x1)), (2, .inl x2), (3, .inl x3), (4, .inl x4)] [] := by
  intro fu
  induction fu with
  | zero => intro x2 x3 x4 h; cases h
  | succ fu hr13 =>
    intro x2 x3 x4 h
    have h : k_X3_compare_13s A x0 x1  (k_X3_compare_13 A x0 x1  fu) x2 x3 x4 = some r := h
    unfold k_X3_compare_13s at h
    refine Vw.iload (pc := 13) (x := x4) K dX3_compare_13 rfl ?_
    refine Vw.bipush (pc := 15) (v := (30 : Int32)) K (by decide) dX3_compare_15 ?_
    refine Vw.icmp_ge (pc := 17) (tgt := 79) K dX3_compare_17 (by decide) (fun c3 => ?_) (fun c3 => ?_)
    · have h := wpos c3 h
      exact Vw.loc rfl (s_X3_compare_79 K E  h)
    · have h := wneg c3 h
      refine Vw.iload_n (pc := 20) (x := x2) K dX3_compare_20 rfl ?_
      refine Vw.if_le (pc := 21) (tgt := 79) K dX3_compare_21 (by decide) (fun c4 => ?_) (fun c4 => ?_)
      · have h := wpos c4 h
        exact Vw.loc rfl (s_X3_compare_79 K E  h)
      · have h := wneg c4 h
        refine Vw.iload_n (pc := 24) (x := x3) K dX3_compare_24 rfl ?_
        refine Vw.if_le (pc := 25) (tgt := 79) K dX3_compare_25 (by decide) (fun c5 => ?_) (fun c5 => ?_)
        · have h := wpos c5 h
          exact Vw.loc rfl (s_X3_compare_79 K E  h)
        · have h := wneg c5 h
          refine Vw.aload_n (pc := 28) (x := x0) K dX3_compare_28 rfl ?_
          refine Vw.iload_n (pc := 29) (x := x2) K dX3_compare_29 rfl ?_
          obtain ⟨v7, e6, h⟩ := wbd h
          refine Vw.cS1 (pc := 30) (v := .inl v7) (c' := 0) (n' := 0) K (s_X3_labelStart K.tr e6) cal_X3_labelStart u_4_153 rfl ⟨by decide, by decide⟩ ⟨by decide, by decide⟩ rfl (Nat.le_of_ble_eq_true rfl) dX3_compare_30 rfl rfl ?_
          refine Vw.istore (pc := 33) K dX3_compare_33 (by decide) ?_
          refine Vw.aload_n (pc := 35) (x := x1) K dX3_compare_35 rfl ?_
          refine Vw.iload_n (pc := 36) (x := x3) K dX3_compare_36 rfl ?_
          obtain ⟨v9, e8, h⟩ := wbd h
          refine Vw.cS1 (pc := 37) (v := .inl v9) (c' := 0) (n' := 0) K (s_X3_labelStart K.tr e8) cal_X3_labelStart u_4_153 rfl ⟨by decide, by decide⟩ ⟨by decide, by decide⟩ rfl (Nat.le_of_ble_eq_true rfl) dX3_compare_37 rfl rfl ?_
          refine Vw.istore (pc := 40) K dX3_compare_40 (by decide) ?_
          refine Vw.aload_n (pc := 42) (x := x0) K dX3_compare_42 rfl ?_
          refine Vw.iload (pc := 43) (x := v7) K dX3_compare_43 rfl ?_
          refine Vw.iload_n (pc := 45) (x := x2) K dX3_compare_45 rfl ?_
          refine Vw.aload_n (pc := 46) (x := x1) K dX3_compare_46 rfl ?_
          refine Vw.iload (pc := 47) (x := v9) K dX3_compare_47 rfl ?_
          refine Vw.iload_n (pc := 49) (x := x3) K dX3_compare_49 rfl ?_
          obtain ⟨g10, h⟩ := wgd h
          obtain ⟨v12, e11, h⟩ := wbd h
          refine Vw.cV1 (pc := 50) (v := .inl v12) (c' := 0) (n' := 0) K (s_X6_compareParts K.tr e11) cal_X6_compareParts cls4 u_4_154 g10 rfl ⟨by decide, by decide⟩ ⟨by decide, by decide⟩ rfl (Nat.le_of_ble_eq_true rfl) dX3_compare_50 rfl rfl ?_
          refine Vw.istore (pc := 53) K dX3_compare_53 (by decide) ?_
          refine Vw.iload (pc := 55) (x := v12) K dX3_compare_55 rfl ?_
          refine Vw.if_eq (pc := 57) (tgt := 63) K dX3_compare_57 (by decide) (fun c13 => ?_) (fun c13 => ?_)
          · have h := wpos c13 h
            refine Vw.iload (pc := 63) (x := v7) K dX3_compare_63 rfl ?_
            refine Vw.iconst (pc := 65) (v := (1 : Int32)) K (by decide) dX3_compare_65 ?_
            refine Vw.isub (pc := 66) K dX3_compare_66 ?_
            refine Vw.istore_n (pc := 67) K dX3_compare_67 (by decide) ?_
            refine Vw.iload (pc := 68) (x := v9) K dX3_compare_68 rfl ?_
            refine Vw.iconst (pc := 70) (v := (1 : Int32)) K (by decide) dX3_compare_70 ?_
            refine Vw.isub (pc := 71) K dX3_compare_71 ?_
            refine Vw.istore_n (pc := 72) K dX3_compare_72 (by decide) ?_
            refine Vw.iinc (pc := 73) (x := x4) (v := (1 : Int32)) K dX3_compare_73 rfl (by decide) (by decide) ?_
            refine Vw.goto (pc := 76) (tgt := 13) K dX3_compare_76 (by decide) ?_
            exact Vw.loc rfl (hr13 _ _ _ h)
          · have h := wneg c13 h
            refine Vw.iload (pc := 60) (x := v12) K dX3_compare_60 rfl ?_
            exact Vw.iretE (pc := 62) K (Option.some.inj h) rfl E (by decide) (by decide) dX3_compare_62
def f_X3_compare (A : Hp) (x0 : Nat) (x1 : Nat) : Option (Int32) := if (hsh A x0).1 = 5 then if (hsh A x1).1 = 5 then k_X3_compare_13 A x0 x1 FU (hgI A 257 x0 0) (hgI A 257 x1 0) (0 : Int32) else none else none
set_option maxRecDepth 100000 in
theorem s_X3_compare {l : Launch} {g : GT} (hl : l.stackTraces = false) {A : Hp} {x0 : Nat} {x1 : Nat} {r : Int32} (h : f_X3_compare A x0 x1 = some r) : MetV l g yX3_compare (.code yX3_compare cX3_compare 8 (some .int)) [.inr (.inr x0), .inr (.inr x1)] A (.inl (some (.inl r))) A 2 51 0 0 := by
  refine MetV.ofV hl (by decide +kernel) (Nat.le_of_ble_eq_true rfl) (fun κ K E => ?_)
  have K : Cx κ cX3_compare 8 RX3 2 51 0 0 := K
  have E : Ed κ (some .int) "compare" (.inl (some (.inl r))) A 0 0 := E
  unfold f_X3_compare at h
  change Vw κ A 0 0 0 [(0, .inr (.inr x0)), (1, .inr (.inr x1))] []
  refine Vw.aload_n (pc := 0) (x := x0) K dX3_compare_0 rfl ?_
  obtain ⟨g14, h⟩ := wgd h
  refine Vw.getI (pc := 1) (k := 1) (f := 257) K cls4 rfl rfl u_1_44 g14 dX3_compare_1 ?_
  refine Vw.istore_n (pc := 4) K dX3_compare_4 (by decide) ?_
  refine Vw.aload_n (pc := 5) (x := x1) K dX3_compare_5 rfl ?_
  obtain ⟨g15, h⟩ := wgd h
  refine Vw.getI (pc := 6) (k := 1) (f := 257) K cls4 rfl rfl u_1_44 g15 dX3_compare_6 ?_
  refine Vw.istore_n (pc := 9) K dX3_compare_9 (by decide) ?_
  refine Vw.iconst (pc := 10) (v := (0 : Int32)) K (by decide) dX3_compare_10 ?_
  refine Vw.istore (pc := 11) K dX3_compare_11 (by decide) ?_
  exact Vw.loc rfl (s_X3_compare_13 K E  _ _ _ _ h)
theorem cal_X3_compare : wCalS yX3_compare (.code yX3_compare cX3_compare 8 (some .int)) 2 := ⟨by decide +kernel, u_4_151, u_1_19, u_4_152⟩
