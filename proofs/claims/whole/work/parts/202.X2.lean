def f_X2_hasSigns (A : Hp) (x0 : Nat) : Option (Int32) := if (hsh A x0).1 = 5 then ((f_X6_at A x0 (2 : Int32)).bind fun v3 => (if v3 = (32 : Int32) then ((f_X6_at A x0 (6 : Int32)).bind fun v6 => (if v6 = (32 : Int32) then ((f_X6_at A x0 (11 : Int32)).bind fun v9 => (if v9 = (32 : Int32) then ((f_X6_at A x0 (14 : Int32)).bind fun v12 => (if v12 = (58 : Int32) then ((f_X6_at A x0 (17 : Int32)).bind fun v15 => (if v15 = (58 : Int32) then some (1 : Int32) else some (0 : Int32))) else some (0 : Int32))) else some (0 : Int32))) else some (0 : Int32))) else some (0 : Int32))) else none
set_option maxRecDepth 100000 in
theorem s_X2_hasSigns {l : Launch} {g : GT} (hl : l.stackTraces = false) {A : Hp} {x0 : Nat} {r : Int32} (h : f_X2_hasSigns A x0 = some r) : MetV l g yX2_hasSigns (.code yX2_hasSigns cX2_hasSigns 1 (some .boolean)) [.inr (.inr x0)] A (.inl (some (.inl r))) A 1 21 0 0 := by
  refine MetV.ofV hl (by decide +kernel) (Nat.le_of_ble_eq_true rfl) (fun κ K E => ?_)
  have K : Cx κ cX2_hasSigns 1 RX2 1 21 0 0 := K
  have E : Ed κ (some .boolean) "hasSigns" (.inl (some (.inl r))) A 0 0 := E
  unfold f_X2_hasSigns at h
  change Vw κ A 0 0 0 [(0, .inr (.inr x0))] []
  refine Vw.aload_n (pc := 0) (x := x0) K dX2_hasSigns_0 rfl ?_
  refine Vw.iconst (pc := 1) (v := (2 : Int32)) K (by decide) dX2_hasSigns_1 ?_
  obtain ⟨g1, h⟩ := wgd h
  obtain ⟨v3, e2, h⟩ := wbd h
  refine Vw.cV1 (pc := 2) (v := .inl v3) (c' := 0) (n' := 0) K (s_X6_at K.tr e2) cal_X6_at cls4 u_4_39 g1 rfl ⟨by decide, by decide⟩ ⟨by decide, by decide⟩ rfl (Nat.le_of_ble_eq_true rfl) dX2_hasSigns_2 rfl rfl ?_
  refine Vw.bipush (pc := 5) (v := (32 : Int32)) K (by decide) dX2_hasSigns_5 ?_
  refine Vw.icmp_ne (pc := 7) (tgt := 58) K dX2_hasSigns_7 (by decide) (fun c4 => ?_) (fun c4 => ?_)
  · have h := wneg c4 h
    refine Vw.iconst (pc := 58) (v := (0 : Int32)) K (by decide) dX2_hasSigns_58 ?_
    exact Vw.zretE (pc := 59) K (Or.inl rfl) (Option.some.inj h) rfl E (by decide) (by decide) dX2_hasSigns_59
  · have h := wpos c4 h
    refine Vw.aload_n (pc := 10) (x := x0) K dX2_hasSigns_10 rfl ?_
    refine Vw.bipush (pc := 11) (v := (6 : Int32)) K (by decide) dX2_hasSigns_11 ?_
    obtain ⟨v6, e5, h⟩ := wbd h
    refine Vw.cV1 (pc := 13) (v := .inl v6) (c' := 0) (n' := 0) K (s_X6_at K.tr e5) cal_X6_at cls4 u_4_39 g1 rfl ⟨by decide, by decide⟩ ⟨by decide, by decide⟩ rfl (Nat.le_of_ble_eq_true rfl) dX2_hasSigns_13 rfl rfl ?_
    refine Vw.bipush (pc := 16) (v := (32 : Int32)) K (by decide) dX2_hasSigns_16 ?_
    refine Vw.icmp_ne (pc := 18) (tgt := 58) K dX2_hasSigns_18 (by decide) (fun c7 => ?_) (fun c7 => ?_)
    · have h := wneg c7 h
      refine Vw.iconst (pc := 58) (v := (0 : Int32)) K (by decide) dX2_hasSigns_58 ?_
      exact Vw.zretE (pc := 59) K (Or.inl rfl) (Option.some.inj h) rfl E (by decide) (by decide) dX2_hasSigns_59
    · have h := wpos c7 h
      refine Vw.aload_n (pc := 21) (x := x0) K dX2_hasSigns_21 rfl ?_
      refine Vw.bipush (pc := 22) (v := (11 : Int32)) K (by decide) dX2_hasSigns_22 ?_
      obtain ⟨v9, e8, h⟩ := wbd h
      refine Vw.cV1 (pc := 24) (v := .inl v9) (c' := 0) (n' := 0) K (s_X6_at K.tr e8) cal_X6_at cls4 u_4_39 g1 rfl ⟨by decide, by decide⟩ ⟨by decide, by decide⟩ rfl (Nat.le_of_ble_eq_true rfl) dX2_hasSigns_24 rfl rfl ?_
      refine Vw.bipush (pc := 27) (v := (32 : Int32)) K (by decide) dX2_hasSigns_27 ?_
      refine Vw.icmp_ne (pc := 29) (tgt := 58) K dX2_hasSigns_29 (by decide) (fun c10 => ?_) (fun c10 => ?_)
      · have h := wneg c10 h
        refine Vw.iconst (pc := 58) (v := (0 : Int32)) K (by decide) dX2_hasSigns_58 ?_
        exact Vw.zretE (pc := 59) K (Or.inl rfl) (Option.some.inj h) rfl E (by decide) (by decide) dX2_hasSigns_59
      · have h := wpos c10 h
        refine Vw.aload_n (pc := 32) (x := x0) K dX2_hasSigns_32 rfl ?_
        refine Vw.bipush (pc := 33) (v := (14 : Int32)) K (by decide) dX2_hasSigns_33 ?_
        obtain ⟨v12, e11, h⟩ := wbd h
        refine Vw.cV1 (pc := 35) (v := .inl v12) (c' := 0) (n' := 0) K (s_X6_at K.tr e11) cal_X6_at cls4 u_4_39 g1 rfl ⟨by decide, by decide⟩ ⟨by decide, by decide⟩ rfl (Nat.le_of_ble_eq_true rfl) dX2_hasSigns_35 rfl rfl ?_
        refine Vw.bipush (pc := 38) (v := (58 : Int32)) K (by decide) dX2_hasSigns_38 ?_
        refine Vw.icmp_ne (pc := 40) (tgt := 58) K dX2_hasSigns_40 (by decide) (fun c13 => ?_) (fun c13 => ?_)
        · have h := wneg c13 h
          refine Vw.iconst (pc := 58) (v := (0 : Int32)) K (by decide) dX2_hasSigns_58 ?_
          exact Vw.zretE (pc := 59) K (Or.inl rfl) (Option.some.inj h) rfl E (by decide) (by decide) dX2_hasSigns_59
        · have h := wpos c13 h
          refine Vw.aload_n (pc := 43) (x := x0) K dX2_hasSigns_43 rfl ?_
          refine Vw.bipush (pc := 44) (v := (17 : Int32)) K (by decide) dX2_hasSigns_44 ?_
          obtain ⟨v15, e14, h⟩ := wbd h
          refine Vw.cV1 (pc := 46) (v := .inl v15) (c' := 0) (n' := 0) K (s_X6_at K.tr e14) cal_X6_at cls4 u_4_39 g1 rfl ⟨by decide, by decide⟩ ⟨by decide, by decide⟩ rfl (Nat.le_of_ble_eq_true rfl) dX2_hasSigns_46 rfl rfl ?_
          refine Vw.bipush (pc := 49) (v := (58 : Int32)) K (by decide) dX2_hasSigns_49 ?_
          refine Vw.icmp_ne (pc := 51) (tgt := 58) K dX2_hasSigns_51 (by decide) (fun c16 => ?_) (fun c16 => ?_)
          · have h := wneg c16 h
            refine Vw.iconst (pc := 58) (v := (0 : Int32)) K (by decide) dX2_hasSigns_58 ?_
            exact Vw.zretE (pc := 59) K (Or.inl rfl) (Option.some.inj h) rfl E (by decide) (by decide) dX2_hasSigns_59
          · have h := wpos c16 h
            refine Vw.iconst (pc := 54) (v := (1 : Int32)) K (by decide) dX2_hasSigns_54 ?_
            refine Vw.goto (pc := 55) (tgt := 59) K dX2_hasSigns_55 (by decide) ?_
            exact Vw.zretE (pc := 59) K (Or.inr rfl) (Option.some.inj h) rfl E (by decide) (by decide) dX2_hasSigns_59
theorem cal_X2_hasSigns : wCalS yX2_hasSigns (.code yX2_hasSigns cX2_hasSigns 1 (some .boolean)) 1 := ⟨by decide +kernel, u_4_37, u_1_22, u_4_38⟩
def k_X2_month_62 (rec2 : Int32 → Option (Int32)) (A : Hp) (x0 : Nat) (x1 : Int32)  : Option (Int32) := rec2 (x1 + (1 : Int32))
set_option maxRecDepth 100000 in
theorem s_X2_month_62 {κ : KT} {r : Int32} {A : Hp} {x0 : Nat} {x1 : Int32}  {rec2 : Int32 → Option (Int32)} (K : Cx κ cX2_month 2 RX2 4 85 0 0) (E : Ed κ (some .int) "month" (.inl (some (.inl r))) A 0 0) (hr2 : ∀ (x1 : Int32), rec2 x1 = some r → Vw κ A 0 0 2 [(0, .inr (.inr x0)), (1, .inl x1)] []) (h : k_X2_month_62 rec2 A x0 x1  = some r) : Vw κ A 0 0 62 [(0, .inr (.inr x0)), (1, .inl x1)] [] := by
  unfold k_X2_month_62 at h
  refine Vw.iinc (pc := 62) (x := x1) (v := (1 : Int32)) K dX2_month_62 rfl (by decide) (by decide) ?_
  refine Vw.goto (pc := 65) (tgt := 2) K dX2_month_65 (by decide) ?_
  exact Vw.loc rfl (hr2 _ h)
def k_X2_month_2s (A : Hp) (x0 : Nat)  (rec2 : Int32 → Option (Int32))  (x1 : Int32) : Option (Int32) := (if (12 : Int32) ≤ x1 then some (-1 : Int32) else if (hsh A x0).1 = 5 then ((f_X6_at A x0 (3 : Int32)).bind fun v4 => if wSn 3 then ((f_J0_charAt_5068e A 3 ((3 : Int32) * x1)).bind fun v7 => (if v4 = v7 then ((f_X6_at A x0 (4 : Int32)).bind fun v10 => ((f_J0_charAt_5068e A 3 (((3 : Int32) * x1) + (1 : Int32))).bind fun v12 => (if v10 = v12 then ((f_X6_at A x0 (5 : Int32)).bind fun v15 => ((f_J0_charAt_5068e A 3 (((3 : Int32) * x1) + (2 : Int32))).bind fun v17 => (if v15 = v17 then some x1 else k_X2_month_62 rec2 A x0 x1))) else k_X2_month_62 rec2 A x0 x1))) else k_X2_month_62 rec2 A x0 x1)) else none) else none)
def k_X2_month_2 (A : Hp) (x0 : Nat)  : Nat → Int32 → Option (Int32)
  | 0 => fun _ => none
  | fu + 1 => k_X2_month_2s A x0  (k_X2_month_2 A x0  fu)
set_option maxRecDepth 100000 in
theorem s_X2_month_2 {κ : KT} {r : Int32} {A : Hp} {x0 : Nat}  (K : Cx κ cX2_month 2 RX2 4 85 0 0) (E : Ed κ (some .int) "month" (.inl (some (.inl r))) A 0 0)  : ∀ (fu : Nat)  (x1 : Int32),  k_X2_month_2 A x0  fu x1 = some r → Vw κ A 0 0 2 [(0, .inr (.inr x0)), (1, .inl x1)] [] := by
  intro fu
  induction fu with
  | zero => intro x1 h; cases h
  | succ fu hr2 =>
    intro x1 h
    have h : k_X2_month_2s A x0  (k_X2_month_2 A x0  fu) x1 = some r := h
    unfold k_X2_month_2s at h
    refine Vw.iload_n (pc := 2) (x := x1) K dX2_month_2 rfl ?_
    refine Vw.bipush (pc := 3) (v := (12 : Int32)) K (by decide) dX2_month_3 ?_
    refine Vw.icmp_ge (pc := 5) (tgt := 68) K dX2_month_5 (by decide) (fun c1 => ?_) (fun c1 => ?_)
    · have h := wpos c1 h
      refine Vw.iconst (pc := 68) (v := (-1 : Int32)) K (by decide) dX2_month_68 ?_
      exact Vw.iretE (pc := 69) K (Option.some.inj h) rfl E (by decide) (by decide) dX2_month_69
    · have h := wneg c1 h
      refine Vw.aload_n (pc := 8) (x := x0) K dX2_month_8 rfl ?_
      refine Vw.iconst (pc := 9) (v := (3 : Int32)) K (by decide) dX2_month_9 ?_
      obtain ⟨g2, h⟩ := wgd h
      obtain ⟨v4, e3, h⟩ := wbd h
      refine Vw.cV1 (pc := 10) (v := .inl v4) (c' := 0) (n' := 0) K (s_X6_at K.tr e3) cal_X6_at cls4 u_4_39 g2 rfl ⟨by decide, by decide⟩ ⟨by decide, by decide⟩ rfl (Nat.le_of_ble_eq_true rfl) dX2_month_10 rfl rfl ?_
      refine Vw.ldcS (pc := 13) (k := 2) K rfl (by decide) dX2_month_13 ?_
      refine Vw.iconst (pc := 15) (v := (3 : Int32)) K (by decide) dX2_month_15 ?_
      refine Vw.iload_n (pc := 16) (x := x1) K dX2_month_16 rfl ?_
      refine Vw.imul (pc := 17) K dX2_month_17 ?_
      obtain ⟨g5, h⟩ := wgd h
      obtain ⟨v7, e6, h⟩ := wbd h
      refine Vw.cStr (pc := 18) (v := .inl v7) K (s_J0_charAt_5068e K.tr e6) cal_J0_charAt_5068e u_4_49 g5 rfl ⟨by decide, by decide⟩ ⟨by decide, by decide⟩ rfl (Nat.le_of_ble_eq_true rfl) dX2_month_18 ?_
      refine Vw.icmp_ne (pc := 21) (tgt := 62) K dX2_month_21 (by decide) (fun c8 => ?_) (fun c8 => ?_)
      · have h := wneg c8 h
        exact Vw.loc rfl (s_X2_month_62 K E hr2 h)
      · have h := wpos c8 h
        refine Vw.aload_n (pc := 24) (x := x0) K dX2_month_24 rfl ?_
        refine Vw.iconst (pc := 25) (v := (4 : Int32)) K (by decide) dX2_month_25 ?_
        obtain ⟨v10, e9, h⟩ := wbd h
        refine Vw.cV1 (pc := 26) (v := .inl v10) (c' := 0) (n' := 0) K (s_X6_at K.tr e9) cal_X6_at cls4 u_4_39 g2 rfl ⟨by decide, by decide⟩ ⟨by decide, by decide⟩ rfl (Nat.le_of_ble_eq_true rfl) dX2_month_26 rfl rfl ?_
        refine Vw.ldcS (pc := 29) (k := 2) K rfl (by decide) dX2_month_29 ?_
        refine Vw.iconst (pc := 31) (v := (3 : Int32)) K (by decide) dX2_month_31 ?_
        refine Vw.iload_n (pc := 32) (x := x1) K dX2_month_32 rfl ?_
        refine Vw.imul (pc := 33) K dX2_month_33 ?_
        refine Vw.iconst (pc := 34) (v := (1 : Int32)) K (by decide) dX2_month_34 ?_
        refine Vw.iadd (pc := 35) K dX2_month_35 ?_
        obtain ⟨v12, e11, h⟩ := wbd h
        refine Vw.cStr (pc := 36) (v := .inl v12) K (s_J0_charAt_5068e K.tr e11) cal_J0_charAt_5068e u_4_49 g5 rfl ⟨by decide, by decide⟩ ⟨by decide, by decide⟩ rfl (Nat.le_of_ble_eq_true rfl) dX2_month_36 ?_
        refine Vw.icmp_ne (pc := 39) (tgt := 62) K dX2_month_39 (by decide) (fun c13 => ?_) (fun c13 => ?_)
        · have h := wneg c13 h
          exact Vw.loc rfl (s_X2_month_62 K E hr2 h)
        · have h := wpos c13 h
          refine Vw.aload_n (pc := 42) (x := x0) K dX2_month_42 rfl ?_
          refine Vw.iconst (pc := 43) (v := (5 : Int32)) K (by decide) dX2_month_43 ?_
          obtain ⟨v15, e14, h⟩ := wbd h
          refine Vw.cV1 (pc := 44) (v := .inl v15) (c' := 0) (n' := 0) K (s_X6_at K.tr e14) cal_X6_at cls4 u_4_39 g2 rfl ⟨by decide, by decide⟩ ⟨by decide, by decide⟩ rfl (Nat.le_of_ble_eq_true rfl) dX2_month_44 rfl rfl ?_
          refine Vw.ldcS (pc := 47) (k := 2) K rfl (by decide) dX2_month_47 ?_
          refine Vw.iconst (pc := 49) (v := (3 : Int32)) K (by decide) dX2_month_49 ?_
          refine Vw.iload_n (pc := 50) (x := x1) K dX2_month_50 rfl ?_
          refine Vw.imul (pc := 51) K dX2_month_51 ?_
          refine Vw.iconst (pc := 52) (v := (2 : Int32)) K (by decide) dX2_month_52 ?_
          refine Vw.iadd (pc := 53) K dX2_month_53 ?_
          obtain ⟨v17, e16, h⟩ := wbd h
          refine Vw.cStr (pc := 54) (v := .inl v17) K (s_J0_charAt_5068e K.tr e16) cal_J0_charAt_5068e u_4_49 g5 rfl ⟨by decide, by decide⟩ ⟨by decide, by decide⟩ rfl (Nat.le_of_ble_eq_true rfl) dX2_month_54 ?_
          refine Vw.icmp_ne (pc := 57) (tgt := 62) K dX2_month_57 (by decide) (fun c18 => ?_) (fun c18 => ?_)
          · have h := wneg c18 h
            exact Vw.loc rfl (s_X2_month_62 K E hr2 h)
          · have h := wpos c18 h
            refine Vw.iload_n (pc := 60) (x := x1) K dX2_month_60 rfl ?_
            exact Vw.iretE (pc := 61) K (Option.some.inj h) rfl E (by decide) (by decide) dX2_month_61
def f_X2_month (A : Hp) (x0 : Nat) : Option (Int32) := k_X2_month_2 A x0 FU (0 : Int32)
set_option maxRecDepth 100000 in
theorem s_X2_month {l : Launch} {g : GT} (hl : l.stackTraces = false) {A : Hp} {x0 : Nat} {r : Int32} (h : f_X2_month A x0 = some r) : MetV l g yX2_month (.code yX2_month cX2_month 2 (some .int)) [.inr (.inr x0)] A (.inl (some (.inl r))) A 4 85 0 0 := by
  refine MetV.ofV hl (by decide +kernel) (Nat.le_of_ble_eq_true rfl) (fun κ K E => ?_)
  have K : Cx κ cX2_month 2 RX2 4 85 0 0 := K
  have E : Ed κ (some .int) "month" (.inl (some (.inl r))) A 0 0 := E
  unfold f_X2_month at h
  change Vw κ A 0 0 0 [(0, .inr (.inr x0))] []
  refine Vw.iconst (pc := 0) (v := (0 : Int32)) K (by decide) dX2_month_0 ?_
  refine Vw.istore_n (pc := 1) K dX2_month_1 (by decide) ?_
  exact Vw.loc rfl (s_X2_month_2 K E  _ _ h)
theorem cal_X2_month : wCalS yX2_month (.code yX2_month cX2_month 2 (some .int)) 1 := ⟨by decide +kernel, u_4_46, u_1_22, u_4_47⟩
def k_X2_isLeap_21  (A : Hp)   : Option (Int32) := some (1 : Int32)
set_option maxRecDepth 100000 in
theorem s_X2_isLeap_21 {κ : KT} {r : Int32} {A : Hp}    (K : Cx κ cX2_isLeap 1 RX2 0 0 0 0) (E : Ed κ (some .boolean) "isLeap" (.inl (some (.inl r))) A 0 0)  (h : k_X2_isLeap_21  A   = some r) : Vw κ A 0 0 21 [] [] := by
  unfold k_X2_isLeap_21 at h
  refine Vw.iconst (pc := 21) (v := (1 : Int32)) K (by decide) dX2_isLeap_21 ?_
  refine Vw.goto (pc := 22) (tgt := 26) K dX2_isLeap_22 (by decide) ?_
  exact Vw.zretE (pc := 26) K (Or.inr rfl) (Option.some.inj h) rfl E (by decide) (by decide) dX2_isLeap_26
def f_X2_isLeap (A : Hp) (x0 : Int32) : Option (Int32) := (if (x0 - x0 / (4 : Int32) * (4 : Int32)) = (0 : Int32) then (if (x0 - x0 / (100 : Int32) * (100 : Int32)) = (0 : Int32) then (if (x0 - x0 / (400 : Int32) * (400 : Int32)) = (0 : Int32) then k_X2_isLeap_21 A else some (0 : Int32)) else k_X2_isLeap_21 A) else some (0 : Int32))
set_option maxRecDepth 100000 in
theorem s_X2_isLeap {l : Launch} {g : GT} (hl : l.stackTraces = false) {A : Hp} {x0 : Int32} {r : Int32} (h : f_X2_isLeap A x0 = some r) : MetV l g yX2_isLeap (.code yX2_isLeap cX2_isLeap 1 (some .boolean)) [.inl x0] A (.inl (some (.inl r))) A 0 0 0 0 := by
  refine MetV.ofV hl (by decide +kernel) (Nat.le_of_ble_eq_true rfl) (fun κ K E => ?_)
  have K : Cx κ cX2_isLeap 1 RX2 0 0 0 0 := K
  have E : Ed κ (some .boolean) "isLeap" (.inl (some (.inl r))) A 0 0 := E
  unfold f_X2_isLeap at h
  change Vw κ A 0 0 0 [(0, .inl x0)] []
  refine Vw.iload_n (pc := 0) (x := x0) K dX2_isLeap_0 rfl ?_
  refine Vw.iconst (pc := 1) (v := (4 : Int32)) K (by decide) dX2_isLeap_1 ?_
  refine Vw.irem (pc := 2) K (by decide) dX2_isLeap_2 ?_
  refine Vw.if_ne (pc := 3) (tgt := 25) K dX2_isLeap_3 (by decide) (fun c1 => ?_) (fun c1 => ?_)
  · have h := wneg c1 h
    refine Vw.iconst (pc := 25) (v := (0 : Int32)) K (by decide) dX2_isLeap_25 ?_
    exact Vw.zretE (pc := 26) K (Or.inl rfl) (Option.some.inj h) rfl E (by decide) (by decide) dX2_isLeap_26
  · have h := wpos c1 h
    refine Vw.iload_n (pc := 6) (x := x0) K dX2_isLeap_6 rfl ?_
    refine Vw.bipush (pc := 7) (v := (100 : Int32)) K (by decide) dX2_isLeap_7 ?_
    refine Vw.irem (pc := 9) K (by decide) dX2_isLeap_9 ?_
    refine Vw.if_ne (pc := 10) (tgt := 21) K dX2_isLeap_10 (by decide) (fun c2 => ?_) (fun c2 => ?_)
    · have h := wneg c2 h
      exact Vw.loc rfl (s_X2_isLeap_21 K E  h)
    · have h := wpos c2 h
      refine Vw.iload_n (pc := 13) (x := x0) K dX2_isLeap_13 rfl ?_
      refine Vw.sipush (pc := 14) (v := (400 : Int32)) K (by decide) dX2_isLeap_14 ?_
      refine Vw.irem (pc := 17) K (by decide) dX2_isLeap_17 ?_
      refine Vw.if_ne (pc := 18) (tgt := 25) K dX2_isLeap_18 (by decide) (fun c3 => ?_) (fun c3 => ?_)
      · have h := wneg c3 h
        refine Vw.iconst (pc := 25) (v := (0 : Int32)) K (by decide) dX2_isLeap_25 ?_
        exact Vw.zretE (pc := 26) K (Or.inl rfl) (Option.some.inj h) rfl E (by decide) (by decide) dX2_isLeap_26
      · have h := wpos c3 h
        exact Vw.loc rfl (s_X2_isLeap_21 K E  h)
theorem cal_X2_isLeap : wCalS yX2_isLeap (.code yX2_isLeap cX2_isLeap 1 (some .boolean)) 1 := ⟨by decide +kernel, u_4_56, u_1_22, u_4_57⟩
def f_X2_daysOf (A : Hp) (x0 : Int32) (x1 : Int32) : Option (Int32) := (if x1 < (0 : Int32) then some (0 : Int32) else (if x1 ≤ (11 : Int32) then if wix (x1 + (1 : Int32)) 13 then if wix x1 13 then (if x1 = (1 : Int32) then ((f_X2_isLeap A x0).bind fun v7 => (if v7 = (0 : Int32) then some ((wdy (x1 + (1 : Int32)).toNatClampNeg) - (wdy x1.toNatClampNeg)) else some (((wdy (x1 + (1 : Int32)).toNatClampNeg) - (wdy x1.toNatClampNeg)) + (1 : Int32)))) else some ((wdy (x1 + (1 : Int32)).toNatClampNeg) - (wdy x1.toNatClampNeg))) else none else none else some (0 : Int32)))
set_option maxRecDepth 100000 in
theorem s_X2_daysOf {l : Launch} {g : GT} (hl : l.stackTraces = false) {A : Hp} {x0 : Int32} {x1 : Int32} {r : Int32} (h : f_X2_daysOf A x0 x1 = some r) : MetV l g yX2_daysOf (.code yX2_daysOf cX2_daysOf 3 (some .int)) [.inl x0, .inl x1] A (.inl (some (.inl r))) A 1 20 0 0 := by
  refine MetV.ofV hl (by decide +kernel) (Nat.le_of_ble_eq_true rfl) (fun κ K E => ?_)
  have K : Cx κ cX2_daysOf 3 RX2 1 20 0 0 := K
  have E : Ed κ (some .int) "daysOf" (.inl (some (.inl r))) A 0 0 := E
  unfold f_X2_daysOf at h
  change Vw κ A 0 0 0 [(0, .inl x0), (1, .inl x1)] []
  refine Vw.iload_n (pc := 0) (x := x1) K dX2_daysOf_0 rfl ?_
  refine Vw.if_lt (pc := 1) (tgt := 10) K dX2_daysOf_1 (by decide) (fun c1 => ?_) (fun c1 => ?_)
  · have h := wpos c1 h
    refine Vw.iconst (pc := 10) (v := (0 : Int32)) K (by decide) dX2_daysOf_10 ?_
    exact Vw.iretE (pc := 11) K (Option.some.inj h) rfl E (by decide) (by decide) dX2_daysOf_11
  · have h := wneg c1 h
    refine Vw.iload_n (pc := 4) (x := x1) K dX2_daysOf_4 rfl ?_
    refine Vw.bipush (pc := 5) (v := (11 : Int32)) K (by decide) dX2_daysOf_5 ?_
    refine Vw.icmp_le (pc := 7) (tgt := 12) K dX2_daysOf_7 (by decide) (fun c2 => ?_) (fun c2 => ?_)
    · have h := wpos c2 h
      refine Vw.gstD (pc := 12) K u_4_53 dX2_daysOf_12 ?_
      refine Vw.iload_n (pc := 15) (x := x1) K dX2_daysOf_15 rfl ?_
      refine Vw.iconst (pc := 16) (v := (1 : Int32)) K (by decide) dX2_daysOf_16 ?_
      refine Vw.iadd (pc := 17) K dX2_daysOf_17 ?_
      obtain ⟨g3, h⟩ := wgd h
      refine Vw.dload (pc := 18) K g3 dX2_daysOf_18 ?_
      refine Vw.gstD (pc := 19) K u_4_53 dX2_daysOf_19 ?_
      refine Vw.iload_n (pc := 22) (x := x1) K dX2_daysOf_22 rfl ?_
      obtain ⟨g4, h⟩ := wgd h
      refine Vw.dload (pc := 23) K g4 dX2_daysOf_23 ?_
      refine Vw.isub (pc := 24) K dX2_daysOf_24 ?_
      refine Vw.istore_n (pc := 25) K dX2_daysOf_25 (by decide) ?_
      refine Vw.iload_n (pc := 26) (x := x1) K dX2_daysOf_26 rfl ?_
      refine Vw.iconst (pc := 27) (v := (1 : Int32)) K (by decide) dX2_daysOf_27 ?_
      refine Vw.icmp_ne (pc := 28) (tgt := 44) K dX2_daysOf_28 (by decide) (fun c5 => ?_) (fun c5 => ?_)
      · have h := wneg c5 h
        refine Vw.iload_n (pc := 44) (x := ((wdy (x1 + (1 : Int32)).toNatClampNeg) - (wdy x1.toNatClampNeg))) K dX2_daysOf_44 rfl ?_
        exact Vw.iretE (pc := 45) K (Option.some.inj h) rfl E (by decide) (by decide) dX2_daysOf_45
      · have h := wpos c5 h
        refine Vw.iload_n (pc := 31) (x := x0) K dX2_daysOf_31 rfl ?_
        obtain ⟨v7, e6, h⟩ := wbd h
        refine Vw.cS1 (pc := 32) (v := .inl v7) (c' := 0) (n' := 0) K (s_X2_isLeap K.tr e6) cal_X2_isLeap u_4_55 rfl ⟨by decide, by decide⟩ ⟨by decide, by decide⟩ rfl (Nat.le_of_ble_eq_true rfl) dX2_daysOf_32 rfl rfl ?_
        refine Vw.if_eq (pc := 35) (tgt := 44) K dX2_daysOf_35 (by decide) (fun c8 => ?_) (fun c8 => ?_)
        · have h := wpos c8 h
          refine Vw.iload_n (pc := 44) (x := ((wdy (x1 + (1 : Int32)).toNatClampNeg) - (wdy x1.toNatClampNeg))) K dX2_daysOf_44 rfl ?_
          exact Vw.iretE (pc := 45) K (Option.some.inj h) rfl E (by decide) (by decide) dX2_daysOf_45
        · have h := wneg c8 h
          refine Vw.iload_n (pc := 38) (x := ((wdy (x1 + (1 : Int32)).toNatClampNeg) - (wdy x1.toNatClampNeg))) K dX2_daysOf_38 rfl ?_
          refine Vw.iconst (pc := 39) (v := (1 : Int32)) K (by decide) dX2_daysOf_39 ?_
          refine Vw.iadd (pc := 40) K dX2_daysOf_40 ?_
          refine Vw.goto (pc := 41) (tgt := 45) K dX2_daysOf_41 (by decide) ?_
          exact Vw.iretE (pc := 45) K (Option.some.inj h) rfl E (by decide) (by decide) dX2_daysOf_45
    · have h := wneg c2 h
      refine Vw.iconst (pc := 10) (v := (0 : Int32)) K (by decide) dX2_daysOf_10 ?_
      exact Vw.iretE (pc := 11) K (Option.some.inj h) rfl E (by decide) (by decide) dX2_daysOf_11
theorem cal_X2_daysOf : wCalS yX2_daysOf (.code yX2_daysOf cX2_daysOf 3 (some .int)) 2 := ⟨by decide +kernel, u_4_51, u_1_22, u_4_52⟩
def f_X2_leapDaysBefore (A : Hp) (x0 : Int32) : Option (Int32) := some ((((x0 - (1 : Int32)) / (4 : Int32)) - ((x0 - (1 : Int32)) / (100 : Int32))) + ((x0 - (1 : Int32)) / (400 : Int32)))
set_option maxRecDepth 100000 in
theorem s_X2_leapDaysBefore {l : Launch} {g : GT} (hl : l.stackTraces = false) {A : Hp} {x0 : Int32} {r : Int32} (h : f_X2_leapDaysBefore A x0 = some r) : MetV l g yX2_leapDaysBefore (.code yX2_leapDaysBefore cX2_leapDaysBefore 2 (some .int)) [.inl x0] A (.inl (some (.inl r))) A 0 0 0 0 := by
  refine MetV.ofV hl (by decide +kernel) (Nat.le_of_ble_eq_true rfl) (fun κ K E => ?_)
  have K : Cx κ cX2_leapDaysBefore 2 RX2 0 0 0 0 := K
  have E : Ed κ (some .int) "leapDaysBefore" (.inl (some (.inl r))) A 0 0 := E
  unfold f_X2_leapDaysBefore at h
  change Vw κ A 0 0 0 [(0, .inl x0)] []
  refine Vw.iload_n (pc := 0) (x := x0) K dX2_leapDaysBefore_0 rfl ?_
  refine Vw.iconst (pc := 1) (v := (1 : Int32)) K (by decide) dX2_leapDaysBefore_1 ?_
  refine Vw.isub (pc := 2) K dX2_leapDaysBefore_2 ?_
  refine Vw.istore_n (pc := 3) K dX2_leapDaysBefore_3 (by decide) ?_
  refine Vw.iload_n (pc := 4) (x := (x0 - (1 : Int32))) K dX2_leapDaysBefore_4 rfl ?_
  refine Vw.iconst (pc := 5) (v := (4 : Int32)) K (by decide) dX2_leapDaysBefore_5 ?_
  refine Vw.idiv (pc := 6) K (by decide) dX2_leapDaysBefore_6 ?_
  refine Vw.iload_n (pc := 7) (x := (x0 - (1 : Int32))) K dX2_leapDaysBefore_7 rfl ?_
  refine Vw.bipush (pc := 8) (v := (100 : Int32)) K (by decide) dX2_leapDaysBefore_8 ?_
  refine Vw.idiv (pc := 10) K (by decide) dX2_leapDaysBefore_10 ?_
  refine Vw.isub (pc := 11) K dX2_leapDaysBefore_11 ?_
  refine Vw.iload_n (pc := 12) (x := (x0 - (1 : Int32))) K dX2_leapDaysBefore_12 rfl ?_
  refine Vw.sipush (pc := 13) (v := (400 : Int32)) K (by decide) dX2_leapDaysBefore_13 ?_
  refine Vw.idiv (pc := 16) K (by decide) dX2_leapDaysBefore_16 ?_
  refine Vw.iadd (pc := 17) K dX2_leapDaysBefore_17 ?_
  exact Vw.iretE (pc := 18) K (Option.some.inj h) rfl E (by decide) (by decide) dX2_leapDaysBefore_18
theorem cal_X2_leapDaysBefore : wCalS yX2_leapDaysBefore (.code yX2_leapDaysBefore cX2_leapDaysBefore 2 (some .int)) 1 := ⟨by decide +kernel, u_4_62, u_1_22, u_4_63⟩
def k_X2_daysBefore_40  (A : Hp) (x0 : Int32) (x1 : Int32) (t0 : Int32) (t1 : Int32) : Option (Int64) := if wix x1 13 then some (((((365 : Int32) * (x0 - (1970 : Int32))) + (t0 + t1)) + (wdy x1.toNatClampNeg)).toInt64) else none
set_option maxRecDepth 100000 in
theorem s_X2_daysBefore_40 {κ : KT} {r : Int64} {A : Hp} {x0 : Int32} {x1 : Int32} {t0 : Int32} {t1 : Int32}  (K : Cx κ cX2_daysBefore 3 RX2 1 21 0 0) (E : Ed κ (some .long) "daysBefore" (.inl (some (.inr (.inl r)))) A 0 0)  (h : k_X2_daysBefore_40  A x0 x1 t0 t1 = some r) : Vw κ A 0 0 40 [(0, .inl x0), (1, .inl x1)] [.inl t1, .inl t0] := by
  unfold k_X2_daysBefore_40 at h
  refine Vw.iadd (pc := 40) K dX2_daysBefore_40 ?_
  refine Vw.istore_n (pc := 41) K dX2_daysBefore_41 (by decide) ?_
  refine Vw.sipush (pc := 42) (v := (365 : Int32)) K (by decide) dX2_daysBefore_42 ?_
  refine Vw.iload_n (pc := 45) (x := x0) K dX2_daysBefore_45 rfl ?_
  refine Vw.sipush (pc := 46) (v := (1970 : Int32)) K (by decide) dX2_daysBefore_46 ?_
  refine Vw.isub (pc := 49) K dX2_daysBefore_49 ?_
  refine Vw.imul (pc := 50) K dX2_daysBefore_50 ?_
  refine Vw.iload_n (pc := 51) (x := (t0 + t1)) K dX2_daysBefore_51 rfl ?_
  refine Vw.iadd (pc := 52) K dX2_daysBefore_52 ?_
  refine Vw.gstD (pc := 53) K u_4_53 dX2_daysBefore_53 ?_
  refine Vw.iload_n (pc := 56) (x := x1) K dX2_daysBefore_56 rfl ?_
  obtain ⟨g1, h⟩ := wgd h
  refine Vw.dload (pc := 57) K g1 dX2_daysBefore_57 ?_
  refine Vw.iadd (pc := 58) K dX2_daysBefore_58 ?_
  refine Vw.i2l (pc := 59) K dX2_daysBefore_59 ?_
  exact Vw.lretE (pc := 60) K (Option.some.inj h) rfl E (by decide) (by decide) dX2_daysBefore_60
def k_X2_daysBefore_39  (A : Hp) (x0 : Int32) (x1 : Int32) (t0 : Int32) : Option (Int64) := k_X2_daysBefore_40 A x0 x1 t0 (0 : Int32)
set_option maxRecDepth 100000 in
theorem s_X2_daysBefore_39 {κ : KT} {r : Int64} {A : Hp} {x0 : Int32} {x1 : Int32} {t0 : Int32}  (K : Cx κ cX2_daysBefore 3 RX2 1 21 0 0) (E : Ed κ (some .long) "daysBefore" (.inl (some (.inr (.inl r)))) A 0 0)  (h : k_X2_daysBefore_39  A x0 x1 t0 = some r) : Vw κ A 0 0 39 [(0, .inl x0), (1, .inl x1)] [.inl t0] := by
  unfold k_X2_daysBefore_39 at h
  refine Vw.iconst (pc := 39) (v := (0 : Int32)) K (by decide) dX2_daysBefore_39 ?_
  exact Vw.loc rfl (s_X2_daysBefore_40 K E  h)
def f_X2_daysBefore (A : Hp) (x0 : Int32) (x1 : Int32) : Option (Int64) := (if x1 < (0 : Int32) then some (0 : Int64) else (if x1 ≤ (11 : Int32) then ((f_X2_leapDaysBefore A x0).bind fun v5 => ((f_X2_leapDaysBefore A (1970 : Int32)).bind fun v7 => (if x1 ≤ (1 : Int32) then k_X2_daysBefore_39 A x0 x1 (v5 - v7) else ((f_X2_isLeap A x0).bind fun v10 => (if v10 = (0 : Int32) then k_X2_daysBefore_39 A x0 x1 (v5 - v7) else k_X2_daysBefore_40 A x0 x1 (v5 - v7) (1 : Int32)))))) else some (0 : Int64)))
set_option maxRecDepth 100000 in
theorem s_X2_daysBefore {l : Launch} {g : GT} (hl : l.stackTraces = false) {A : Hp} {x0 : Int32} {x1 : Int32} {r : Int64} (h : f_X2_daysBefore A x0 x1 = some r) : MetV l g yX2_daysBefore (.code yX2_daysBefore cX2_daysBefore 3 (some .long)) [.inl x0, .inl x1] A (.inl (some (.inr (.inl r)))) A 1 21 0 0 := by
  refine MetV.ofV hl (by decide +kernel) (Nat.le_of_ble_eq_true rfl) (fun κ K E => ?_)
  have K : Cx κ cX2_daysBefore 3 RX2 1 21 0 0 := K
  have E : Ed κ (some .long) "daysBefore" (.inl (some (.inr (.inl r)))) A 0 0 := E
  unfold f_X2_daysBefore at h
  change Vw κ A 0 0 0 [(0, .inl x0), (1, .inl x1)] []
  refine Vw.iload_n (pc := 0) (x := x1) K dX2_daysBefore_0 rfl ?_
  refine Vw.if_lt (pc := 1) (tgt := 10) K dX2_daysBefore_1 (by decide) (fun c2 => ?_) (fun c2 => ?_)
  · have h := wpos c2 h
    refine Vw.lconst (pc := 10) (v := (0 : Int64)) K (by decide) dX2_daysBefore_10 ?_
    exact Vw.lretE (pc := 11) K (Option.some.inj h) rfl E (by decide) (by decide) dX2_daysBefore_11
  · have h := wneg c2 h
    refine Vw.iload_n (pc := 4) (x := x1) K dX2_daysBefore_4 rfl ?_
    refine Vw.bipush (pc := 5) (v := (11 : Int32)) K (by decide) dX2_daysBefore_5 ?_
    refine Vw.icmp_le (pc := 7) (tgt := 12) K dX2_daysBefore_7 (by decide) (fun c3 => ?_) (fun c3 => ?_)
    · have h := wpos c3 h
      refine Vw.iload_n (pc := 12) (x := x0) K dX2_daysBefore_12 rfl ?_
      obtain ⟨v5, e4, h⟩ := wbd h
      refine Vw.cS1 (pc := 13) (v := .inl v5) (c' := 0) (n' := 0) K (s_X2_leapDaysBefore K.tr e4) cal_X2_leapDaysBefore u_4_61 rfl ⟨by decide, by decide⟩ ⟨by decide, by decide⟩ rfl (Nat.le_of_ble_eq_true rfl) dX2_daysBefore_13 rfl rfl ?_
      refine Vw.sipush (pc := 16) (v := (1970 : Int32)) K (by decide) dX2_daysBefore_16 ?_
      obtain ⟨v7, e6, h⟩ := wbd h
      refine Vw.cS1 (pc := 19) (v := .inl v7) (c' := 0) (n' := 0) K (s_X2_leapDaysBefore K.tr e6) cal_X2_leapDaysBefore u_4_61 rfl ⟨by decide, by decide⟩ ⟨by decide, by decide⟩ rfl (Nat.le_of_ble_eq_true rfl) dX2_daysBefore_19 rfl rfl ?_
      refine Vw.isub (pc := 22) K dX2_daysBefore_22 ?_
      refine Vw.iload_n (pc := 23) (x := x1) K dX2_daysBefore_23 rfl ?_
      refine Vw.iconst (pc := 24) (v := (1 : Int32)) K (by decide) dX2_daysBefore_24 ?_
      refine Vw.icmp_le (pc := 25) (tgt := 39) K dX2_daysBefore_25 (by decide) (fun c8 => ?_) (fun c8 => ?_)
      · have h := wpos c8 h
        exact Vw.loc rfl (s_X2_daysBefore_39 K E  h)
      · have h := wneg c8 h
        refine Vw.iload_n (pc := 28) (x := x0) K dX2_daysBefore_28 rfl ?_
        obtain ⟨v10, e9, h⟩ := wbd h
        refine Vw.cS1 (pc := 29) (v := .inl v10) (c' := 0) (n' := 0) K (s_X2_isLeap K.tr e9) cal_X2_isLeap u_4_55 rfl ⟨by decide, by decide⟩ ⟨by decide, by decide⟩ rfl (Nat.le_of_ble_eq_true rfl) dX2_daysBefore_29 rfl rfl ?_
        refine Vw.if_eq (pc := 32) (tgt := 39) K dX2_daysBefore_32 (by decide) (fun c11 => ?_) (fun c11 => ?_)
        · have h := wpos c11 h
          exact Vw.loc rfl (s_X2_daysBefore_39 K E  h)
        · have h := wneg c11 h
          refine Vw.iconst (pc := 35) (v := (1 : Int32)) K (by decide) dX2_daysBefore_35 ?_
          refine Vw.goto (pc := 36) (tgt := 40) K dX2_daysBefore_36 (by decide) ?_
          exact Vw.loc rfl (s_X2_daysBefore_40 K E  h)
    · have h := wneg c3 h
      refine Vw.lconst (pc := 10) (v := (0 : Int64)) K (by decide) dX2_daysBefore_10 ?_
      exact Vw.lretE (pc := 11) K (Option.some.inj h) rfl E (by decide) (by decide) dX2_daysBefore_11
theorem cal_X2_daysBefore : wCalS yX2_daysBefore (.code yX2_daysBefore cX2_daysBefore 3 (some .long)) 2 := ⟨by decide +kernel, u_4_59, u_1_22, u_4_60⟩
def f_X2_read (A : Hp) (x0 : Nat) : Option (Int64) := if (hsh A x0).1 = 5 then (if (hgI A 257 x0 0) = (20 : Int32) then ((f_X2_hasSigns A x0).bind fun v4 => (if v4 = (0 : Int32) then some (-1 : Int64) else ((f_X6_number A x0 (0 : Int32) (2 : Int32)).bind fun v7 => ((f_X2_month A x0).bind fun v9 => ((f_X6_number A x0 (7 : Int32) (11 : Int32)).bind fun v11 => (if v11 < (1970 : Int32) then some (-1 : Int64) else (if v9 < (0 : Int32) then some (-1 : Int64) else (if v7 < (1 : Int32) then some (-1 : Int64) else ((f_X2_daysOf A v11 v9).bind fun v16 => (if v7 ≤ v16 then ((f_X6_number A x0 (12 : Int32) (14 : Int32)).bind fun v19 => ((f_X6_number A x0 (15 : Int32) (17 : Int32)).bind fun v21 => ((f_X6_number A x0 (18 : Int32) (20 : Int32)).bind fun v23 => (if v19 < (0 : Int32) then some (-1 : Int64) else (if (23 : Int32) < v19 then some (-1 : Int64) else (if v21 < (0 : Int32) then some (-1 : Int64) else (if (59 : Int32) < v21 then some (-1 : Int64) else (if v23 < (0 : Int32) then some (-1 : Int64) else (if v23 ≤ (59 : Int32) then ((f_X2_daysBefore A v11 v9).bind fun v31 => some ((((((((v31 + v7.toInt64) - (1 : Int64)) * (24 : Int64)) + v19.toInt64) * (60 : Int64)) + v21.toInt64) * (60 : Int64)) + v23.toInt64)) else some (-1 : Int64)))))))))) else some (-1 : Int64))))))))))) else some (-1 : Int64)) else none
set_option maxRecDepth 100000 in
theorem s_X2_read {l : Launch} {g : GT} (hl : l.stackTraces = false) {A : Hp} {x0 : Nat} {r : Int64} (h : f_X2_read A x0 = some r) : MetV l g yX2_read (.code yX2_read cX2_read 9 (some .long)) [.inr (.inr x0)] A (.inl (some (.inr (.inl r)))) A 5 106 0 0 := by
  refine MetV.ofV hl (by decide +kernel) (Nat.le_of_ble_eq_true rfl) (fun κ K E => ?_)
  have K : Cx κ cX2_read 9 RX2 5 106 0 0 := K
  have E : Ed κ (some .long) "read" (.inl (some (.inr (.inl r)))) A 0 0 := E
  unfold f_X2_read at h
  change Vw κ A 0 0 0 [(0, .inr (.inr x0))] []
  refine Vw.aload_n (pc := 0) (x := x0) K dX2_read_0 rfl ?_
  obtain ⟨g1, h⟩ := wgd h
  refine Vw.getI (pc := 1) (k := 1) (f := 257) K cls4 rfl rfl u_1_43 g1 dX2_read_1 ?_
  refine Vw.bipush (pc := 4) (v := (20 : Int32)) K (by decide) dX2_read_4 ?_
  refine Vw.icmp_ne (pc := 6) (tgt := 16) K dX2_read_6 (by decide) (fun c2 => ?_) (fun c2 => ?_)
  · have h := wneg c2 h
    refine Vw.ldc2 (pc := 16) (v := (-1 : Int64)) K u_4_40 dX2_read_16 ?_
    exact Vw.lretE (pc := 19) K (Option.some.inj h) rfl E (by decide) (by decide) dX2_read_19
  · have h := wpos c2 h
    refine Vw.aload_n (pc := 9) (x := x0) K dX2_read_9 rfl ?_
    obtain ⟨v4, e3, h⟩ := wbd h
    refine Vw.cS1 (pc := 10) (v := .inl v4) (c' := 0) (n' := 0) K (s_X2_hasSigns K.tr e3) cal_X2_hasSigns u_4_36 rfl ⟨by decide, by decide⟩ ⟨by decide, by decide⟩ rfl (Nat.le_of_ble_eq_true rfl) dX2_read_10 rfl rfl ?_
    refine Vw.if_ne (pc := 13) (tgt := 20) K dX2_read_13 (by decide) (fun c5 => ?_) (fun c5 => ?_)
    · have h := wneg c5 h
      refine Vw.aload_n (pc := 20) (x := x0) K dX2_read_20 rfl ?_
      refine Vw.iconst (pc := 21) (v := (0 : Int32)) K (by decide) dX2_read_21 ?_
      refine Vw.iconst (pc := 22) (v := (2 : Int32)) K (by decide) dX2_read_22 ?_
      obtain ⟨v7, e6, h⟩ := wbd h
      refine Vw.cV1 (pc := 23) (v := .inl v7) (c' := 0) (n' := 0) K (s_X6_number K.tr e6) cal_X6_number cls4 u_4_41 g1 rfl ⟨by decide, by decide⟩ ⟨by decide, by decide⟩ rfl (Nat.le_of_ble_eq_true rfl) dX2_read_23 rfl rfl ?_
      refine Vw.istore_n (pc := 26) K dX2_read_26 (by decide) ?_
      refine Vw.aload_n (pc := 27) (x := x0) K dX2_read_27 rfl ?_
      obtain ⟨v9, e8, h⟩ := wbd h
      refine Vw.cS1 (pc := 28) (v := .inl v9) (c' := 0) (n' := 0) K (s_X2_month K.tr e8) cal_X2_month u_4_45 rfl ⟨by decide, by decide⟩ ⟨by decide, by decide⟩ rfl (Nat.le_of_ble_eq_true rfl) dX2_read_28 rfl rfl ?_
      refine Vw.istore_n (pc := 31) K dX2_read_31 (by decide) ?_
      refine Vw.aload_n (pc := 32) (x := x0) K dX2_read_32 rfl ?_
      refine Vw.bipush (pc := 33) (v := (7 : Int32)) K (by decide) dX2_read_33 ?_
      refine Vw.bipush (pc := 35) (v := (11 : Int32)) K (by decide) dX2_read_35 ?_
      obtain ⟨v11, e10, h⟩ := wbd h
      refine Vw.cV1 (pc := 37) (v := .inl v11) (c' := 0) (n' := 0) K (s_X6_number K.tr e10) cal_X6_number cls4 u_4_41 g1 rfl ⟨by decide, by decide⟩ ⟨by decide, by decide⟩ rfl (Nat.le_of_ble_eq_true rfl) dX2_read_37 rfl rfl ?_
      refine Vw.istore_n (pc := 40) K dX2_read_40 (by decide) ?_
      refine Vw.iload_n (pc := 41) (x := v11) K dX2_read_41 rfl ?_
      refine Vw.sipush (pc := 42) (v := (1970 : Int32)) K (by decide) dX2_read_42 ?_
      refine Vw.icmp_lt (pc := 45) (tgt := 66) K dX2_read_45 (by decide) (fun c12 => ?_) (fun c12 => ?_)
      · have h := wpos c12 h
        refine Vw.ldc2 (pc := 66) (v := (-1 : Int64)) K u_4_40 dX2_read_66 ?_
        exact Vw.lretE (pc := 69) K (Option.some.inj h) rfl E (by decide) (by decide) dX2_read_69
      · have h := wneg c12 h
        refine Vw.iload_n (pc := 48) (x := v9) K dX2_read_48 rfl ?_
        refine Vw.if_lt (pc := 49) (tgt := 66) K dX2_read_49 (by decide) (fun c13 => ?_) (fun c13 => ?_)
        · have h := wpos c13 h
          refine Vw.ldc2 (pc := 66) (v := (-1 : Int64)) K u_4_40 dX2_read_66 ?_
          exact Vw.lretE (pc := 69) K (Option.some.inj h) rfl E (by decide) (by decide) dX2_read_69
        · have h := wneg c13 h
          refine Vw.iload_n (pc := 52) (x := v7) K dX2_read_52 rfl ?_
          refine Vw.iconst (pc := 53) (v := (1 : Int32)) K (by decide) dX2_read_53 ?_
          refine Vw.icmp_lt (pc := 54) (tgt := 66) K dX2_read_54 (by decide) (fun c14 => ?_) (fun c14 => ?_)
          · have h := wpos c14 h
            refine Vw.ldc2 (pc := 66) (v := (-1 : Int64)) K u_4_40 dX2_read_66 ?_
            exact Vw.lretE (pc := 69) K (Option.some.inj h) rfl E (by decide) (by decide) dX2_read_69
          · have h := wneg c14 h
            refine Vw.iload_n (pc := 57) (x := v7) K dX2_read_57 rfl ?_
            refine Vw.iload_n (pc := 58) (x := v11) K dX2_read_58 rfl ?_
            refine Vw.iload_n (pc := 59) (x := v9) K dX2_read_59 rfl ?_
            obtain ⟨v16, e15, h⟩ := wbd h
            refine Vw.cS1 (pc := 60) (v := .inl v16) (c' := 0) (n' := 0) K (s_X2_daysOf K.tr e15) cal_X2_daysOf u_4_50 rfl ⟨by decide, by decide⟩ ⟨by decide, by decide⟩ rfl (Nat.le_of_ble_eq_true rfl) dX2_read_60 rfl rfl ?_
            refine Vw.icmp_le (pc := 63) (tgt := 70) K dX2_read_63 (by decide) (fun c17 => ?_) (fun c17 => ?_)
            · have h := wpos c17 h
              refine Vw.aload_n (pc := 70) (x := x0) K dX2_read_70 rfl ?_
              refine Vw.bipush (pc := 71) (v := (12 : Int32)) K (by decide) dX2_read_71 ?_
              refine Vw.bipush (pc := 73) (v := (14 : Int32)) K (by decide) dX2_read_73 ?_
              obtain ⟨v19, e18, h⟩ := wbd h
              refine Vw.cV1 (pc := 75) (v := .inl v19) (c' := 0) (n' := 0) K (s_X6_number K.tr e18) cal_X6_number cls4 u_4_41 g1 rfl ⟨by decide, by decide⟩ ⟨by decide, by decide⟩ rfl (Nat.le_of_ble_eq_true rfl) dX2_read_75 rfl rfl ?_
              refine Vw.istore (pc := 78) K dX2_read_78 (by decide) ?_
              refine Vw.aload_n (pc := 80) (x := x0) K dX2_read_80 rfl ?_
              refine Vw.bipush (pc := 81) (v := (15 : Int32)) K (by decide) dX2_read_81 ?_
              refine Vw.bipush (pc := 83) (v := (17 : Int32)) K (by decide) dX2_read_83 ?_
              obtain ⟨v21, e20, h⟩ := wbd h
              refine Vw.cV1 (pc := 85) (v := .inl v21) (c' := 0) (n' := 0) K (s_X6_number K.tr e20) cal_X6_number cls4 u_4_41 g1 rfl ⟨by decide, by decide⟩ ⟨by decide, by decide⟩ rfl (Nat.le_of_ble_eq_true rfl) dX2_read_85 rfl rfl ?_
              refine Vw.istore (pc := 88) K dX2_read_88 (by decide) ?_
              refine Vw.aload_n (pc := 90) (x := x0) K dX2_read_90 rfl ?_
              refine Vw.bipush (pc := 91) (v := (18 : Int32)) K (by decide) dX2_read_91 ?_
              refine Vw.bipush (pc := 93) (v := (20 : Int32)) K (by decide) dX2_read_93 ?_
              obtain ⟨v23, e22, h⟩ := wbd h
              refine Vw.cV1 (pc := 95) (v := .inl v23) (c' := 0) (n' := 0) K (s_X6_number K.tr e22) cal_X6_number cls4 u_4_41 g1 rfl ⟨by decide, by decide⟩ ⟨by decide, by decide⟩ rfl (Nat.le_of_ble_eq_true rfl) dX2_read_95 rfl rfl ?_
              refine Vw.istore (pc := 98) K dX2_read_98 (by decide) ?_
              refine Vw.iload (pc := 100) (x := v19) K dX2_read_100 rfl ?_
              refine Vw.if_lt (pc := 102) (tgt := 136) K dX2_read_102 (by decide) (fun c24 => ?_) (fun c24 => ?_)
              · have h := wpos c24 h
                refine Vw.ldc2 (pc := 136) (v := (-1 : Int64)) K u_4_40 dX2_read_136 ?_
                exact Vw.lretE (pc := 139) K (Option.some.inj h) rfl E (by decide) (by decide) dX2_read_139
              · have h := wneg c24 h
                refine Vw.iload (pc := 105) (x := v19) K dX2_read_105 rfl ?_
                refine Vw.bipush (pc := 107) (v := (23 : Int32)) K (by decide) dX2_read_107 ?_
                refine Vw.icmp_gt (pc := 109) (tgt := 136) K dX2_read_109 (by decide) (fun c25 => ?_) (fun c25 => ?_)
                · have h := wpos c25 h
                  refine Vw.ldc2 (pc := 136) (v := (-1 : Int64)) K u_4_40 dX2_read_136 ?_
                  exact Vw.lretE (pc := 139) K (Option.some.inj h) rfl E (by decide) (by decide) dX2_read_139
                · have h := wneg c25 h
                  refine Vw.iload (pc := 112) (x := v21) K dX2_read_112 rfl ?_
                  refine Vw.if_lt (pc := 114) (tgt := 136) K dX2_read_114 (by decide) (fun c26 => ?_) (fun c26 => ?_)
                  · have h := wpos c26 h
                    refine Vw.ldc2 (pc := 136) (v := (-1 : Int64)) K u_4_40 dX2_read_136 ?_
                    exact Vw.lretE (pc := 139) K (Option.some.inj h) rfl E (by decide) (by decide) dX2_read_139
                  · have h := wneg c26 h
                    refine Vw.iload (pc := 117) (x := v21) K dX2_read_117 rfl ?_
                    refine Vw.bipush (pc := 119) (v := (59 : Int32)) K (by decide) dX2_read_119 ?_
                    refine Vw.icmp_gt (pc := 121) (tgt := 136) K dX2_read_121 (by decide) (fun c27 => ?_) (fun c27 => ?_)
                    · have h := wpos c27 h
                      refine Vw.ldc2 (pc := 136) (v := (-1 : Int64)) K u_4_40 dX2_read_136 ?_
                      exact Vw.lretE (pc := 139) K (Option.some.inj h) rfl E (by decide) (by decide) dX2_read_139
                    · have h := wneg c27 h
                      refine Vw.iload (pc := 124) (x := v23) K dX2_read_124 rfl ?_
                      refine Vw.if_lt (pc := 126) (tgt := 136) K dX2_read_126 (by decide) (fun c28 => ?_) (fun c28 => ?_)
                      · have h := wpos c28 h
                        refine Vw.ldc2 (pc := 136) (v := (-1 : Int64)) K u_4_40 dX2_read_136 ?_
                        exact Vw.lretE (pc := 139) K (Option.some.inj h) rfl E (by decide) (by decide) dX2_read_139
                      · have h := wneg c28 h
                        refine Vw.iload (pc := 129) (x := v23) K dX2_read_129 rfl ?_
                        refine Vw.bipush (pc := 131) (v := (59 : Int32)) K (by decide) dX2_read_131 ?_
                        refine Vw.icmp_le (pc := 133) (tgt := 140) K dX2_read_133 (by decide) (fun c29 => ?_) (fun c29 => ?_)
                        · have h := wpos c29 h
                          refine Vw.iload_n (pc := 140) (x := v11) K dX2_read_140 rfl ?_
                          refine Vw.iload_n (pc := 141) (x := v9) K dX2_read_141 rfl ?_
                          obtain ⟨v31, e30, h⟩ := wbd h
                          refine Vw.cS1 (pc := 142) (v := .inr (.inl v31)) (c' := 0) (n' := 0) K (s_X2_daysBefore K.tr e30) cal_X2_daysBefore u_4_58 rfl ⟨by decide, by decide⟩ ⟨by decide, by decide⟩ rfl (Nat.le_of_ble_eq_true rfl) dX2_read_142 rfl rfl ?_
                          refine Vw.iload_n (pc := 145) (x := v7) K dX2_read_145 rfl ?_
                          refine Vw.i2l (pc := 146) K dX2_read_146 ?_
                          refine Vw.ladd (pc := 147) K dX2_read_147 ?_
                          refine Vw.lconst (pc := 148) (v := (1 : Int64)) K (by decide) dX2_read_148 ?_
                          refine Vw.lsub (pc := 149) K dX2_read_149 ?_
                          refine Vw.lstore (pc := 150) K dX2_read_150 (by decide) ?_
                          refine Vw.lload (pc := 152) (x := ((v31 + v7.toInt64) - (1 : Int64))) K dX2_read_152 rfl ?_
                          refine Vw.ldc2 (pc := 154) (v := (24 : Int64)) K u_4_64 dX2_read_154 ?_
                          refine Vw.lmul (pc := 157) K dX2_read_157 ?_
                          refine Vw.iload (pc := 158) (x := v19) K dX2_read_158 rfl ?_
                          refine Vw.i2l (pc := 160) K dX2_read_160 ?_
                          refine Vw.ladd (pc := 161) K dX2_read_161 ?_
                          refine Vw.ldc2 (pc := 162) (v := (60 : Int64)) K u_4_65 dX2_read_162 ?_
                          refine Vw.lmul (pc := 165) K dX2_read_165 ?_
                          refine Vw.iload (pc := 166) (x := v21) K dX2_read_166 rfl ?_
                          refine Vw.i2l (pc := 168) K dX2_read_168 ?_
                          refine Vw.ladd (pc := 169) K dX2_read_169 ?_
                          refine Vw.ldc2 (pc := 170) (v := (60 : Int64)) K u_4_65 dX2_read_170 ?_
                          refine Vw.lmul (pc := 173) K dX2_read_173 ?_
                          refine Vw.iload (pc := 174) (x := v23) K dX2_read_174 rfl ?_
                          refine Vw.i2l (pc := 176) K dX2_read_176 ?_
                          refine Vw.ladd (pc := 177) K dX2_read_177 ?_
                          exact Vw.lretE (pc := 178) K (Option.some.inj h) rfl E (by decide) (by decide) dX2_read_178
                        · have h := wneg c29 h
                          refine Vw.ldc2 (pc := 136) (v := (-1 : Int64)) K u_4_40 dX2_read_136 ?_
                          exact Vw.lretE (pc := 139) K (Option.some.inj h) rfl E (by decide) (by decide) dX2_read_139
            · have h := wneg c17 h
              refine Vw.ldc2 (pc := 66) (v := (-1 : Int64)) K u_4_40 dX2_read_66 ?_
              exact Vw.lretE (pc := 69) K (Option.some.inj h) rfl E (by decide) (by decide) dX2_read_69
    · have h := wpos c5 h
      refine Vw.ldc2 (pc := 16) (v := (-1 : Int64)) K u_4_40 dX2_read_16 ?_
      exact Vw.lretE (pc := 19) K (Option.some.inj h) rfl E (by decide) (by decide) dX2_read_19
theorem cal_X2_read : wCalS yX2_read (.code yX2_read cX2_read 9 (some .long)) 1 := ⟨by decide +kernel, u_4_34, u_1_22, u_4_35⟩
