def f_X8_init (A : Hp) (x0 : Nat) : Option (Hp) := if (hsh A x0).1 = 7 then if (hsh (hmk A 5 0) (hsz A)).1 = 5 then ((f_X6_init (hmk A 5 0) (hsz A) (160 : Int32)).bind fun A4 => if (hsh A4 x0).1 = 7 then if (hsh (hmk (hsR A4 384 x0 0 (hsz A)) 4 0) (hsz (hsR A4 384 x0 0 (hsz A)))).1 = 4 then ((f_X5_init (hmk (hsR A4 384 x0 0 (hsz A)) 4 0) (hsz (hsR A4 384 x0 0 (hsz A)))).bind fun A8 => if (hsh A8 x0).1 = 7 then if (hsh (hmk (hsR A8 385 x0 0 (hsz (hsR A4 384 x0 0 (hsz A)))) 3 0) (hsz (hsR A8 385 x0 0 (hsz (hsR A4 384 x0 0 (hsz A)))))).1 = 3 then ((f_X4_init (hmk (hsR A8 385 x0 0 (hsz (hsR A4 384 x0 0 (hsz A)))) 3 0) (hsz (hsR A8 385 x0 0 (hsz (hsR A4 384 x0 0 (hsz A)))))).bind fun A12 => if (hsh A12 x0).1 = 7 then if (hsh (hmk (hsR A12 386 x0 0 (hsz (hsR A8 385 x0 0 (hsz (hsR A4 384 x0 0 (hsz A)))))) 14 2) x0).1 = 7 then some (hsR (hmk (hsR A12 386 x0 0 (hsz (hsR A8 385 x0 0 (hsz (hsR A4 384 x0 0 (hsz A)))))) 14 2) 387 x0 0 (hsz (hsR A12 386 x0 0 (hsz (hsR A8 385 x0 0 (hsz (hsR A4 384 x0 0 (hsz A)))))))) else none else none) else none else none) else none else none) else none else none
set_option maxRecDepth 100000 in
theorem s_X8_init {l : Launch} {g : GT} (hl : l.stackTraces = false) {A : Hp} {x0 : Nat} {B : Hp} (h : f_X8_init A x0 = some B) : MetV l g yX8_init (.code yX8_init cX8_init 1 none) [.inr (.inr x0)] A (.inl none) B 4 86 438 9624 := by
  refine MetV.ofV hl (by decide +kernel) (Nat.le_of_ble_eq_true rfl) (fun κ K E => ?_)
  have K : Cx κ cX8_init 1 RX8 4 86 438 9624 := K
  have E : Ed κ none "<init>" (.inl none) B 438 9624 := E
  unfold f_X8_init at h
  change Vw κ A 0 0 0 [(0, .inr (.inr x0))] []
  refine Vw.aload_n (pc := 0) (x := x0) K dX8_init_0 rfl ?_
  obtain ⟨g1, h⟩ := wgd h
  refine Vw.objInitK (pc := 1) K u_1_29 u_1_30 u_1_31 g1 (by decide) (Nat.le_of_ble_eq_true rfl) dX8_init_1 ?_
  refine Vw.aload_n (pc := 4) (x := x0) K dX8_init_4 rfl ?_
  refine Vw.newc (pc := 5) (c := 0) (n := 0) (c' := 1) (n' := 2) K cls4 clsd4 u_1_32 (by decide) (by decide) dX8_init_5 rfl rfl ?_
  refine Vw.dup (pc := 8) K rfl dX8_init_8 ?_
  refine Vw.sipush (pc := 9) (v := (160 : Int32)) K (by decide) dX8_init_9 ?_
  obtain ⟨g2, h⟩ := wgd h
  obtain ⟨A4, e3, h⟩ := wbd h
  refine Vw.cI0K (pc := 12) (c' := 2) (n' := 162) K (s_X6_init (ms := 160) (by decide) K.tr e3) cal_X6_init u_1_34 g2 rfl ⟨by decide, by decide⟩ ⟨by decide, by decide⟩ rfl (Nat.le_of_ble_eq_true rfl) dX8_init_12 rfl rfl ?_
  obtain ⟨g5, h⟩ := wgd h
  refine Vw.putR (pc := 15) (k := 0) (f := 384) K cls6 rfl rfl u_2_57 g5 (Or.inr ⟨rfl, E.2.2.1, rfl⟩) (wRn _ _) (wRf _ _) dX8_init_15 ?_
  refine Vw.aload_n (pc := 18) (x := x0) K dX8_init_18 rfl ?_
  refine Vw.newc (pc := 19) (c := 2) (n := 162) (c' := 3) (n' := 176) K cls3 clsd3 u_1_57 (by decide) (by decide) dX8_init_19 rfl rfl ?_
  refine Vw.dup (pc := 22) K rfl dX8_init_22 ?_
  obtain ⟨g6, h⟩ := wgd h
  obtain ⟨A8, e7, h⟩ := wbd h
  refine Vw.cI0K (pc := 23) (c' := 15) (n' := 1028) K (s_X5_init K.tr e7) cal_X5_init u_1_59 g6 rfl ⟨by decide, by decide⟩ ⟨by decide, by decide⟩ rfl (Nat.le_of_ble_eq_true rfl) dX8_init_23 rfl rfl ?_
  obtain ⟨g9, h⟩ := wgd h
  refine Vw.putR (pc := 26) (k := 1) (f := 385) K cls6 rfl rfl u_2_58 g9 (Or.inr ⟨rfl, E.2.2.1, rfl⟩) (wRn _ _) (wRf _ _) dX8_init_26 ?_
  refine Vw.aload_n (pc := 29) (x := x0) K dX8_init_29 rfl ?_
  refine Vw.newc (pc := 30) (c := 15) (n := 1028) (c' := 16) (n' := 1041) K cls2 clsd2 u_1_117 (by decide) (by decide) dX8_init_30 rfl rfl ?_
  refine Vw.dup (pc := 33) K rfl dX8_init_33 ?_
  obtain ⟨g10, h⟩ := wgd h
  obtain ⟨A12, e11, h⟩ := wbd h
  refine Vw.cI0K (pc := 34) (c' := 437) (n' := 9622) K (s_X4_init K.tr e11) cal_X4_init u_1_119 g10 rfl ⟨by decide, by decide⟩ ⟨by decide, by decide⟩ rfl (Nat.le_of_ble_eq_true rfl) dX8_init_34 rfl rfl ?_
  obtain ⟨g13, h⟩ := wgd h
  refine Vw.putR (pc := 37) (k := 2) (f := 386) K cls6 rfl rfl u_2_59 g13 (Or.inr ⟨rfl, E.2.2.1, rfl⟩) (wRn _ _) (wRf _ _) dX8_init_37 ?_
  refine Vw.aload_n (pc := 40) (x := x0) K dX8_init_40 rfl ?_
  refine Vw.iconst (pc := 41) (v := (2 : Int32)) K (by decide) dX8_init_41 ?_
  refine Vw.newqJ_ (pc := 42) (c := 437) (n := 9622) (c' := 438) (n' := 9624) (N := 2) K u_1_117 (by decide) (by decide) (by decide) (by decide) (by decide) dX8_init_42 rfl rfl ?_
  obtain ⟨g14, h⟩ := wgd h
  refine Vw.putR (pc := 45) (k := 3) (f := 387) K cls6 rfl rfl u_2_60 g14 (Or.inr ⟨rfl, E.2.2.1, rfl⟩) (wAn _ _) (wAf _ _) dX8_init_45 ?_
  exact Vw.vretE (pc := 48) K (Option.some.inj h) E (by decide) (by decide) dX8_init_48
theorem cal_X8_init : wCalI yX8_init (.code yX8_init cX8_init 1 none) 0 := ⟨by decide +kernel, u_1_27, u_1_1, u_1_28, rfl⟩
def f_X8_type (A : Hp) (x0 : Nat) (x1 : Int32) : Option ((Int32 ⊕ Nat) × Hp) := (if x1 < (32 : Int32) then some (.inr 1, hmk A 0 0) else (if x1 ≤ (126 : Int32) then if (hsh A x0).1 = 7 then if (hsh A (hgR A 384 x0 0)).1 = 5 then (if (hgI A 257 (hgR A 384 x0 0) 0) < (160 : Int32) then ((f_X6_add A (hgR A 384 x0 0) x1).bind fun A7 => if (hsh A7 x0).1 = 7 then if (hsh A7 (hgR A7 384 x0 0)).1 = 5 then some (.inl (hgI A7 257 (hgR A7 384 x0 0) 0), A7) else none else none) else some (.inr 2, hmk A 0 0)) else none else none else some (.inr 1, hmk A 0 0)))
set_option maxRecDepth 100000 in
theorem s_X8_type {l : Launch} {g : GT} (hl : l.stackTraces = false) {A : Hp} {x0 : Nat} {x1 : Int32} {r : Int32 ⊕ Nat} {B : Hp} (h : f_X8_type A x0 x1 = some (r, B)) : MetV l g yX8_type (.code yX8_type cX8_type 2 (some .int)) [.inr (.inr x0), .inl x1] A (wrI r) B 6 90 1 6 := by
  refine MetV.ofV hl (by decide +kernel) (Nat.le_of_ble_eq_true rfl) (fun κ K E => ?_)
  have K : Cx κ cX8_type 2 RX8 6 90 1 6 := K
  have E : Ed κ (some .int) "type" (wrI r) B 1 6 := E
  unfold f_X8_type at h
  change Vw κ A 0 0 0 [(0, .inr (.inr x0)), (1, .inl x1)] []
  refine Vw.iload_n (pc := 0) (x := x1) K dX8_type_0 rfl ?_
  refine Vw.bipush (pc := 1) (v := (32 : Int32)) K (by decide) dX8_type_1 ?_
  refine Vw.icmp_lt (pc := 3) (tgt := 12) K dX8_type_3 (by decide) (fun c1 => ?_) (fun c1 => ?_)
  · have h := wpos c1 h
    exact Vw.throwS1 (pc := 12) (k := 20) K (E.thI h) rfl u_3_35 u_1_13 dX8_type_12 dX8_type_15 dX8_type_16 dX8_type_18 dX8_type_21 (by decide) (Nat.le_of_ble_eq_true rfl) (by decide) (by decide)
  · have h := wneg c1 h
    refine Vw.iload_n (pc := 6) (x := x1) K dX8_type_6 rfl ?_
    refine Vw.bipush (pc := 7) (v := (126 : Int32)) K (by decide) dX8_type_7 ?_
    refine Vw.icmp_le (pc := 9) (tgt := 22) K dX8_type_9 (by decide) (fun c2 => ?_) (fun c2 => ?_)
    · have h := wpos c2 h
      refine Vw.aload_n (pc := 22) (x := x0) K dX8_type_22 rfl ?_
      obtain ⟨g3, h⟩ := wgd h
      refine Vw.getR (pc := 23) (k := 0) (f := 384) K cls6 rfl rfl u_2_57 g3 dX8_type_23 ?_
      obtain ⟨g4, h⟩ := wgd h
      refine Vw.getI (pc := 26) (k := 1) (f := 257) K cls4 rfl rfl u_1_46 g4 dX8_type_26 ?_
      refine Vw.sipush (pc := 29) (v := (160 : Int32)) K (by decide) dX8_type_29 ?_
      refine Vw.icmp_lt (pc := 32) (tgt := 45) K dX8_type_32 (by decide) (fun c5 => ?_) (fun c5 => ?_)
      · have h := wpos c5 h
        refine Vw.aload_n (pc := 45) (x := x0) K dX8_type_45 rfl ?_
        refine Vw.getR (pc := 46) (k := 0) (f := 384) K cls6 rfl rfl u_2_57 g3 dX8_type_46 ?_
        refine Vw.iload_n (pc := 49) (x := x1) K dX8_type_49 rfl ?_
        obtain ⟨A7, e6, h⟩ := wbd h
        refine Vw.cV0 (pc := 50) (c' := 0) (n' := 0) K (s_X6_add K.tr e6) cal_X6_add cls4 u_3_118 g4 rfl ⟨by decide, by decide⟩ ⟨by decide, by decide⟩ rfl (Nat.le_of_ble_eq_true rfl) dX8_type_50 rfl rfl ?_
        refine Vw.aload_n (pc := 53) (x := x0) K dX8_type_53 rfl ?_
        obtain ⟨g8, h⟩ := wgd h
        refine Vw.getR (pc := 54) (k := 0) (f := 384) K cls6 rfl rfl u_2_57 g8 dX8_type_54 ?_
        obtain ⟨g9, h⟩ := wgd h
        refine Vw.getI (pc := 57) (k := 1) (f := 257) K cls4 rfl rfl u_1_46 g9 dX8_type_57 ?_
        exact Vw.iretT (pc := 60) K h E (by decide) (by decide) dX8_type_60
      · have h := wneg c5 h
        exact Vw.throwS2 (pc := 35) (k := 21) K (E.thI h) rfl u_3_102 u_1_14 dX8_type_35 dX8_type_38 dX8_type_39 dX8_type_41 dX8_type_44 (by decide) (Nat.le_of_ble_eq_true rfl) (by decide) (by decide)
    · have h := wneg c2 h
      exact Vw.throwS1 (pc := 12) (k := 20) K (E.thI h) rfl u_3_35 u_1_13 dX8_type_12 dX8_type_15 dX8_type_16 dX8_type_18 dX8_type_21 (by decide) (Nat.le_of_ble_eq_true rfl) (by decide) (by decide)
theorem cal_X8_type : wCalV RX8 yX8_type (.code yX8_type cX8_type 2 (some .int)) 1 := ⟨by decide +kernel, u_3_32, u_3_33, u_1_1, u_3_34⟩
def f_X8_clearText (A : Hp) (x0 : Nat) : Option (Int32 × Hp) := if (hsh A x0).1 = 7 then if (hsh A (hgR A 384 x0 0)).1 = 5 then ((f_X6_empty A (hgR A 384 x0 0)).bind fun A4 => some ((hgI A 257 (hgR A 384 x0 0) 0), A4)) else none else none
set_option maxRecDepth 100000 in
theorem s_X8_clearText {l : Launch} {g : GT} (hl : l.stackTraces = false) {A : Hp} {x0 : Nat} {r : Int32} {B : Hp} (h : f_X8_clearText A x0 = some (r, B)) : MetV l g yX8_clearText (.code yX8_clearText cX8_clearText 2 (some .int)) [.inr (.inr x0)] A (.inl (some (.inl r))) B 1 20 0 0 := by
  refine MetV.ofV hl (by decide +kernel) (Nat.le_of_ble_eq_true rfl) (fun κ K E => ?_)
  have K : Cx κ cX8_clearText 2 RX8 1 20 0 0 := K
  have E : Ed κ (some .int) "clearText" (.inl (some (.inl r))) B 0 0 := E
  unfold f_X8_clearText at h
  change Vw κ A 0 0 0 [(0, .inr (.inr x0))] []
  refine Vw.aload_n (pc := 0) (x := x0) K dX8_clearText_0 rfl ?_
  obtain ⟨g1, h⟩ := wgd h
  refine Vw.getR (pc := 1) (k := 0) (f := 384) K cls6 rfl rfl u_2_57 g1 dX8_clearText_1 ?_
  obtain ⟨g2, h⟩ := wgd h
  refine Vw.getI (pc := 4) (k := 1) (f := 257) K cls4 rfl rfl u_1_46 g2 dX8_clearText_4 ?_
  refine Vw.istore_n (pc := 7) K dX8_clearText_7 (by decide) ?_
  refine Vw.aload_n (pc := 8) (x := x0) K dX8_clearText_8 rfl ?_
  refine Vw.getR (pc := 9) (k := 0) (f := 384) K cls6 rfl rfl u_2_57 g1 dX8_clearText_9 ?_
  obtain ⟨A4, e3, h⟩ := wbd h
  refine Vw.cV0 (pc := 12) (c' := 0) (n' := 0) K (s_X6_empty K.tr e3) cal_X6_empty cls4 u_2_74 g2 rfl ⟨by decide, by decide⟩ ⟨by decide, by decide⟩ rfl (Nat.le_of_ble_eq_true rfl) dX8_clearText_12 rfl rfl ?_
  refine Vw.iload_n (pc := 15) (x := (hgI A 257 (hgR A 384 x0 0) 0)) K dX8_clearText_15 rfl ?_
  exact Vw.iretH (pc := 16) K h E (by decide) (by decide) dX8_clearText_16
theorem cal_X8_clearText : wCalV RX8 yX8_clearText (.code yX8_clearText cX8_clearText 2 (some .int)) 0 := ⟨by decide +kernel, u_2_71, u_2_72, u_1_1, u_2_73⟩
def f_X8_open (A : Hp) (x0 : Nat) (x1 : Nat) : Option (Int32 × Hp) := if (hsh A x0).1 = 7 then if (hsh A x1).1 = 1 then ((f_X0_read A x1 (hgR A 384 x0 0)).bind fun p4 => (if p4.1 < (0 : Int32) then some (p4.1, p4.2) else if (hsh p4.2 x0).1 = 7 then if (hsh p4.2 (hgR p4.2 384 x0 0)).1 = 5 then ((f_X6_empty p4.2 (hgR p4.2 384 x0 0)).bind fun A9 => some (p4.1, A9)) else none else none)) else none else none
set_option maxRecDepth 100000 in
theorem s_X8_open {l : Launch} {g : GT} (hl : l.stackTraces = false) {A : Hp} {x0 : Nat} {x1 : Nat} {r : Int32} {B : Hp} (h : f_X8_open A x0 x1 = some (r, B)) : MetV l g yX8_open (.code yX8_open cX8_open 3 (some .int)) [.inr (.inr x0), .inr (.inr x1)] A (.inl (some (.inl r))) B 6 133 0 0 := by
  refine MetV.ofV hl (by decide +kernel) (Nat.le_of_ble_eq_true rfl) (fun κ K E => ?_)
  have K : Cx κ cX8_open 3 RX8 6 133 0 0 := K
  have E : Ed κ (some .int) "open" (.inl (some (.inl r))) B 0 0 := E
  unfold f_X8_open at h
  change Vw κ A 0 0 0 [(0, .inr (.inr x0)), (1, .inr (.inr x1))] []
  refine Vw.aload_n (pc := 0) (x := x1) K dX8_open_0 rfl ?_
  refine Vw.aload_n (pc := 1) (x := x0) K dX8_open_1 rfl ?_
  obtain ⟨g1, h⟩ := wgd h
  refine Vw.getR (pc := 2) (k := 0) (f := 384) K cls6 rfl rfl u_2_57 g1 dX8_open_2 ?_
  obtain ⟨g2, h⟩ := wgd h
  obtain ⟨p4, e3, h⟩ := wbd h
  refine Vw.cV1 (pc := 5) (v := .inl p4.1) (c' := 0) (n' := 0) K (s_X0_read K.tr e3) cal_X0_read cls0 u_2_86 g2 rfl ⟨by decide, by decide⟩ ⟨by decide, by decide⟩ rfl (Nat.le_of_ble_eq_true rfl) dX8_open_5 rfl rfl ?_
  refine Vw.istore_n (pc := 8) K dX8_open_8 (by decide) ?_
  refine Vw.iload_n (pc := 9) (x := p4.1) K dX8_open_9 rfl ?_
  refine Vw.if_lt (pc := 10) (tgt := 20) K dX8_open_10 (by decide) (fun c5 => ?_) (fun c5 => ?_)
  · have h := wpos c5 h
    refine Vw.iload_n (pc := 20) (x := p4.1) K dX8_open_20 rfl ?_
    exact Vw.iretH (pc := 21) K h E (by decide) (by decide) dX8_open_21
  · have h := wneg c5 h
    refine Vw.aload_n (pc := 13) (x := x0) K dX8_open_13 rfl ?_
    obtain ⟨g6, h⟩ := wgd h
    refine Vw.getR (pc := 14) (k := 0) (f := 384) K cls6 rfl rfl u_2_57 g6 dX8_open_14 ?_
    obtain ⟨g7, h⟩ := wgd h
    obtain ⟨A9, e8, h⟩ := wbd h
    refine Vw.cV0 (pc := 17) (c' := 0) (n' := 0) K (s_X6_empty K.tr e8) cal_X6_empty cls4 u_2_74 g7 rfl ⟨by decide, by decide⟩ ⟨by decide, by decide⟩ rfl (Nat.le_of_ble_eq_true rfl) dX8_open_17 rfl rfl ?_
    refine Vw.iload_n (pc := 20) (x := p4.1) K dX8_open_20 rfl ?_
    exact Vw.iretH (pc := 21) K h E (by decide) (by decide) dX8_open_21
theorem cal_X8_open : wCalV RX8 yX8_open (.code yX8_open cX8_open 3 (some .int)) 1 := ⟨by decide +kernel, u_2_84, us_1_0, u_1_1, u_2_85⟩
def f_X8_openPage (A : Hp) (x0 : Nat) : Option (Int32 × Hp) := if (hsh A x0).1 = 7 then if (hsh A (hgR A 386 x0 0)).1 = 3 then ((f_X8_open A x0 (hgR A 133 (hgR A 386 x0 0) 0)).bind fun p4 => some (p4.1, p4.2)) else none else none
set_option maxRecDepth 100000 in
theorem s_X8_openPage {l : Launch} {g : GT} (hl : l.stackTraces = false) {A : Hp} {x0 : Nat} {r : Int32} {B : Hp} (h : f_X8_openPage A x0 = some (r, B)) : MetV l g yX8_openPage (.code yX8_openPage cX8_openPage 1 (some .int)) [.inr (.inr x0)] A (.inl (some (.inl r))) B 7 155 0 0 := by
  refine MetV.ofV hl (by decide +kernel) (Nat.le_of_ble_eq_true rfl) (fun κ K E => ?_)
  have K : Cx κ cX8_openPage 1 RX8 7 155 0 0 := K
  have E : Ed κ (some .int) "openPage" (.inl (some (.inl r))) B 0 0 := E
  unfold f_X8_openPage at h
  change Vw κ A 0 0 0 [(0, .inr (.inr x0))] []
  refine Vw.aload_n (pc := 0) (x := x0) K dX8_openPage_0 rfl ?_
  refine Vw.aload_n (pc := 1) (x := x0) K dX8_openPage_1 rfl ?_
  obtain ⟨g1, h⟩ := wgd h
  refine Vw.getR (pc := 2) (k := 2) (f := 386) K cls6 rfl rfl u_2_59 g1 dX8_openPage_2 ?_
  obtain ⟨g2, h⟩ := wgd h
  refine Vw.getR (pc := 5) (k := 5) (f := 133) K cls2 rfl rfl u_2_14 g2 dX8_openPage_5 ?_
  obtain ⟨p4, e3, h⟩ := wbd h
  refine Vw.cV1 (pc := 8) (v := .inl p4.1) (c' := 0) (n' := 0) K (s_X8_open K.tr e3) cal_X8_open cls6 u_2_82 g1 rfl ⟨by decide, by decide⟩ ⟨by decide, by decide⟩ rfl (Nat.le_of_ble_eq_true rfl) dX8_openPage_8 rfl rfl ?_
  exact Vw.iretH (pc := 11) K h E (by decide) (by decide) dX8_openPage_11
theorem cal_X8_openPage : wCalV RX8 yX8_openPage (.code yX8_openPage cX8_openPage 1 (some .int)) 0 := ⟨by decide +kernel, u_2_79, u_2_80, u_1_1, u_2_81⟩
def f_X8_openRequest (A : Hp) (x0 : Nat) : Option (Int32 × Hp) := if (hsh A x0).1 = 7 then if (hsh A (hgR A 386 x0 0)).1 = 3 then ((f_X8_open A x0 (hgR A 134 (hgR A 386 x0 0) 0)).bind fun p4 => some (p4.1, p4.2)) else none else none
set_option maxRecDepth 100000 in
theorem s_X8_openRequest {l : Launch} {g : GT} (hl : l.stackTraces = false) {A : Hp} {x0 : Nat} {r : Int32} {B : Hp} (h : f_X8_openRequest A x0 = some (r, B)) : MetV l g yX8_openRequest (.code yX8_openRequest cX8_openRequest 1 (some .int)) [.inr (.inr x0)] A (.inl (some (.inl r))) B 7 155 0 0 := by
  refine MetV.ofV hl (by decide +kernel) (Nat.le_of_ble_eq_true rfl) (fun κ K E => ?_)
  have K : Cx κ cX8_openRequest 1 RX8 7 155 0 0 := K
  have E : Ed κ (some .int) "openRequest" (.inl (some (.inl r))) B 0 0 := E
  unfold f_X8_openRequest at h
  change Vw κ A 0 0 0 [(0, .inr (.inr x0))] []
  refine Vw.aload_n (pc := 0) (x := x0) K dX8_openRequest_0 rfl ?_
  refine Vw.aload_n (pc := 1) (x := x0) K dX8_openRequest_1 rfl ?_
  obtain ⟨g1, h⟩ := wgd h
  refine Vw.getR (pc := 2) (k := 2) (f := 386) K cls6 rfl rfl u_2_59 g1 dX8_openRequest_2 ?_
  obtain ⟨g2, h⟩ := wgd h
  refine Vw.getR (pc := 5) (k := 6) (f := 134) K cls2 rfl rfl u_2_16 g2 dX8_openRequest_5 ?_
  obtain ⟨p4, e3, h⟩ := wbd h
  refine Vw.cV1 (pc := 8) (v := .inl p4.1) (c' := 0) (n' := 0) K (s_X8_open K.tr e3) cal_X8_open cls6 u_2_82 g1 rfl ⟨by decide, by decide⟩ ⟨by decide, by decide⟩ rfl (Nat.le_of_ble_eq_true rfl) dX8_openRequest_8 rfl rfl ?_
  exact Vw.iretH (pc := 11) K h E (by decide) (by decide) dX8_openRequest_11
theorem cal_X8_openRequest : wCalV RX8 yX8_openRequest (.code yX8_openRequest cX8_openRequest 1 (some .int)) 0 := ⟨by decide +kernel, u_2_189, u_2_190, u_1_1, u_2_191⟩
def f_X8_needRequest (A : Hp) (x0 : Nat) : Option ((Unit ⊕ Nat) × Hp) := if (hsh A x0).1 = 7 then if (hsh A (hgR A 386 x0 0)).1 = 3 then if (hsh A (hgR A 134 (hgR A 386 x0 0) 0)).1 = 1 then (if (hgI A 2 (hgR A 134 (hgR A 386 x0 0) 0) 0) = (0 : Int32) then some (.inr 2, hmk A 0 0) else some (.inl (), A)) else none else none else none
set_option maxRecDepth 100000 in
theorem s_X8_needRequest {l : Launch} {g : GT} (hl : l.stackTraces = false) {A : Hp} {x0 : Nat} {r : Unit ⊕ Nat} {B : Hp} (h : f_X8_needRequest A x0 = some (r, B)) : MetV l g yX8_needRequest (.code yX8_needRequest cX8_needRequest 1 none) [.inr (.inr x0)] A (wrV r) B 6 90 1 6 := by
  refine MetV.ofV hl (by decide +kernel) (Nat.le_of_ble_eq_true rfl) (fun κ K E => ?_)
  have K : Cx κ cX8_needRequest 1 RX8 6 90 1 6 := K
  have E : Ed κ none "needRequest" (wrV r) B 1 6 := E
  unfold f_X8_needRequest at h
  change Vw κ A 0 0 0 [(0, .inr (.inr x0))] []
  refine Vw.aload_n (pc := 0) (x := x0) K dX8_needRequest_0 rfl ?_
  obtain ⟨g1, h⟩ := wgd h
  refine Vw.getR (pc := 1) (k := 2) (f := 386) K cls6 rfl rfl u_2_59 g1 dX8_needRequest_1 ?_
  obtain ⟨g2, h⟩ := wgd h
  refine Vw.getR (pc := 4) (k := 6) (f := 134) K cls2 rfl rfl u_2_16 g2 dX8_needRequest_4 ?_
  obtain ⟨g3, h⟩ := wgd h
  refine Vw.getI (pc := 7) (k := 2) (f := 2) K cls0 rfl rfl u_1_231 g3 dX8_needRequest_7 ?_
  refine Vw.if_ne (pc := 10) (tgt := 24) K dX8_needRequest_10 (by decide) (fun c4 => ?_) (fun c4 => ?_)
  · have h := wneg c4 h
    exact Vw.vretT (pc := 24) K h E (by decide) (by decide) dX8_needRequest_24
  · have h := wpos c4 h
    exact Vw.throwW2 (pc := 13) (k := 32) K (E.thV h) rfl u_3_102 u_1_14 dX8_needRequest_13 dX8_needRequest_16 dX8_needRequest_17 dX8_needRequest_20 dX8_needRequest_23 (by decide) (Nat.le_of_ble_eq_true rfl) (by decide) (by decide)
theorem cal_X8_needRequest : wCalV RX8 yX8_needRequest (.code yX8_needRequest cX8_needRequest 1 none) 0 := ⟨by decide +kernel, u_3_128, us_1_5, u_1_1, u_3_129⟩
def f_X8_isSameSite (A : Hp) (x0 : Nat) : Option ((Int32 ⊕ Nat) × Hp) := if (hsh A x0).1 = 7 then (wtry (f_X8_needRequest A x0) fun v2 A3 => if (hsh A3 x0).1 = 7 then if (hsh A3 (hgR A3 386 x0 0)).1 = 3 then ((f_X4_isCrossSite A3 (hgR A3 386 x0 0)).bind fun v9 => (if v9 = (0 : Int32) then some (.inl (1 : Int32), A3) else some (.inl (0 : Int32), A3))) else none else none) else none
set_option maxRecDepth 100000 in
theorem s_X8_isSameSite {l : Launch} {g : GT} (hl : l.stackTraces = false) {A : Hp} {x0 : Nat} {r : Int32 ⊕ Nat} {B : Hp} (h : f_X8_isSameSite A x0 = some (r, B)) : MetV l g yX8_isSameSite (.code yX8_isSameSite cX8_isSameSite 1 (some .boolean)) [.inr (.inr x0)] A (wrI r) B 7 131 1 6 := by
  refine MetV.ofV hl (by decide +kernel) (Nat.le_of_ble_eq_true rfl) (fun κ K E => ?_)
  have K : Cx κ cX8_isSameSite 1 RX8 7 131 1 6 := K
  have E : Ed κ (some .boolean) "isSameSite" (wrI r) B 1 6 := E
  unfold f_X8_isSameSite at h
  change Vw κ A 0 0 0 [(0, .inr (.inr x0))] []
  refine Vw.aload_n (pc := 0) (x := x0) K dX8_isSameSite_0 rfl ?_
  obtain ⟨g1, h⟩ := wgd h
  rcases wtryE h with ⟨v2, A3, e4, h⟩ | ⟨x5, A3, e4, h⟩
  · refine Vw.cV0 (pc := 1) (c' := 1) (n' := 6) K (s_X8_needRequest K.tr e4) cal_X8_needRequest cls6 u_3_126 g1 rfl ⟨by decide, by decide⟩ ⟨by decide, by decide⟩ rfl (Nat.le_of_ble_eq_true rfl) dX8_isSameSite_1 rfl rfl ?_
    refine Vw.aload_n (pc := 4) (x := x0) K dX8_isSameSite_4 rfl ?_
    obtain ⟨g6, h⟩ := wgd h
    refine Vw.getR (pc := 5) (k := 2) (f := 386) K cls6 rfl rfl u_2_59 g6 dX8_isSameSite_5 ?_
    obtain ⟨g7, h⟩ := wgd h
    obtain ⟨v9, e8, h⟩ := wbd h
    refine Vw.cV1 (pc := 8) (v := .inl v9) (c' := 1) (n' := 6) K (s_X4_isCrossSite K.tr e8) cal_X4_isCrossSite cls2 u_3_131 g7 rfl ⟨by decide, by decide⟩ ⟨by decide, by decide⟩ rfl (Nat.le_of_ble_eq_true rfl) dX8_isSameSite_8 rfl rfl ?_
    refine Vw.if_ne (pc := 11) (tgt := 18) K dX8_isSameSite_11 (by decide) (fun c10 => ?_) (fun c10 => ?_)
    · have h := wneg c10 h
      refine Vw.iconst (pc := 18) (v := (0 : Int32)) K (by decide) dX8_isSameSite_18 ?_
      exact Vw.zretT (pc := 19) K (Or.inl rfl) h E (by decide) (by decide) dX8_isSameSite_19
    · have h := wpos c10 h
      refine Vw.iconst (pc := 14) (v := (1 : Int32)) K (by decide) dX8_isSameSite_14 ?_
      refine Vw.goto (pc := 15) (tgt := 19) K dX8_isSameSite_15 (by decide) ?_
      exact Vw.zretT (pc := 19) K (Or.inr rfl) h E (by decide) (by decide) dX8_isSameSite_19
  · exact Vw.cVX (pc := 1) K (s_X8_needRequest K.tr e4) cal_X8_needRequest cls6 u_3_126 g1 rfl ⟨by decide, by decide⟩ ⟨by decide, by decide⟩ rfl (Nat.le_of_ble_eq_true rfl) dX8_isSameSite_1 (E.thI h)
theorem cal_X8_isSameSite : wCalV RX8 yX8_isSameSite (.code yX8_isSameSite cX8_isSameSite 1 (some .boolean)) 0 := ⟨by decide +kernel, u_3_123, u_3_124, u_1_1, u_3_125⟩
def f_X8_needIndex (A : Hp) (x0 : Nat) (x1 : Int32) : Option ((Unit ⊕ Nat) × Hp) := (if (0 : Int32) ≤ x1 then some (.inl (), A) else some (.inr 3, hmk A 0 0))
set_option maxRecDepth 100000 in
theorem s_X8_needIndex {l : Launch} {g : GT} (hl : l.stackTraces = false) {A : Hp} {x0 : Nat} {x1 : Int32} {r : Unit ⊕ Nat} {B : Hp} (h : f_X8_needIndex A x0 x1 = some (r, B)) : MetV l g yX8_needIndex (.code yX8_needIndex cX8_needIndex 2 none) [.inr (.inr x0), .inl x1] A (wrV r) B 6 90 1 6 := by
  refine MetV.ofV hl (by decide +kernel) (Nat.le_of_ble_eq_true rfl) (fun κ K E => ?_)
  have K : Cx κ cX8_needIndex 2 RX8 6 90 1 6 := K
  have E : Ed κ none "needIndex" (wrV r) B 1 6 := E
  unfold f_X8_needIndex at h
  change Vw κ A 0 0 0 [(0, .inr (.inr x0)), (1, .inl x1)] []
  refine Vw.iload_n (pc := 0) (x := x1) K dX8_needIndex_0 rfl ?_
  refine Vw.if_ge (pc := 1) (tgt := 15) K dX8_needIndex_1 (by decide) (fun c1 => ?_) (fun c1 => ?_)
  · have h := wpos c1 h
    exact Vw.vretT (pc := 15) K h E (by decide) (by decide) dX8_needIndex_15
  · have h := wneg c1 h
    exact Vw.throwW3 (pc := 4) (k := 33) K (E.thV h) rfl u_3_178 u_1_21 dX8_needIndex_4 dX8_needIndex_7 dX8_needIndex_8 dX8_needIndex_11 dX8_needIndex_14 (by decide) (Nat.le_of_ble_eq_true rfl) (by decide) (by decide)
theorem cal_X8_needIndex : wCalV RX8 yX8_needIndex (.code yX8_needIndex cX8_needIndex 2 none) 1 := ⟨by decide +kernel, u_3_176, us_1_6, u_1_1, u_3_177⟩
def f_X8_siteChar (A : Hp) (x0 : Nat) (x1 : Int32) : Option ((Int32 ⊕ Nat) × Hp) := if (hsh A x0).1 = 7 then (wtry (f_X8_needRequest A x0) fun v2 A3 => if (hsh A3 x0).1 = 7 then (wtry (f_X8_needIndex A3 x0 x1) fun v7 A8 => if (hsh A8 x0).1 = 7 then if (hsh A8 (hgR A8 386 x0 0)).1 = 3 then if (hsh A8 (hgR A8 134 (hgR A8 386 x0 0) 0)).1 = 1 then if (hsh A8 (hgR A8 132 (hgR A8 386 x0 0) 0)).1 = 6 then ((f_X7_siteStart A8 (hgR A8 132 (hgR A8 386 x0 0) 0) (hgR A8 0 (hgR A8 134 (hgR A8 386 x0 0) 0) 0)).bind fun v16 => if (hsh A8 (hgR A8 0 (hgR A8 134 (hgR A8 386 x0 0) 0) 0)).1 = 5 then (if (hgI A8 257 (hgR A8 0 (hgR A8 134 (hgR A8 386 x0 0) 0) 0) 0) ≤ x1 then some (.inl (-1 : Int32), A8) else ((f_X6_at A8 (hgR A8 0 (hgR A8 134 (hgR A8 386 x0 0) 0) 0) (v16 + x1)).bind fun v20 => some (.inl v20, A8))) else none) else none else none else none else none) else none) else none
set_option maxRecDepth 100000 in
theorem s_X8_siteChar {l : Launch} {g : GT} (hl : l.stackTraces = false) {A : Hp} {x0 : Nat} {x1 : Int32} {r : Int32 ⊕ Nat} {B : Hp} (h : f_X8_siteChar A x0 x1 = some (r, B)) : MetV l g yX8_siteChar (.code yX8_siteChar cX8_siteChar 4 (some .int)) [.inr (.inr x0), .inl x1] A (wrI r) B 7 111 2 12 := by
  refine MetV.ofV hl (by decide +kernel) (Nat.le_of_ble_eq_true rfl) (fun κ K E => ?_)
  have K : Cx κ cX8_siteChar 4 RX8 7 111 2 12 := K
  have E : Ed κ (some .int) "siteChar" (wrI r) B 2 12 := E
  unfold f_X8_siteChar at h
  change Vw κ A 0 0 0 [(0, .inr (.inr x0)), (1, .inl x1)] []
  refine Vw.aload_n (pc := 0) (x := x0) K dX8_siteChar_0 rfl ?_
  obtain ⟨g1, h⟩ := wgd h
  rcases wtryE h with ⟨v2, A3, e4, h⟩ | ⟨x5, A3, e4, h⟩
  · refine Vw.cV0 (pc := 1) (c' := 1) (n' := 6) K (s_X8_needRequest K.tr e4) cal_X8_needRequest cls6 u_3_126 g1 rfl ⟨by decide, by decide⟩ ⟨by decide, by decide⟩ rfl (Nat.le_of_ble_eq_true rfl) dX8_siteChar_1 rfl rfl ?_
    refine Vw.aload_n (pc := 4) (x := x0) K dX8_siteChar_4 rfl ?_
    refine Vw.iload_n (pc := 5) (x := x1) K dX8_siteChar_5 rfl ?_
    obtain ⟨g6, h⟩ := wgd h
    rcases wtryE h with ⟨v7, A8, e9, h⟩ | ⟨x10, A8, e9, h⟩
    · refine Vw.cV0 (pc := 6) (c' := 2) (n' := 12) K (s_X8_needIndex K.tr e9) cal_X8_needIndex cls6 u_3_174 g6 rfl ⟨by decide, by decide⟩ ⟨by decide, by decide⟩ rfl (Nat.le_of_ble_eq_true rfl) dX8_siteChar_6 rfl rfl ?_
      refine Vw.aload_n (pc := 9) (x := x0) K dX8_siteChar_9 rfl ?_
      obtain ⟨g11, h⟩ := wgd h
      refine Vw.getR (pc := 10) (k := 2) (f := 386) K cls6 rfl rfl u_2_59 g11 dX8_siteChar_10 ?_
      obtain ⟨g12, h⟩ := wgd h
      refine Vw.getR (pc := 13) (k := 6) (f := 134) K cls2 rfl rfl u_2_16 g12 dX8_siteChar_13 ?_
      obtain ⟨g13, h⟩ := wgd h
      refine Vw.getR (pc := 16) (k := 0) (f := 0) K cls0 rfl rfl u_1_226 g13 dX8_siteChar_16 ?_
      refine Vw.astore_n (pc := 19) K dX8_siteChar_19 (by decide) ?_
      refine Vw.aload_n (pc := 20) (x := x0) K dX8_siteChar_20 rfl ?_
      refine Vw.getR (pc := 21) (k := 2) (f := 386) K cls6 rfl rfl u_2_59 g11 dX8_siteChar_21 ?_
      refine Vw.getR (pc := 24) (k := 4) (f := 132) K cls2 rfl rfl u_2_12 g12 dX8_siteChar_24 ?_
      refine Vw.aload_n (pc := 27) (x := (hgR A8 0 (hgR A8 134 (hgR A8 386 x0 0) 0) 0)) K dX8_siteChar_27 rfl ?_
      obtain ⟨g14, h⟩ := wgd h
      obtain ⟨v16, e15, h⟩ := wbd h
      refine Vw.cV1 (pc := 28) (v := .inl v16) (c' := 2) (n' := 12) K (s_X7_siteStart K.tr e15) cal_X7_siteStart cls5 u_3_194 g14 rfl ⟨by decide, by decide⟩ ⟨by decide, by decide⟩ rfl (Nat.le_of_ble_eq_true rfl) dX8_siteChar_28 rfl rfl ?_
      refine Vw.istore_n (pc := 31) K dX8_siteChar_31 (by decide) ?_
      refine Vw.iload_n (pc := 32) (x := x1) K dX8_siteChar_32 rfl ?_
      refine Vw.aload_n (pc := 33) (x := (hgR A8 0 (hgR A8 134 (hgR A8 386 x0 0) 0) 0)) K dX8_siteChar_33 rfl ?_
      obtain ⟨g17, h⟩ := wgd h
      refine Vw.getI (pc := 34) (k := 1) (f := 257) K cls4 rfl rfl u_1_46 g17 dX8_siteChar_34 ?_
      refine Vw.icmp_ge (pc := 37) (tgt := 50) K dX8_siteChar_37 (by decide) (fun c18 => ?_) (fun c18 => ?_)
      · have h := wpos c18 h
        refine Vw.iconst (pc := 50) (v := (-1 : Int32)) K (by decide) dX8_siteChar_50 ?_
        exact Vw.iretT (pc := 51) K h E (by decide) (by decide) dX8_siteChar_51
      · have h := wneg c18 h
        refine Vw.aload_n (pc := 40) (x := (hgR A8 0 (hgR A8 134 (hgR A8 386 x0 0) 0) 0)) K dX8_siteChar_40 rfl ?_
        refine Vw.iload_n (pc := 41) (x := v16) K dX8_siteChar_41 rfl ?_
        refine Vw.iload_n (pc := 42) (x := x1) K dX8_siteChar_42 rfl ?_
        refine Vw.iadd (pc := 43) K dX8_siteChar_43 ?_
        obtain ⟨v20, e19, h⟩ := wbd h
        refine Vw.cV1 (pc := 44) (v := .inl v20) (c' := 2) (n' := 12) K (s_X6_at K.tr e19) cal_X6_at cls4 u_3_195 g17 rfl ⟨by decide, by decide⟩ ⟨by decide, by decide⟩ rfl (Nat.le_of_ble_eq_true rfl) dX8_siteChar_44 rfl rfl ?_
        refine Vw.goto (pc := 47) (tgt := 51) K dX8_siteChar_47 (by decide) ?_
        exact Vw.iretT (pc := 51) K h E (by decide) (by decide) dX8_siteChar_51
    · exact Vw.cVX (pc := 6) K (s_X8_needIndex K.tr e9) cal_X8_needIndex cls6 u_3_174 g6 rfl ⟨by decide, by decide⟩ ⟨by decide, by decide⟩ rfl (Nat.le_of_ble_eq_true rfl) dX8_siteChar_6 (E.thI h)
  · exact Vw.cVX (pc := 1) K (s_X8_needRequest K.tr e4) cal_X8_needRequest cls6 u_3_126 g1 rfl ⟨by decide, by decide⟩ ⟨by decide, by decide⟩ rfl (Nat.le_of_ble_eq_true rfl) dX8_siteChar_1 (E.thI h)
theorem cal_X8_siteChar : wCalV RX8 yX8_siteChar (.code yX8_siteChar cX8_siteChar 4 (some .int)) 1 := ⟨by decide +kernel, u_3_171, u_3_172, u_1_1, u_3_173⟩
def f_X8_addSuffix (A : Hp) (x0 : Nat) : Option ((Int32 ⊕ Nat) × Hp) := if (hsh A x0).1 = 7 then ((f_X3_isDomain A (hgR A 384 x0 0)).bind fun v3 => (if v3 = (0 : Int32) then some (.inr 1, hmk A 0 0) else if (hsh A (hgR A 386 x0 0)).1 = 3 then if (hsh A (hgR A 132 (hgR A 386 x0 0) 0)).1 = 6 then ((f_X7_has A (hgR A 132 (hgR A 386 x0 0) 0) (hgR A 384 x0 0)).bind fun v8 => (if v8 = (0 : Int32) then (if (hgI A 321 (hgR A 132 (hgR A 386 x0 0) 0) 0) < (6 : Int32) then ((f_X7_append A (hgR A 132 (hgR A 386 x0 0) 0) (hgR A 384 x0 0)).bind fun A12 => if (hsh A12 x0).1 = 7 then if (hsh A12 (hgR A12 384 x0 0)).1 = 5 then ((f_X6_empty A12 (hgR A12 384 x0 0)).bind fun A16 => if (hsh A16 x0).1 = 7 then if (hsh A16 (hgR A16 386 x0 0)).1 = 3 then if (hsh A16 (hgR A16 132 (hgR A16 386 x0 0) 0)).1 = 6 then some (.inl (hgI A16 321 (hgR A16 132 (hgR A16 386 x0 0) 0) 0), A16) else none else none else none) else none else none) else some (.inr 2, hmk A 0 0)) else some (.inr 1, hmk A 0 0))) else none else none)) else none
set_option maxRecDepth 100000 in
theorem s_X8_addSuffix {l : Launch} {g : GT} (hl : l.stackTraces = false) {A : Hp} {x0 : Nat} {r : Int32 ⊕ Nat} {B : Hp} (h : f_X8_addSuffix A x0 = some (r, B)) : MetV l g yX8_addSuffix (.code yX8_addSuffix cX8_addSuffix 1 (some .int)) [.inr (.inr x0)] A (wrI r) B 6 94 1 6 := by
  refine MetV.ofV hl (by decide +kernel) (Nat.le_of_ble_eq_true rfl) (fun κ K E => ?_)
  have K : Cx κ cX8_addSuffix 1 RX8 6 94 1 6 := K
  have E : Ed κ (some .int) "addSuffix" (wrI r) B 1 6 := E
  unfold f_X8_addSuffix at h
  change Vw κ A 0 0 0 [(0, .inr (.inr x0))] []
  refine Vw.aload_n (pc := 0) (x := x0) K dX8_addSuffix_0 rfl ?_
  obtain ⟨g1, h⟩ := wgd h
  refine Vw.getR (pc := 1) (k := 0) (f := 384) K cls6 rfl rfl u_2_57 g1 dX8_addSuffix_1 ?_
  obtain ⟨v3, e2, h⟩ := wbd h
  refine Vw.cS1 (pc := 4) (v := .inl v3) (c' := 0) (n' := 0) K (s_X3_isDomain K.tr e2) cal_X3_isDomain u_3_203 rfl ⟨by decide, by decide⟩ ⟨by decide, by decide⟩ rfl (Nat.le_of_ble_eq_true rfl) dX8_addSuffix_4 rfl rfl ?_
  refine Vw.if_ne (pc := 7) (tgt := 20) K dX8_addSuffix_7 (by decide) (fun c4 => ?_) (fun c4 => ?_)
  · have h := wneg c4 h
    refine Vw.aload_n (pc := 20) (x := x0) K dX8_addSuffix_20 rfl ?_
    refine Vw.getR (pc := 21) (k := 2) (f := 386) K cls6 rfl rfl u_2_59 g1 dX8_addSuffix_21 ?_
    obtain ⟨g5, h⟩ := wgd h
    refine Vw.getR (pc := 24) (k := 4) (f := 132) K cls2 rfl rfl u_2_12 g5 dX8_addSuffix_24 ?_
    refine Vw.aload_n (pc := 27) (x := x0) K dX8_addSuffix_27 rfl ?_
    refine Vw.getR (pc := 28) (k := 0) (f := 384) K cls6 rfl rfl u_2_57 g1 dX8_addSuffix_28 ?_
    obtain ⟨g6, h⟩ := wgd h
    obtain ⟨v8, e7, h⟩ := wbd h
    refine Vw.cV1 (pc := 31) (v := .inl v8) (c' := 0) (n' := 0) K (s_X7_has K.tr e7) cal_X7_has cls5 u_3_209 g6 rfl ⟨by decide, by decide⟩ ⟨by decide, by decide⟩ rfl (Nat.le_of_ble_eq_true rfl) dX8_addSuffix_31 rfl rfl ?_
    refine Vw.if_eq (pc := 34) (tgt := 47) K dX8_addSuffix_34 (by decide) (fun c9 => ?_) (fun c9 => ?_)
    · have h := wpos c9 h
      refine Vw.aload_n (pc := 47) (x := x0) K dX8_addSuffix_47 rfl ?_
      refine Vw.getR (pc := 48) (k := 2) (f := 386) K cls6 rfl rfl u_2_59 g1 dX8_addSuffix_48 ?_
      refine Vw.getR (pc := 51) (k := 4) (f := 132) K cls2 rfl rfl u_2_12 g5 dX8_addSuffix_51 ?_
      refine Vw.getI (pc := 54) (k := 1) (f := 321) K cls5 rfl rfl u_1_209 g6 dX8_addSuffix_54 ?_
      refine Vw.bipush (pc := 57) (v := (6 : Int32)) K (by decide) dX8_addSuffix_57 ?_
      refine Vw.icmp_lt (pc := 59) (tgt := 72) K dX8_addSuffix_59 (by decide) (fun c10 => ?_) (fun c10 => ?_)
      · have h := wpos c10 h
        refine Vw.aload_n (pc := 72) (x := x0) K dX8_addSuffix_72 rfl ?_
        refine Vw.getR (pc := 73) (k := 2) (f := 386) K cls6 rfl rfl u_2_59 g1 dX8_addSuffix_73 ?_
        refine Vw.getR (pc := 76) (k := 4) (f := 132) K cls2 rfl rfl u_2_12 g5 dX8_addSuffix_76 ?_
        refine Vw.aload_n (pc := 79) (x := x0) K dX8_addSuffix_79 rfl ?_
        refine Vw.getR (pc := 80) (k := 0) (f := 384) K cls6 rfl rfl u_2_57 g1 dX8_addSuffix_80 ?_
        obtain ⟨A12, e11, h⟩ := wbd h
        refine Vw.cV0 (pc := 83) (c' := 0) (n' := 0) K (s_X7_append K.tr e11) cal_X7_append cls5 u_3_219 g6 rfl ⟨by decide, by decide⟩ ⟨by decide, by decide⟩ rfl (Nat.le_of_ble_eq_true rfl) dX8_addSuffix_83 rfl rfl ?_
        refine Vw.aload_n (pc := 86) (x := x0) K dX8_addSuffix_86 rfl ?_
        obtain ⟨g13, h⟩ := wgd h
        refine Vw.getR (pc := 87) (k := 0) (f := 384) K cls6 rfl rfl u_2_57 g13 dX8_addSuffix_87 ?_
        obtain ⟨g14, h⟩ := wgd h
        obtain ⟨A16, e15, h⟩ := wbd h
        refine Vw.cV0 (pc := 90) (c' := 0) (n' := 0) K (s_X6_empty K.tr e15) cal_X6_empty cls4 u_2_74 g14 rfl ⟨by decide, by decide⟩ ⟨by decide, by decide⟩ rfl (Nat.le_of_ble_eq_true rfl) dX8_addSuffix_90 rfl rfl ?_
        refine Vw.aload_n (pc := 93) (x := x0) K dX8_addSuffix_93 rfl ?_
        obtain ⟨g17, h⟩ := wgd h
        refine Vw.getR (pc := 94) (k := 2) (f := 386) K cls6 rfl rfl u_2_59 g17 dX8_addSuffix_94 ?_
        obtain ⟨g18, h⟩ := wgd h
        refine Vw.getR (pc := 97) (k := 4) (f := 132) K cls2 rfl rfl u_2_12 g18 dX8_addSuffix_97 ?_
        obtain ⟨g19, h⟩ := wgd h
        refine Vw.getI (pc := 100) (k := 1) (f := 321) K cls5 rfl rfl u_1_209 g19 dX8_addSuffix_100 ?_
        exact Vw.iretT (pc := 103) K h E (by decide) (by decide) dX8_addSuffix_103
      · have h := wneg c10 h
        exact Vw.throwS2 (pc := 62) (k := 24) K (E.thI h) rfl u_3_102 u_1_14 dX8_addSuffix_62 dX8_addSuffix_65 dX8_addSuffix_66 dX8_addSuffix_68 dX8_addSuffix_71 (by decide) (Nat.le_of_ble_eq_true rfl) (by decide) (by decide)
    · have h := wneg c9 h
      exact Vw.throwS1 (pc := 37) (k := 23) K (E.thI h) rfl u_3_35 u_1_13 dX8_addSuffix_37 dX8_addSuffix_40 dX8_addSuffix_41 dX8_addSuffix_43 dX8_addSuffix_46 (by decide) (Nat.le_of_ble_eq_true rfl) (by decide) (by decide)
  · have h := wpos c4 h
    exact Vw.throwS1 (pc := 10) (k := 22) K (E.thI h) rfl u_3_35 u_1_13 dX8_addSuffix_10 dX8_addSuffix_13 dX8_addSuffix_14 dX8_addSuffix_16 dX8_addSuffix_19 (by decide) (Nat.le_of_ble_eq_true rfl) (by decide) (by decide)
theorem cal_X8_addSuffix : wCalV RX8 yX8_addSuffix (.code yX8_addSuffix cX8_addSuffix 1 (some .int)) 0 := ⟨by decide +kernel, u_3_200, u_3_201, u_1_1, u_3_202⟩
def k_X8_receive_45  (A : Hp) (x0 : Nat) (x2 : Int32)  : Option ((Int32 ⊕ Nat) × Hp) := if (hsh A x0).1 = 7 then if (hsh A (hgR A 386 x0 0)).1 = 3 then ((f_X4_evict A (hgR A 386 x0 0)).bind fun A4 => some (.inl x2, A4)) else none else none
set_option maxRecDepth 100000 in
theorem s_X8_receive_45 {κ : KT} {r : Int32 ⊕ Nat} {B : Hp} {A : Hp} {x0 : Nat} {x2 : Int32}   (K : Cx κ cX8_receive 3 RX8 9 204 1 6) (E : Ed κ (some .int) "receive" (wrI r) B 1 6)  (h : k_X8_receive_45  A x0 x2  = some (r, B)) : Vw κ A 1 6 45 [(0, .inr (.inr x0)), (2, .inl x2)] [] := by
  unfold k_X8_receive_45 at h
  refine Vw.aload_n (pc := 45) (x := x0) K dX8_receive_45 rfl ?_
  obtain ⟨g1, h⟩ := wgd h
  refine Vw.getR (pc := 46) (k := 2) (f := 386) K cls6 rfl rfl u_2_59 g1 dX8_receive_46 ?_
  obtain ⟨g2, h⟩ := wgd h
  obtain ⟨A4, e3, h⟩ := wbd h
  refine Vw.cV0 (pc := 49) (c' := 1) (n' := 6) K (s_X4_evict K.tr e3) cal_X4_evict cls2 u_4_215 g2 rfl ⟨by decide, by decide⟩ ⟨by decide, by decide⟩ rfl (Nat.le_of_ble_eq_true rfl) dX8_receive_49 rfl rfl ?_
  refine Vw.iload_n (pc := 52) (x := x2) K dX8_receive_52 rfl ?_
  exact Vw.iretT (pc := 53) K h E (by decide) (by decide) dX8_receive_53
def f_X8_receive (A : Hp) (x0 : Nat) (x1 : Int32) : Option ((Int32 ⊕ Nat) × Hp) := if (hsh A x0).1 = 7 then (wtry (f_X8_needRequest A x0) fun v6 A7 => if (hsh A7 x0).1 = 7 then if (hsh A7 (hgR A7 385 x0 0)).1 = 4 then ((f_X5_read A7 (hgR A7 385 x0 0) (hgR A7 384 x0 0)).bind fun A13 => if (hsh A13 x0).1 = 7 then if (hsh A13 (hgR A13 384 x0 0)).1 = 5 then ((f_X6_empty A13 (hgR A13 384 x0 0)).bind fun A17 => if (hsh A17 x0).1 = 7 then if (hsh A17 (hgR A17 386 x0 0)).1 = 3 then ((f_X4_accept A17 (hgR A17 386 x0 0) (hgR A17 385 x0 0) x1).bind fun p21 => (if p21.1 = (1 : Int32) then k_X8_receive_45 p21.2 x0 p21.1 else (if p21.1 = (2 : Int32) then k_X8_receive_45 p21.2 x0 p21.1 else some (.inl p21.1, p21.2)))) else none else none) else none else none) else none else none) else none
set_option maxRecDepth 100000 in
theorem s_X8_receive {l : Launch} {g : GT} (hl : l.stackTraces = false) {A : Hp} {x0 : Nat} {x1 : Int32} {r : Int32 ⊕ Nat} {B : Hp} (h : f_X8_receive A x0 x1 = some (r, B)) : MetV l g yX8_receive (.code yX8_receive cX8_receive 3 (some .int)) [.inr (.inr x0), .inl x1] A (wrI r) B 9 204 1 6 := by
  refine MetV.ofV hl (by decide +kernel) (Nat.le_of_ble_eq_true rfl) (fun κ K E => ?_)
  have K : Cx κ cX8_receive 3 RX8 9 204 1 6 := K
  have E : Ed κ (some .int) "receive" (wrI r) B 1 6 := E
  unfold f_X8_receive at h
  change Vw κ A 0 0 0 [(0, .inr (.inr x0)), (1, .inl x1)] []
  refine Vw.aload_n (pc := 0) (x := x0) K dX8_receive_0 rfl ?_
  obtain ⟨g5, h⟩ := wgd h
  rcases wtryE h with ⟨v6, A7, e8, h⟩ | ⟨x9, A7, e8, h⟩
  · refine Vw.cV0 (pc := 1) (c' := 1) (n' := 6) K (s_X8_needRequest K.tr e8) cal_X8_needRequest cls6 u_3_126 g5 rfl ⟨by decide, by decide⟩ ⟨by decide, by decide⟩ rfl (Nat.le_of_ble_eq_true rfl) dX8_receive_1 rfl rfl ?_
    refine Vw.aload_n (pc := 4) (x := x0) K dX8_receive_4 rfl ?_
    obtain ⟨g10, h⟩ := wgd h
    refine Vw.getR (pc := 5) (k := 1) (f := 385) K cls6 rfl rfl u_2_58 g10 dX8_receive_5 ?_
    refine Vw.aload_n (pc := 8) (x := x0) K dX8_receive_8 rfl ?_
    refine Vw.getR (pc := 9) (k := 0) (f := 384) K cls6 rfl rfl u_2_57 g10 dX8_receive_9 ?_
    obtain ⟨g11, h⟩ := wgd h
    obtain ⟨A13, e12, h⟩ := wbd h
    refine Vw.cV0 (pc := 12) (c' := 1) (n' := 6) K (s_X5_read K.tr e12) cal_X5_read cls3 u_3_235 g11 rfl ⟨by decide, by decide⟩ ⟨by decide, by decide⟩ rfl (Nat.le_of_ble_eq_true rfl) dX8_receive_12 rfl rfl ?_
    refine Vw.aload_n (pc := 15) (x := x0) K dX8_receive_15 rfl ?_
    obtain ⟨g14, h⟩ := wgd h
    refine Vw.getR (pc := 16) (k := 0) (f := 384) K cls6 rfl rfl u_2_57 g14 dX8_receive_16 ?_
    obtain ⟨g15, h⟩ := wgd h
    obtain ⟨A17, e16, h⟩ := wbd h
    refine Vw.cV0 (pc := 19) (c' := 1) (n' := 6) K (s_X6_empty K.tr e16) cal_X6_empty cls4 u_2_74 g15 rfl ⟨by decide, by decide⟩ ⟨by decide, by decide⟩ rfl (Nat.le_of_ble_eq_true rfl) dX8_receive_19 rfl rfl ?_
    refine Vw.aload_n (pc := 22) (x := x0) K dX8_receive_22 rfl ?_
    obtain ⟨g18, h⟩ := wgd h
    refine Vw.getR (pc := 23) (k := 2) (f := 386) K cls6 rfl rfl u_2_59 g18 dX8_receive_23 ?_
    refine Vw.aload_n (pc := 26) (x := x0) K dX8_receive_26 rfl ?_
    refine Vw.getR (pc := 27) (k := 1) (f := 385) K cls6 rfl rfl u_2_58 g18 dX8_receive_27 ?_
    refine Vw.iload_n (pc := 30) (x := x1) K dX8_receive_30 rfl ?_
    obtain ⟨g19, h⟩ := wgd h
    obtain ⟨p21, e20, h⟩ := wbd h
    refine Vw.cV1 (pc := 31) (v := .inl p21.1) (c' := 1) (n' := 6) K (s_X4_accept K.tr e20) cal_X4_accept cls2 u_4_98 g19 rfl ⟨by decide, by decide⟩ ⟨by decide, by decide⟩ rfl (Nat.le_of_ble_eq_true rfl) dX8_receive_31 rfl rfl ?_
    refine Vw.istore_n (pc := 34) K dX8_receive_34 (by decide) ?_
    refine Vw.iload_n (pc := 35) (x := p21.1) K dX8_receive_35 rfl ?_
    refine Vw.iconst (pc := 36) (v := (1 : Int32)) K (by decide) dX8_receive_36 ?_
    refine Vw.icmp_eq (pc := 37) (tgt := 45) K dX8_receive_37 (by decide) (fun c22 => ?_) (fun c22 => ?_)
    · have h := wpos c22 h
      exact Vw.loc rfl (s_X8_receive_45 K E  h)
    · have h := wneg c22 h
      refine Vw.iload_n (pc := 40) (x := p21.1) K dX8_receive_40 rfl ?_
      refine Vw.iconst (pc := 41) (v := (2 : Int32)) K (by decide) dX8_receive_41 ?_
      refine Vw.icmp_ne (pc := 42) (tgt := 52) K dX8_receive_42 (by decide) (fun c23 => ?_) (fun c23 => ?_)
      · have h := wneg c23 h
        refine Vw.iload_n (pc := 52) (x := p21.1) K dX8_receive_52 rfl ?_
        exact Vw.iretT (pc := 53) K h E (by decide) (by decide) dX8_receive_53
      · have h := wpos c23 h
        exact Vw.loc rfl (s_X8_receive_45 K E  h)
  · exact Vw.cVX (pc := 1) K (s_X8_needRequest K.tr e8) cal_X8_needRequest cls6 u_3_126 g5 rfl ⟨by decide, by decide⟩ ⟨by decide, by decide⟩ rfl (Nat.le_of_ble_eq_true rfl) dX8_receive_1 (E.thI h)
theorem cal_X8_receive : wCalV RX8 yX8_receive (.code yX8_receive cX8_receive 3 (some .int)) 1 := ⟨by decide +kernel, u_3_232, u_3_233, u_1_1, u_3_234⟩
def k_X8_rejection_19  (A : Hp) (x0 : Nat) (x1 : Int32)  : Option ((Int32 ⊕ Nat) × Hp) := (if x1 = (0 : Int32) then if (hsh A x0).1 = 7 then if (hsh A (hgR A 386 x0 0)).1 = 3 then some (.inl ((hgI A 139 (hgR A 386 x0 0) 0) / (10 : Int32)), A) else none else none else if (hsh A x0).1 = 7 then if (hsh A (hgR A 386 x0 0)).1 = 3 then some (.inl (hgI A 139 (hgR A 386 x0 0) 0), A) else none else none)
set_option maxRecDepth 100000 in
theorem s_X8_rejection_19 {κ : KT} {r : Int32 ⊕ Nat} {B : Hp} {A : Hp} {x0 : Nat} {x1 : Int32}   (K : Cx κ cX8_rejection 2 RX8 6 90 1 6) (E : Ed κ (some .int) "rejection" (wrI r) B 1 6)  (h : k_X8_rejection_19  A x0 x1  = some (r, B)) : Vw κ A 0 0 19 [(0, .inr (.inr x0)), (1, .inl x1)] [] := by
  unfold k_X8_rejection_19 at h
  refine Vw.iload_n (pc := 19) (x := x1) K dX8_rejection_19 rfl ?_
  refine Vw.if_ne (pc := 20) (tgt := 36) K dX8_rejection_20 (by decide) (fun c1 => ?_) (fun c1 => ?_)
  · have h := wneg c1 h
    refine Vw.aload_n (pc := 36) (x := x0) K dX8_rejection_36 rfl ?_
    obtain ⟨g2, h⟩ := wgd h
    refine Vw.getR (pc := 37) (k := 2) (f := 386) K cls6 rfl rfl u_2_59 g2 dX8_rejection_37 ?_
    obtain ⟨g3, h⟩ := wgd h
    refine Vw.getI (pc := 40) (k := 11) (f := 139) K cls2 rfl rfl u_2_26 g3 dX8_rejection_40 ?_
    exact Vw.iretT (pc := 43) K h E (by decide) (by decide) dX8_rejection_43
  · have h := wpos c1 h
    refine Vw.aload_n (pc := 23) (x := x0) K dX8_rejection_23 rfl ?_
    obtain ⟨g4, h⟩ := wgd h
    refine Vw.getR (pc := 24) (k := 2) (f := 386) K cls6 rfl rfl u_2_59 g4 dX8_rejection_24 ?_
    obtain ⟨g5, h⟩ := wgd h
    refine Vw.getI (pc := 27) (k := 11) (f := 139) K cls2 rfl rfl u_2_26 g5 dX8_rejection_27 ?_
    refine Vw.bipush (pc := 30) (v := (10 : Int32)) K (by decide) dX8_rejection_30 ?_
    refine Vw.idiv (pc := 32) K (by decide) dX8_rejection_32 ?_
    refine Vw.goto (pc := 33) (tgt := 43) K dX8_rejection_33 (by decide) ?_
    exact Vw.iretT (pc := 43) K h E (by decide) (by decide) dX8_rejection_43
def f_X8_rejection (A : Hp) (x0 : Nat) (x1 : Int32) : Option ((Int32 ⊕ Nat) × Hp) := (if x1 = (0 : Int32) then k_X8_rejection_19 A x0 x1 else (if x1 = (1 : Int32) then k_X8_rejection_19 A x0 x1 else some (.inr 3, hmk A 0 0)))
set_option maxRecDepth 100000 in
theorem s_X8_rejection {l : Launch} {g : GT} (hl : l.stackTraces = false) {A : Hp} {x0 : Nat} {x1 : Int32} {r : Int32 ⊕ Nat} {B : Hp} (h : f_X8_rejection A x0 x1 = some (r, B)) : MetV l g yX8_rejection (.code yX8_rejection cX8_rejection 2 (some .int)) [.inr (.inr x0), .inl x1] A (wrI r) B 6 90 1 6 := by
  refine MetV.ofV hl (by decide +kernel) (Nat.le_of_ble_eq_true rfl) (fun κ K E => ?_)
  have K : Cx κ cX8_rejection 2 RX8 6 90 1 6 := K
  have E : Ed κ (some .int) "rejection" (wrI r) B 1 6 := E
  unfold f_X8_rejection at h
  change Vw κ A 0 0 0 [(0, .inr (.inr x0)), (1, .inl x1)] []
  refine Vw.iload_n (pc := 0) (x := x1) K dX8_rejection_0 rfl ?_
  refine Vw.if_eq (pc := 1) (tgt := 19) K dX8_rejection_1 (by decide) (fun c6 => ?_) (fun c6 => ?_)
  · have h := wpos c6 h
    exact Vw.loc rfl (s_X8_rejection_19 K E  h)
  · have h := wneg c6 h
    refine Vw.iload_n (pc := 4) (x := x1) K dX8_rejection_4 rfl ?_
    refine Vw.iconst (pc := 5) (v := (1 : Int32)) K (by decide) dX8_rejection_5 ?_
    refine Vw.icmp_eq (pc := 6) (tgt := 19) K dX8_rejection_6 (by decide) (fun c7 => ?_) (fun c7 => ?_)
    · have h := wpos c7 h
      exact Vw.loc rfl (s_X8_rejection_19 K E  h)
    · have h := wneg c7 h
      exact Vw.throwS3 (pc := 9) (k := 25) K (E.thI h) rfl u_3_178 u_1_21 dX8_rejection_9 dX8_rejection_12 dX8_rejection_13 dX8_rejection_15 dX8_rejection_18 (by decide) (Nat.le_of_ble_eq_true rfl) (by decide) (by decide)
theorem cal_X8_rejection : wCalV RX8 yX8_rejection (.code yX8_rejection cX8_rejection 2 (some .int)) 1 := ⟨by decide +kernel, u_4_236, u_4_237, u_1_1, u_4_238⟩
def f_X8_send (A : Hp) (x0 : Nat) (x1 : Int32) (x2 : Int32) : Option ((Int32 ⊕ Nat) × Hp) := if (hsh A x0).1 = 7 then (wtry (f_X8_needRequest A x0) fun v2 A3 => if (hsh A3 x0).1 = 7 then if (hsh A3 (hgR A3 386 x0 0)).1 = 3 then ((f_X4_isCrossSite A3 (hgR A3 386 x0 0)).bind fun v9 => ((f_X4_writeHeader A3 (hgR A3 386 x0 0) v9 x1 x2).bind fun p11 => some (.inl p11.1, p11.2))) else none else none) else none
set_option maxRecDepth 100000 in
theorem s_X8_send {l : Launch} {g : GT} (hl : l.stackTraces = false) {A : Hp} {x0 : Nat} {x1 : Int32} {x2 : Int32} {r : Int32 ⊕ Nat} {B : Hp} (h : f_X8_send A x0 x1 x2 = some (r, B)) : MetV l g yX8_send (.code yX8_send cX8_send 3 (some .int)) [.inr (.inr x0), .inl x1, .inl x2] A (wrI r) B 7 131 1 6 := by
  refine MetV.ofV hl (by decide +kernel) (Nat.le_of_ble_eq_true rfl) (fun κ K E => ?_)
  have K : Cx κ cX8_send 3 RX8 7 131 1 6 := K
  have E : Ed κ (some .int) "send" (wrI r) B 1 6 := E
  unfold f_X8_send at h
  change Vw κ A 0 0 0 [(0, .inr (.inr x0)), (1, .inl x1), (2, .inl x2)] []
  refine Vw.aload_n (pc := 0) (x := x0) K dX8_send_0 rfl ?_
  obtain ⟨g1, h⟩ := wgd h
  rcases wtryE h with ⟨v2, A3, e4, h⟩ | ⟨x5, A3, e4, h⟩
  · refine Vw.cV0 (pc := 1) (c' := 1) (n' := 6) K (s_X8_needRequest K.tr e4) cal_X8_needRequest cls6 u_3_126 g1 rfl ⟨by decide, by decide⟩ ⟨by decide, by decide⟩ rfl (Nat.le_of_ble_eq_true rfl) dX8_send_1 rfl rfl ?_
    refine Vw.aload_n (pc := 4) (x := x0) K dX8_send_4 rfl ?_
    obtain ⟨g6, h⟩ := wgd h
    refine Vw.getR (pc := 5) (k := 2) (f := 386) K cls6 rfl rfl u_2_59 g6 dX8_send_5 ?_
    refine Vw.aload_n (pc := 8) (x := x0) K dX8_send_8 rfl ?_
    refine Vw.getR (pc := 9) (k := 2) (f := 386) K cls6 rfl rfl u_2_59 g6 dX8_send_9 ?_
    obtain ⟨g7, h⟩ := wgd h
    obtain ⟨v9, e8, h⟩ := wbd h
    refine Vw.cV1 (pc := 12) (v := .inl v9) (c' := 1) (n' := 6) K (s_X4_isCrossSite K.tr e8) cal_X4_isCrossSite cls2 u_3_131 g7 rfl ⟨by decide, by decide⟩ ⟨by decide, by decide⟩ rfl (Nat.le_of_ble_eq_true rfl) dX8_send_12 rfl rfl ?_
    refine Vw.iload_n (pc := 15) (x := x1) K dX8_send_15 rfl ?_
    refine Vw.iload_n (pc := 16) (x := x2) K dX8_send_16 rfl ?_
    obtain ⟨p11, e10, h⟩ := wbd h
    refine Vw.cV1 (pc := 17) (v := .inl p11.1) (c' := 1) (n' := 6) K (s_X4_writeHeader K.tr e10) cal_X4_writeHeader cls2 u_5_7 g7 rfl ⟨by decide, by decide⟩ ⟨by decide, by decide⟩ rfl (Nat.le_of_ble_eq_true rfl) dX8_send_17 rfl rfl ?_
    exact Vw.iretT (pc := 20) K h E (by decide) (by decide) dX8_send_20
  · exact Vw.cVX (pc := 1) K (s_X8_needRequest K.tr e4) cal_X8_needRequest cls6 u_3_126 g1 rfl ⟨by decide, by decide⟩ ⟨by decide, by decide⟩ rfl (Nat.le_of_ble_eq_true rfl) dX8_send_1 (E.thI h)
theorem cal_X8_send : wCalV RX8 yX8_send (.code yX8_send cX8_send 3 (some .int)) 2 := ⟨by decide +kernel, u_5_4, u_5_5, u_1_1, u_5_6⟩
def f_X8_headerChar (A : Hp) (x0 : Nat) (x1 : Int32) : Option ((Int32 ⊕ Nat) × Hp) := if (hsh A x0).1 = 7 then (wtry (f_X8_needIndex A x0 x1) fun v2 A3 => if (hsh A3 x0).1 = 7 then if (hsh A3 (hgR A3 386 x0 0)).1 = 3 then if (hsh A3 (hgR A3 135 (hgR A3 386 x0 0) 0)).1 = 5 then ((f_X6_at A3 (hgR A3 135 (hgR A3 386 x0 0) 0) x1).bind fun v10 => some (.inl v10, A3)) else none else none else none) else none
set_option maxRecDepth 100000 in
theorem s_X8_headerChar {l : Launch} {g : GT} (hl : l.stackTraces = false) {A : Hp} {x0 : Nat} {x1 : Int32} {r : Int32 ⊕ Nat} {B : Hp} (h : f_X8_headerChar A x0 x1 = some (r, B)) : MetV l g yX8_headerChar (.code yX8_headerChar cX8_headerChar 2 (some .int)) [.inr (.inr x0), .inl x1] A (wrI r) B 7 111 1 6 := by
  refine MetV.ofV hl (by decide +kernel) (Nat.le_of_ble_eq_true rfl) (fun κ K E => ?_)
  have K : Cx κ cX8_headerChar 2 RX8 7 111 1 6 := K
  have E : Ed κ (some .int) "headerChar" (wrI r) B 1 6 := E
  unfold f_X8_headerChar at h
  change Vw κ A 0 0 0 [(0, .inr (.inr x0)), (1, .inl x1)] []
  refine Vw.aload_n (pc := 0) (x := x0) K dX8_headerChar_0 rfl ?_
  refine Vw.iload_n (pc := 1) (x := x1) K dX8_headerChar_1 rfl ?_
  obtain ⟨g1, h⟩ := wgd h
  rcases wtryE h with ⟨v2, A3, e4, h⟩ | ⟨x5, A3, e4, h⟩
  · refine Vw.cV0 (pc := 2) (c' := 1) (n' := 6) K (s_X8_needIndex K.tr e4) cal_X8_needIndex cls6 u_3_174 g1 rfl ⟨by decide, by decide⟩ ⟨by decide, by decide⟩ rfl (Nat.le_of_ble_eq_true rfl) dX8_headerChar_2 rfl rfl ?_
    refine Vw.aload_n (pc := 5) (x := x0) K dX8_headerChar_5 rfl ?_
    obtain ⟨g6, h⟩ := wgd h
    refine Vw.getR (pc := 6) (k := 2) (f := 386) K cls6 rfl rfl u_2_59 g6 dX8_headerChar_6 ?_
    obtain ⟨g7, h⟩ := wgd h
    refine Vw.getR (pc := 9) (k := 7) (f := 135) K cls2 rfl rfl u_2_18 g7 dX8_headerChar_9 ?_
    refine Vw.iload_n (pc := 12) (x := x1) K dX8_headerChar_12 rfl ?_
    obtain ⟨g8, h⟩ := wgd h
    obtain ⟨v10, e9, h⟩ := wbd h
    refine Vw.cV1 (pc := 13) (v := .inl v10) (c' := 1) (n' := 6) K (s_X6_at K.tr e9) cal_X6_at cls4 u_3_195 g8 rfl ⟨by decide, by decide⟩ ⟨by decide, by decide⟩ rfl (Nat.le_of_ble_eq_true rfl) dX8_headerChar_13 rfl rfl ?_
    exact Vw.iretT (pc := 16) K h E (by decide) (by decide) dX8_headerChar_16
  · exact Vw.cVX (pc := 2) K (s_X8_needIndex K.tr e4) cal_X8_needIndex cls6 u_3_174 g1 rfl ⟨by decide, by decide⟩ ⟨by decide, by decide⟩ rfl (Nat.le_of_ble_eq_true rfl) dX8_headerChar_2 (E.thI h)
theorem cal_X8_headerChar : wCalV RX8 yX8_headerChar (.code yX8_headerChar cX8_headerChar 2 (some .int)) 1 := ⟨by decide +kernel, u_5_37, u_5_38, u_1_1, u_5_39⟩
def f_X8_needCookie (A : Hp) (x0 : Nat) (x1 : Int32) : Option ((Unit ⊕ Nat) × Hp) := (if x1 < (0 : Int32) then some (.inr 3, hmk A 0 0) else if (hsh A x0).1 = 7 then if (hsh A (hgR A 386 x0 0)).1 = 3 then (if x1 < (hgI A 129 (hgR A 386 x0 0) 0) then some (.inl (), A) else some (.inr 3, hmk A 0 0)) else none else none)
set_option maxRecDepth 100000 in
theorem s_X8_needCookie {l : Launch} {g : GT} (hl : l.stackTraces = false) {A : Hp} {x0 : Nat} {x1 : Int32} {r : Unit ⊕ Nat} {B : Hp} (h : f_X8_needCookie A x0 x1 = some (r, B)) : MetV l g yX8_needCookie (.code yX8_needCookie cX8_needCookie 2 none) [.inr (.inr x0), .inl x1] A (wrV r) B 6 90 1 6 := by
  refine MetV.ofV hl (by decide +kernel) (Nat.le_of_ble_eq_true rfl) (fun κ K E => ?_)
  have K : Cx κ cX8_needCookie 2 RX8 6 90 1 6 := K
  have E : Ed κ none "needCookie" (wrV r) B 1 6 := E
  unfold f_X8_needCookie at h
  change Vw κ A 0 0 0 [(0, .inr (.inr x0)), (1, .inl x1)] []
  refine Vw.iload_n (pc := 0) (x := x1) K dX8_needCookie_0 rfl ?_
  refine Vw.if_lt (pc := 1) (tgt := 15) K dX8_needCookie_1 (by decide) (fun c1 => ?_) (fun c1 => ?_)
  · have h := wpos c1 h
    exact Vw.throwW3 (pc := 15) (k := 34) K (E.thV h) rfl u_3_178 u_1_21 dX8_needCookie_15 dX8_needCookie_18 dX8_needCookie_19 dX8_needCookie_22 dX8_needCookie_25 (by decide) (Nat.le_of_ble_eq_true rfl) (by decide) (by decide)
  · have h := wneg c1 h
    refine Vw.iload_n (pc := 4) (x := x1) K dX8_needCookie_4 rfl ?_
    refine Vw.aload_n (pc := 5) (x := x0) K dX8_needCookie_5 rfl ?_
    obtain ⟨g2, h⟩ := wgd h
    refine Vw.getR (pc := 6) (k := 2) (f := 386) K cls6 rfl rfl u_2_59 g2 dX8_needCookie_6 ?_
    obtain ⟨g3, h⟩ := wgd h
    refine Vw.getI (pc := 9) (k := 1) (f := 129) K cls2 rfl rfl u_2_8 g3 dX8_needCookie_9 ?_
    refine Vw.icmp_lt (pc := 12) (tgt := 26) K dX8_needCookie_12 (by decide) (fun c4 => ?_) (fun c4 => ?_)
    · have h := wpos c4 h
      exact Vw.vretT (pc := 26) K h E (by decide) (by decide) dX8_needCookie_26
    · have h := wneg c4 h
      exact Vw.throwW3 (pc := 15) (k := 34) K (E.thV h) rfl u_3_178 u_1_21 dX8_needCookie_15 dX8_needCookie_18 dX8_needCookie_19 dX8_needCookie_22 dX8_needCookie_25 (by decide) (Nat.le_of_ble_eq_true rfl) (by decide) (by decide)
theorem cal_X8_needCookie : wCalV RX8 yX8_needCookie (.code yX8_needCookie cX8_needCookie 2 none) 1 := ⟨by decide +kernel, u_5_53, us_3_1, u_1_1, u_5_54⟩
def f_X8_listed (A : Hp) (x0 : Nat) (x1 : Int32) : Option ((Nat ⊕ Nat) × Hp) := if (hsh A x0).1 = 7 then (wtry (f_X8_needCookie A x0 x1) fun v2 A3 => if (hsh A3 x0).1 = 7 then if (hsh A3 (hgR A3 386 x0 0)).1 = 3 then if (hsh A3 (hgR A3 128 (hgR A3 386 x0 0) 0)).1 = 13 then if wix x1 (hsh A3 (hgR A3 128 (hgR A3 386 x0 0) 0)).2 then some (.inl (hgR A3 1037 (hgR A3 128 (hgR A3 386 x0 0) 0) x1.toNatClampNeg), A3) else none else none else none else none) else none
set_option maxRecDepth 100000 in
theorem s_X8_listed {l : Launch} {g : GT} (hl : l.stackTraces = false) {A : Hp} {x0 : Nat} {x1 : Int32} {r : Nat ⊕ Nat} {B : Hp} (h : f_X8_listed A x0 x1 = some (r, B)) : MetV l g yX8_listed (.code yX8_listed cX8_listed 2 (some (.object "CookieJar$Cookie"))) [.inr (.inr x0), .inl x1] A (wrR r) B 7 111 1 6 := by
  refine MetV.ofV hl (by decide +kernel) (Nat.le_of_ble_eq_true rfl) (fun κ K E => ?_)
  have K : Cx κ cX8_listed 2 RX8 7 111 1 6 := K
  have E : Ed κ (some (.object "CookieJar$Cookie")) "listed" (wrR r) B 1 6 := E
  unfold f_X8_listed at h
  change Vw κ A 0 0 0 [(0, .inr (.inr x0)), (1, .inl x1)] []
  refine Vw.aload_n (pc := 0) (x := x0) K dX8_listed_0 rfl ?_
  refine Vw.iload_n (pc := 1) (x := x1) K dX8_listed_1 rfl ?_
  obtain ⟨g1, h⟩ := wgd h
  rcases wtryE h with ⟨v2, A3, e4, h⟩ | ⟨x5, A3, e4, h⟩
  · refine Vw.cV0 (pc := 2) (c' := 1) (n' := 6) K (s_X8_needCookie K.tr e4) cal_X8_needCookie cls6 u_5_51 g1 rfl ⟨by decide, by decide⟩ ⟨by decide, by decide⟩ rfl (Nat.le_of_ble_eq_true rfl) dX8_listed_2 rfl rfl ?_
    refine Vw.aload_n (pc := 5) (x := x0) K dX8_listed_5 rfl ?_
    obtain ⟨g6, h⟩ := wgd h
    refine Vw.getR (pc := 6) (k := 2) (f := 386) K cls6 rfl rfl u_2_59 g6 dX8_listed_6 ?_
    obtain ⟨g7, h⟩ := wgd h
    refine Vw.getR (pc := 9) (k := 0) (f := 128) K cls2 rfl rfl u_2_6 g7 dX8_listed_9 ?_
    refine Vw.iload_n (pc := 12) (x := x1) K dX8_listed_12 rfl ?_
    obtain ⟨g8, h⟩ := wgd h
    obtain ⟨g9, h⟩ := wgd h
    refine Vw.aaloadC (pc := 13) K g8 g9 dX8_listed_13 ?_
    exact Vw.aretT (pc := 14) K h E (by decide) (by decide) dX8_listed_14
  · exact Vw.cVX (pc := 2) K (s_X8_needCookie K.tr e4) cal_X8_needCookie cls6 u_5_51 g1 rfl ⟨by decide, by decide⟩ ⟨by decide, by decide⟩ rfl (Nat.le_of_ble_eq_true rfl) dX8_listed_2 (E.thR h)
theorem cal_X8_listed : wCalV RX8 yX8_listed (.code yX8_listed cX8_listed 2 (some (.object "CookieJar$Cookie"))) 1 := ⟨by decide +kernel, u_5_49, us_3_0, u_1_1, u_5_50⟩
def f_X8_wouldSend (A : Hp) (x0 : Nat) (x1 : Int32) (x2 : Int32) (x3 : Int32) : Option ((Int32 ⊕ Nat) × Hp) := if (hsh A x0).1 = 7 then (wtry (f_X8_needRequest A x0) fun v2 A3 => if (hsh A3 x0).1 = 7 then (wtry (f_X8_listed A3 x0 x1) fun v7 A8 => if (hsh A8 x0).1 = 7 then if (hsh A8 (hgR A8 386 x0 0)).1 = 3 then ((f_X4_isCrossSite A8 (hgR A8 386 x0 0)).bind fun v14 => if (hsh A8 (hgR A3 386 x0 0)).1 = 3 then ((f_X4_goes A8 (hgR A3 386 x0 0) v7 v14 x2 x3).bind fun v17 => if wZ v17 then some (.inl v17, A8) else none) else none) else none else none) else none) else none
set_option maxRecDepth 100000 in
theorem s_X8_wouldSend {l : Launch} {g : GT} (hl : l.stackTraces = false) {A : Hp} {x0 : Nat} {x1 : Int32} {x2 : Int32} {x3 : Int32} {r : Int32 ⊕ Nat} {B : Hp} (h : f_X8_wouldSend A x0 x1 x2 x3 = some (r, B)) : MetV l g yX8_wouldSend (.code yX8_wouldSend cX8_wouldSend 4 (some .boolean)) [.inr (.inr x0), .inl x1, .inl x2, .inl x3] A (wrI r) B 8 132 2 12 := by
  refine MetV.ofV hl (by decide +kernel) (Nat.le_of_ble_eq_true rfl) (fun κ K E => ?_)
  have K : Cx κ cX8_wouldSend 4 RX8 8 132 2 12 := K
  have E : Ed κ (some .boolean) "wouldSend" (wrI r) B 2 12 := E
  unfold f_X8_wouldSend at h
  change Vw κ A 0 0 0 [(0, .inr (.inr x0)), (1, .inl x1), (2, .inl x2), (3, .inl x3)] []
  refine Vw.aload_n (pc := 0) (x := x0) K dX8_wouldSend_0 rfl ?_
  obtain ⟨g1, h⟩ := wgd h
  rcases wtryE h with ⟨v2, A3, e4, h⟩ | ⟨x5, A3, e4, h⟩
  · refine Vw.cV0 (pc := 1) (c' := 1) (n' := 6) K (s_X8_needRequest K.tr e4) cal_X8_needRequest cls6 u_3_126 g1 rfl ⟨by decide, by decide⟩ ⟨by decide, by decide⟩ rfl (Nat.le_of_ble_eq_true rfl) dX8_wouldSend_1 rfl rfl ?_
    refine Vw.aload_n (pc := 4) (x := x0) K dX8_wouldSend_4 rfl ?_
    obtain ⟨g6, h⟩ := wgd h
    refine Vw.getR (pc := 5) (k := 2) (f := 386) K cls6 rfl rfl u_2_59 g6 dX8_wouldSend_5 ?_
    refine Vw.aload_n (pc := 8) (x := x0) K dX8_wouldSend_8 rfl ?_
    refine Vw.iload_n (pc := 9) (x := x1) K dX8_wouldSend_9 rfl ?_
    rcases wtryE h with ⟨v7, A8, e9, h⟩ | ⟨x10, A8, e9, h⟩
    · refine Vw.cV1 (pc := 10) (v := .inr (.inr v7)) (c' := 2) (n' := 12) K (s_X8_listed K.tr e9) cal_X8_listed cls6 u_5_47 g6 rfl ⟨by decide, by decide⟩ ⟨by decide, by decide⟩ rfl (Nat.le_of_ble_eq_true rfl) dX8_wouldSend_10 rfl rfl ?_
      refine Vw.aload_n (pc := 13) (x := x0) K dX8_wouldSend_13 rfl ?_
      obtain ⟨g11, h⟩ := wgd h
      refine Vw.getR (pc := 14) (k := 2) (f := 386) K cls6 rfl rfl u_2_59 g11 dX8_wouldSend_14 ?_
      obtain ⟨g12, h⟩ := wgd h
      obtain ⟨v14, e13, h⟩ := wbd h
      refine Vw.cV1 (pc := 17) (v := .inl v14) (c' := 2) (n' := 12) K (s_X4_isCrossSite K.tr e13) cal_X4_isCrossSite cls2 u_3_131 g12 rfl ⟨by decide, by decide⟩ ⟨by decide, by decide⟩ rfl (Nat.le_of_ble_eq_true rfl) dX8_wouldSend_17 rfl rfl ?_
      refine Vw.iload_n (pc := 20) (x := x2) K dX8_wouldSend_20 rfl ?_
      refine Vw.iload_n (pc := 21) (x := x3) K dX8_wouldSend_21 rfl ?_
      obtain ⟨g15, h⟩ := wgd h
      obtain ⟨v17, e16, h⟩ := wbd h
      refine Vw.cV1 (pc := 22) (v := .inl v17) (c' := 2) (n' := 12) K (s_X4_goes K.tr e16) cal_X4_goes cls2 u_5_56 g15 rfl ⟨by decide, by decide⟩ ⟨by decide, by decide⟩ rfl (Nat.le_of_ble_eq_true rfl) dX8_wouldSend_22 rfl rfl ?_
      obtain ⟨g18, h⟩ := wgd h
      exact Vw.zretT (pc := 25) K g18 h E (by decide) (by decide) dX8_wouldSend_25
    · exact Vw.cVX (pc := 10) K (s_X8_listed K.tr e9) cal_X8_listed cls6 u_5_47 g6 rfl ⟨by decide, by decide⟩ ⟨by decide, by decide⟩ rfl (Nat.le_of_ble_eq_true rfl) dX8_wouldSend_10 (E.thI h)
  · exact Vw.cVX (pc := 1) K (s_X8_needRequest K.tr e4) cal_X8_needRequest cls6 u_3_126 g1 rfl ⟨by decide, by decide⟩ ⟨by decide, by decide⟩ rfl (Nat.le_of_ble_eq_true rfl) dX8_wouldSend_1 (E.thI h)
theorem cal_X8_wouldSend : wCalV RX8 yX8_wouldSend (.code yX8_wouldSend cX8_wouldSend 4 (some .boolean)) 3 := ⟨by decide +kernel, u_5_44, u_5_45, u_1_1, u_5_46⟩
def f_X8_cookies (A : Hp) (x0 : Nat) : Option (Int32) := if (hsh A x0).1 = 7 then if (hsh A (hgR A 386 x0 0)).1 = 3 then some (hgI A 129 (hgR A 386 x0 0) 0) else none else none
set_option maxRecDepth 100000 in
theorem s_X8_cookies {l : Launch} {g : GT} (hl : l.stackTraces = false) {A : Hp} {x0 : Nat} {r : Int32} (h : f_X8_cookies A x0 = some r) : MetV l g yX8_cookies (.code yX8_cookies cX8_cookies 1 (some .int)) [.inr (.inr x0)] A (.inl (some (.inl r))) A 0 0 0 0 := by
  refine MetV.ofV hl (by decide +kernel) (Nat.le_of_ble_eq_true rfl) (fun κ K E => ?_)
  have K : Cx κ cX8_cookies 1 RX8 0 0 0 0 := K
  have E : Ed κ (some .int) "cookies" (.inl (some (.inl r))) A 0 0 := E
  unfold f_X8_cookies at h
  change Vw κ A 0 0 0 [(0, .inr (.inr x0))] []
  refine Vw.aload_n (pc := 0) (x := x0) K dX8_cookies_0 rfl ?_
  obtain ⟨g1, h⟩ := wgd h
  refine Vw.getR (pc := 1) (k := 2) (f := 386) K cls6 rfl rfl u_2_59 g1 dX8_cookies_1 ?_
  obtain ⟨g2, h⟩ := wgd h
  refine Vw.getI (pc := 4) (k := 1) (f := 129) K cls2 rfl rfl u_2_8 g2 dX8_cookies_4 ?_
  exact Vw.iretE (pc := 7) K (Option.some.inj h) rfl E (by decide) (by decide) dX8_cookies_7
theorem cal_X8_cookies : wCalV RX8 yX8_cookies (.code yX8_cookies cX8_cookies 1 (some .int)) 0 := ⟨by decide +kernel, u_2_193, u_2_194, u_1_1, u_2_195⟩
def f_X8_nameChar (A : Hp) (x0 : Nat) (x1 : Int32) (x2 : Int32) : Option ((Int32 ⊕ Nat) × Hp) := if (hsh A x0).1 = 7 then (wtry (f_X8_needIndex A x0 x2) fun v2 A3 => if (hsh A3 x0).1 = 7 then (wtry (f_X8_listed A3 x0 x1) fun v7 A8 => if (hsh A8 v7).1 = 2 then if (hsh A8 (hgR A8 64 v7 0)).1 = 5 then ((f_X6_at A8 (hgR A8 64 v7 0) x2).bind fun v14 => some (.inl v14, A8)) else none else none) else none) else none
set_option maxRecDepth 100000 in
theorem s_X8_nameChar {l : Launch} {g : GT} (hl : l.stackTraces = false) {A : Hp} {x0 : Nat} {x1 : Int32} {x2 : Int32} {r : Int32 ⊕ Nat} {B : Hp} (h : f_X8_nameChar A x0 x1 x2 = some (r, B)) : MetV l g yX8_nameChar (.code yX8_nameChar cX8_nameChar 3 (some .int)) [.inr (.inr x0), .inl x1, .inl x2] A (wrI r) B 8 132 2 12 := by
  refine MetV.ofV hl (by decide +kernel) (Nat.le_of_ble_eq_true rfl) (fun κ K E => ?_)
  have K : Cx κ cX8_nameChar 3 RX8 8 132 2 12 := K
  have E : Ed κ (some .int) "nameChar" (wrI r) B 2 12 := E
  unfold f_X8_nameChar at h
  change Vw κ A 0 0 0 [(0, .inr (.inr x0)), (1, .inl x1), (2, .inl x2)] []
  refine Vw.aload_n (pc := 0) (x := x0) K dX8_nameChar_0 rfl ?_
  refine Vw.iload_n (pc := 1) (x := x2) K dX8_nameChar_1 rfl ?_
  obtain ⟨g1, h⟩ := wgd h
  rcases wtryE h with ⟨v2, A3, e4, h⟩ | ⟨x5, A3, e4, h⟩
  · refine Vw.cV0 (pc := 2) (c' := 1) (n' := 6) K (s_X8_needIndex K.tr e4) cal_X8_needIndex cls6 u_3_174 g1 rfl ⟨by decide, by decide⟩ ⟨by decide, by decide⟩ rfl (Nat.le_of_ble_eq_true rfl) dX8_nameChar_2 rfl rfl ?_
    refine Vw.aload_n (pc := 5) (x := x0) K dX8_nameChar_5 rfl ?_
    refine Vw.iload_n (pc := 6) (x := x1) K dX8_nameChar_6 rfl ?_
    obtain ⟨g6, h⟩ := wgd h
    rcases wtryE h with ⟨v7, A8, e9, h⟩ | ⟨x10, A8, e9, h⟩
    · refine Vw.cV1 (pc := 7) (v := .inr (.inr v7)) (c' := 2) (n' := 12) K (s_X8_listed K.tr e9) cal_X8_listed cls6 u_5_47 g6 rfl ⟨by decide, by decide⟩ ⟨by decide, by decide⟩ rfl (Nat.le_of_ble_eq_true rfl) dX8_nameChar_7 rfl rfl ?_
      obtain ⟨g11, h⟩ := wgd h
      refine Vw.getR (pc := 10) (k := 0) (f := 64) K cls1 rfl rfl u_1_134 g11 dX8_nameChar_10 ?_
      refine Vw.iload_n (pc := 13) (x := x2) K dX8_nameChar_13 rfl ?_
      obtain ⟨g12, h⟩ := wgd h
      obtain ⟨v14, e13, h⟩ := wbd h
      refine Vw.cV1 (pc := 14) (v := .inl v14) (c' := 2) (n' := 12) K (s_X6_at K.tr e13) cal_X6_at cls4 u_3_195 g12 rfl ⟨by decide, by decide⟩ ⟨by decide, by decide⟩ rfl (Nat.le_of_ble_eq_true rfl) dX8_nameChar_14 rfl rfl ?_
      exact Vw.iretT (pc := 17) K h E (by decide) (by decide) dX8_nameChar_17
    · exact Vw.cVX (pc := 7) K (s_X8_listed K.tr e9) cal_X8_listed cls6 u_5_47 g6 rfl ⟨by decide, by decide⟩ ⟨by decide, by decide⟩ rfl (Nat.le_of_ble_eq_true rfl) dX8_nameChar_7 (E.thI h)
  · exact Vw.cVX (pc := 2) K (s_X8_needIndex K.tr e4) cal_X8_needIndex cls6 u_3_174 g1 rfl ⟨by decide, by decide⟩ ⟨by decide, by decide⟩ rfl (Nat.le_of_ble_eq_true rfl) dX8_nameChar_2 (E.thI h)
theorem cal_X8_nameChar : wCalV RX8 yX8_nameChar (.code yX8_nameChar cX8_nameChar 3 (some .int)) 2 := ⟨by decide +kernel, u_5_61, u_5_62, u_1_1, u_5_63⟩
def f_X8_valueChar (A : Hp) (x0 : Nat) (x1 : Int32) (x2 : Int32) : Option ((Int32 ⊕ Nat) × Hp) := if (hsh A x0).1 = 7 then (wtry (f_X8_needIndex A x0 x2) fun v2 A3 => if (hsh A3 x0).1 = 7 then (wtry (f_X8_listed A3 x0 x1) fun v7 A8 => if (hsh A8 v7).1 = 2 then if (hsh A8 (hgR A8 65 v7 0)).1 = 5 then ((f_X6_at A8 (hgR A8 65 v7 0) x2).bind fun v14 => some (.inl v14, A8)) else none else none) else none) else none
set_option maxRecDepth 100000 in
theorem s_X8_valueChar {l : Launch} {g : GT} (hl : l.stackTraces = false) {A : Hp} {x0 : Nat} {x1 : Int32} {x2 : Int32} {r : Int32 ⊕ Nat} {B : Hp} (h : f_X8_valueChar A x0 x1 x2 = some (r, B)) : MetV l g yX8_valueChar (.code yX8_valueChar cX8_valueChar 3 (some .int)) [.inr (.inr x0), .inl x1, .inl x2] A (wrI r) B 8 132 2 12 := by
  refine MetV.ofV hl (by decide +kernel) (Nat.le_of_ble_eq_true rfl) (fun κ K E => ?_)
  have K : Cx κ cX8_valueChar 3 RX8 8 132 2 12 := K
  have E : Ed κ (some .int) "valueChar" (wrI r) B 2 12 := E
  unfold f_X8_valueChar at h
  change Vw κ A 0 0 0 [(0, .inr (.inr x0)), (1, .inl x1), (2, .inl x2)] []
  refine Vw.aload_n (pc := 0) (x := x0) K dX8_valueChar_0 rfl ?_
  refine Vw.iload_n (pc := 1) (x := x2) K dX8_valueChar_1 rfl ?_
  obtain ⟨g1, h⟩ := wgd h
  rcases wtryE h with ⟨v2, A3, e4, h⟩ | ⟨x5, A3, e4, h⟩
  · refine Vw.cV0 (pc := 2) (c' := 1) (n' := 6) K (s_X8_needIndex K.tr e4) cal_X8_needIndex cls6 u_3_174 g1 rfl ⟨by decide, by decide⟩ ⟨by decide, by decide⟩ rfl (Nat.le_of_ble_eq_true rfl) dX8_valueChar_2 rfl rfl ?_
    refine Vw.aload_n (pc := 5) (x := x0) K dX8_valueChar_5 rfl ?_
    refine Vw.iload_n (pc := 6) (x := x1) K dX8_valueChar_6 rfl ?_
    obtain ⟨g6, h⟩ := wgd h
    rcases wtryE h with ⟨v7, A8, e9, h⟩ | ⟨x10, A8, e9, h⟩
    · refine Vw.cV1 (pc := 7) (v := .inr (.inr v7)) (c' := 2) (n' := 12) K (s_X8_listed K.tr e9) cal_X8_listed cls6 u_5_47 g6 rfl ⟨by decide, by decide⟩ ⟨by decide, by decide⟩ rfl (Nat.le_of_ble_eq_true rfl) dX8_valueChar_7 rfl rfl ?_
      obtain ⟨g11, h⟩ := wgd h
      refine Vw.getR (pc := 10) (k := 1) (f := 65) K cls1 rfl rfl u_1_137 g11 dX8_valueChar_10 ?_
      refine Vw.iload_n (pc := 13) (x := x2) K dX8_valueChar_13 rfl ?_
      obtain ⟨g12, h⟩ := wgd h
      obtain ⟨v14, e13, h⟩ := wbd h
      refine Vw.cV1 (pc := 14) (v := .inl v14) (c' := 2) (n' := 12) K (s_X6_at K.tr e13) cal_X6_at cls4 u_3_195 g12 rfl ⟨by decide, by decide⟩ ⟨by decide, by decide⟩ rfl (Nat.le_of_ble_eq_true rfl) dX8_valueChar_14 rfl rfl ?_
      exact Vw.iretT (pc := 17) K h E (by decide) (by decide) dX8_valueChar_17
    · exact Vw.cVX (pc := 7) K (s_X8_listed K.tr e9) cal_X8_listed cls6 u_5_47 g6 rfl ⟨by decide, by decide⟩ ⟨by decide, by decide⟩ rfl (Nat.le_of_ble_eq_true rfl) dX8_valueChar_7 (E.thI h)
  · exact Vw.cVX (pc := 2) K (s_X8_needIndex K.tr e4) cal_X8_needIndex cls6 u_3_174 g1 rfl ⟨by decide, by decide⟩ ⟨by decide, by decide⟩ rfl (Nat.le_of_ble_eq_true rfl) dX8_valueChar_2 (E.thI h)
theorem cal_X8_valueChar : wCalV RX8 yX8_valueChar (.code yX8_valueChar cX8_valueChar 3 (some .int)) 2 := ⟨by decide +kernel, u_5_68, u_5_69, u_1_1, u_5_70⟩
def f_X8_domainChar (A : Hp) (x0 : Nat) (x1 : Int32) (x2 : Int32) : Option ((Int32 ⊕ Nat) × Hp) := if (hsh A x0).1 = 7 then (wtry (f_X8_needIndex A x0 x2) fun v2 A3 => if (hsh A3 x0).1 = 7 then (wtry (f_X8_listed A3 x0 x1) fun v7 A8 => if (hsh A8 v7).1 = 2 then if (hsh A8 (hgR A8 66 v7 0)).1 = 5 then ((f_X6_at A8 (hgR A8 66 v7 0) x2).bind fun v14 => some (.inl v14, A8)) else none else none) else none) else none
set_option maxRecDepth 100000 in
theorem s_X8_domainChar {l : Launch} {g : GT} (hl : l.stackTraces = false) {A : Hp} {x0 : Nat} {x1 : Int32} {x2 : Int32} {r : Int32 ⊕ Nat} {B : Hp} (h : f_X8_domainChar A x0 x1 x2 = some (r, B)) : MetV l g yX8_domainChar (.code yX8_domainChar cX8_domainChar 3 (some .int)) [.inr (.inr x0), .inl x1, .inl x2] A (wrI r) B 8 132 2 12 := by
  refine MetV.ofV hl (by decide +kernel) (Nat.le_of_ble_eq_true rfl) (fun κ K E => ?_)
  have K : Cx κ cX8_domainChar 3 RX8 8 132 2 12 := K
  have E : Ed κ (some .int) "domainChar" (wrI r) B 2 12 := E
  unfold f_X8_domainChar at h
  change Vw κ A 0 0 0 [(0, .inr (.inr x0)), (1, .inl x1), (2, .inl x2)] []
  refine Vw.aload_n (pc := 0) (x := x0) K dX8_domainChar_0 rfl ?_
  refine Vw.iload_n (pc := 1) (x := x2) K dX8_domainChar_1 rfl ?_
  obtain ⟨g1, h⟩ := wgd h
  rcases wtryE h with ⟨v2, A3, e4, h⟩ | ⟨x5, A3, e4, h⟩
  · refine Vw.cV0 (pc := 2) (c' := 1) (n' := 6) K (s_X8_needIndex K.tr e4) cal_X8_needIndex cls6 u_3_174 g1 rfl ⟨by decide, by decide⟩ ⟨by decide, by decide⟩ rfl (Nat.le_of_ble_eq_true rfl) dX8_domainChar_2 rfl rfl ?_
    refine Vw.aload_n (pc := 5) (x := x0) K dX8_domainChar_5 rfl ?_
    refine Vw.iload_n (pc := 6) (x := x1) K dX8_domainChar_6 rfl ?_
    obtain ⟨g6, h⟩ := wgd h
    rcases wtryE h with ⟨v7, A8, e9, h⟩ | ⟨x10, A8, e9, h⟩
    · refine Vw.cV1 (pc := 7) (v := .inr (.inr v7)) (c' := 2) (n' := 12) K (s_X8_listed K.tr e9) cal_X8_listed cls6 u_5_47 g6 rfl ⟨by decide, by decide⟩ ⟨by decide, by decide⟩ rfl (Nat.le_of_ble_eq_true rfl) dX8_domainChar_7 rfl rfl ?_
      obtain ⟨g11, h⟩ := wgd h
      refine Vw.getR (pc := 10) (k := 2) (f := 66) K cls1 rfl rfl u_1_140 g11 dX8_domainChar_10 ?_
      refine Vw.iload_n (pc := 13) (x := x2) K dX8_domainChar_13 rfl ?_
      obtain ⟨g12, h⟩ := wgd h
      obtain ⟨v14, e13, h⟩ := wbd h
      refine Vw.cV1 (pc := 14) (v := .inl v14) (c' := 2) (n' := 12) K (s_X6_at K.tr e13) cal_X6_at cls4 u_3_195 g12 rfl ⟨by decide, by decide⟩ ⟨by decide, by decide⟩ rfl (Nat.le_of_ble_eq_true rfl) dX8_domainChar_14 rfl rfl ?_
      exact Vw.iretT (pc := 17) K h E (by decide) (by decide) dX8_domainChar_17
    · exact Vw.cVX (pc := 7) K (s_X8_listed K.tr e9) cal_X8_listed cls6 u_5_47 g6 rfl ⟨by decide, by decide⟩ ⟨by decide, by decide⟩ rfl (Nat.le_of_ble_eq_true rfl) dX8_domainChar_7 (E.thI h)
  · exact Vw.cVX (pc := 2) K (s_X8_needIndex K.tr e4) cal_X8_needIndex cls6 u_3_174 g1 rfl ⟨by decide, by decide⟩ ⟨by decide, by decide⟩ rfl (Nat.le_of_ble_eq_true rfl) dX8_domainChar_2 (E.thI h)
theorem cal_X8_domainChar : wCalV RX8 yX8_domainChar (.code yX8_domainChar cX8_domainChar 3 (some .int)) 2 := ⟨by decide +kernel, u_5_75, u_5_76, u_1_1, u_5_77⟩
def f_X8_pathChar (A : Hp) (x0 : Nat) (x1 : Int32) (x2 : Int32) : Option ((Int32 ⊕ Nat) × Hp) := if (hsh A x0).1 = 7 then (wtry (f_X8_needIndex A x0 x2) fun v2 A3 => if (hsh A3 x0).1 = 7 then (wtry (f_X8_listed A3 x0 x1) fun v7 A8 => if (hsh A8 v7).1 = 2 then if (hsh A8 (hgR A8 67 v7 0)).1 = 5 then ((f_X6_at A8 (hgR A8 67 v7 0) x2).bind fun v14 => some (.inl v14, A8)) else none else none) else none) else none
set_option maxRecDepth 100000 in
theorem s_X8_pathChar {l : Launch} {g : GT} (hl : l.stackTraces = false) {A : Hp} {x0 : Nat} {x1 : Int32} {x2 : Int32} {r : Int32 ⊕ Nat} {B : Hp} (h : f_X8_pathChar A x0 x1 x2 = some (r, B)) : MetV l g yX8_pathChar (.code yX8_pathChar cX8_pathChar 3 (some .int)) [.inr (.inr x0), .inl x1, .inl x2] A (wrI r) B 8 132 2 12 := by
  refine MetV.ofV hl (by decide +kernel) (Nat.le_of_ble_eq_true rfl) (fun κ K E => ?_)
  have K : Cx κ cX8_pathChar 3 RX8 8 132 2 12 := K
  have E : Ed κ (some .int) "pathChar" (wrI r) B 2 12 := E
  unfold f_X8_pathChar at h
  change Vw κ A 0 0 0 [(0, .inr (.inr x0)), (1, .inl x1), (2, .inl x2)] []
  refine Vw.aload_n (pc := 0) (x := x0) K dX8_pathChar_0 rfl ?_
  refine Vw.iload_n (pc := 1) (x := x2) K dX8_pathChar_1 rfl ?_
  obtain ⟨g1, h⟩ := wgd h
  rcases wtryE h with ⟨v2, A3, e4, h⟩ | ⟨x5, A3, e4, h⟩
  · refine Vw.cV0 (pc := 2) (c' := 1) (n' := 6) K (s_X8_needIndex K.tr e4) cal_X8_needIndex cls6 u_3_174 g1 rfl ⟨by decide, by decide⟩ ⟨by decide, by decide⟩ rfl (Nat.le_of_ble_eq_true rfl) dX8_pathChar_2 rfl rfl ?_
    refine Vw.aload_n (pc := 5) (x := x0) K dX8_pathChar_5 rfl ?_
    refine Vw.iload_n (pc := 6) (x := x1) K dX8_pathChar_6 rfl ?_
    obtain ⟨g6, h⟩ := wgd h
    rcases wtryE h with ⟨v7, A8, e9, h⟩ | ⟨x10, A8, e9, h⟩
    · refine Vw.cV1 (pc := 7) (v := .inr (.inr v7)) (c' := 2) (n' := 12) K (s_X8_listed K.tr e9) cal_X8_listed cls6 u_5_47 g6 rfl ⟨by decide, by decide⟩ ⟨by decide, by decide⟩ rfl (Nat.le_of_ble_eq_true rfl) dX8_pathChar_7 rfl rfl ?_
      obtain ⟨g11, h⟩ := wgd h
      refine Vw.getR (pc := 10) (k := 3) (f := 67) K cls1 rfl rfl u_1_143 g11 dX8_pathChar_10 ?_
      refine Vw.iload_n (pc := 13) (x := x2) K dX8_pathChar_13 rfl ?_
      obtain ⟨g12, h⟩ := wgd h
      obtain ⟨v14, e13, h⟩ := wbd h
      refine Vw.cV1 (pc := 14) (v := .inl v14) (c' := 2) (n' := 12) K (s_X6_at K.tr e13) cal_X6_at cls4 u_3_195 g12 rfl ⟨by decide, by decide⟩ ⟨by decide, by decide⟩ rfl (Nat.le_of_ble_eq_true rfl) dX8_pathChar_14 rfl rfl ?_
      exact Vw.iretT (pc := 17) K h E (by decide) (by decide) dX8_pathChar_17
    · exact Vw.cVX (pc := 7) K (s_X8_listed K.tr e9) cal_X8_listed cls6 u_5_47 g6 rfl ⟨by decide, by decide⟩ ⟨by decide, by decide⟩ rfl (Nat.le_of_ble_eq_true rfl) dX8_pathChar_7 (E.thI h)
  · exact Vw.cVX (pc := 2) K (s_X8_needIndex K.tr e4) cal_X8_needIndex cls6 u_3_174 g1 rfl ⟨by decide, by decide⟩ ⟨by decide, by decide⟩ rfl (Nat.le_of_ble_eq_true rfl) dX8_pathChar_2 (E.thI h)
theorem cal_X8_pathChar : wCalV RX8 yX8_pathChar (.code yX8_pathChar cX8_pathChar 3 (some .int)) 2 := ⟨by decide +kernel, u_5_82, u_5_83, u_1_1, u_5_84⟩
def f_X8_expiry (A : Hp) (x0 : Nat) (x1 : Int32) : Option ((Int64 ⊕ Nat) × Hp) := if (hsh A x0).1 = 7 then (wtry (f_X8_listed A x0 x1) fun v2 A3 => if (hsh A3 v2).1 = 2 then some (.inl (hgL A3 68 v2 0), A3) else none) else none
set_option maxRecDepth 100000 in
theorem s_X8_expiry {l : Launch} {g : GT} (hl : l.stackTraces = false) {A : Hp} {x0 : Nat} {x1 : Int32} {r : Int64 ⊕ Nat} {B : Hp} (h : f_X8_expiry A x0 x1 = some (r, B)) : MetV l g yX8_expiry (.code yX8_expiry cX8_expiry 2 (some .long)) [.inr (.inr x0), .inl x1] A (wrL r) B 8 132 1 6 := by
  refine MetV.ofV hl (by decide +kernel) (Nat.le_of_ble_eq_true rfl) (fun κ K E => ?_)
  have K : Cx κ cX8_expiry 2 RX8 8 132 1 6 := K
  have E : Ed κ (some .long) "expiry" (wrL r) B 1 6 := E
  unfold f_X8_expiry at h
  change Vw κ A 0 0 0 [(0, .inr (.inr x0)), (1, .inl x1)] []
  refine Vw.aload_n (pc := 0) (x := x0) K dX8_expiry_0 rfl ?_
  refine Vw.iload_n (pc := 1) (x := x1) K dX8_expiry_1 rfl ?_
  obtain ⟨g1, h⟩ := wgd h
  rcases wtryE h with ⟨v2, A3, e4, h⟩ | ⟨x5, A3, e4, h⟩
  · refine Vw.cV1 (pc := 2) (v := .inr (.inr v2)) (c' := 1) (n' := 6) K (s_X8_listed K.tr e4) cal_X8_listed cls6 u_5_47 g1 rfl ⟨by decide, by decide⟩ ⟨by decide, by decide⟩ rfl (Nat.le_of_ble_eq_true rfl) dX8_expiry_2 rfl rfl ?_
    obtain ⟨g6, h⟩ := wgd h
    refine Vw.getL (pc := 5) (k := 4) (f := 68) K cls1 rfl rfl u_1_146 g6 dX8_expiry_5 ?_
    exact Vw.lretT (pc := 8) K h E (by decide) (by decide) dX8_expiry_8
  · exact Vw.cVX (pc := 2) K (s_X8_listed K.tr e4) cal_X8_listed cls6 u_5_47 g1 rfl ⟨by decide, by decide⟩ ⟨by decide, by decide⟩ rfl (Nat.le_of_ble_eq_true rfl) dX8_expiry_2 (E.thL h)
theorem cal_X8_expiry : wCalV RX8 yX8_expiry (.code yX8_expiry cX8_expiry 2 (some .long)) 1 := ⟨by decide +kernel, u_5_89, u_5_90, u_1_1, u_5_91⟩
def f_X8_created (A : Hp) (x0 : Nat) (x1 : Int32) : Option ((Int64 ⊕ Nat) × Hp) := if (hsh A x0).1 = 7 then (wtry (f_X8_listed A x0 x1) fun v2 A3 => if (hsh A3 v2).1 = 2 then some (.inl (hgL A3 69 v2 0), A3) else none) else none
set_option maxRecDepth 100000 in
theorem s_X8_created {l : Launch} {g : GT} (hl : l.stackTraces = false) {A : Hp} {x0 : Nat} {x1 : Int32} {r : Int64 ⊕ Nat} {B : Hp} (h : f_X8_created A x0 x1 = some (r, B)) : MetV l g yX8_created (.code yX8_created cX8_created 2 (some .long)) [.inr (.inr x0), .inl x1] A (wrL r) B 8 132 1 6 := by
  refine MetV.ofV hl (by decide +kernel) (Nat.le_of_ble_eq_true rfl) (fun κ K E => ?_)
  have K : Cx κ cX8_created 2 RX8 8 132 1 6 := K
  have E : Ed κ (some .long) "created" (wrL r) B 1 6 := E
  unfold f_X8_created at h
  change Vw κ A 0 0 0 [(0, .inr (.inr x0)), (1, .inl x1)] []
  refine Vw.aload_n (pc := 0) (x := x0) K dX8_created_0 rfl ?_
  refine Vw.iload_n (pc := 1) (x := x1) K dX8_created_1 rfl ?_
  obtain ⟨g1, h⟩ := wgd h
  rcases wtryE h with ⟨v2, A3, e4, h⟩ | ⟨x5, A3, e4, h⟩
  · refine Vw.cV1 (pc := 2) (v := .inr (.inr v2)) (c' := 1) (n' := 6) K (s_X8_listed K.tr e4) cal_X8_listed cls6 u_5_47 g1 rfl ⟨by decide, by decide⟩ ⟨by decide, by decide⟩ rfl (Nat.le_of_ble_eq_true rfl) dX8_created_2 rfl rfl ?_
    obtain ⟨g6, h⟩ := wgd h
    refine Vw.getL (pc := 5) (k := 5) (f := 69) K cls1 rfl rfl u_1_149 g6 dX8_created_5 ?_
    exact Vw.lretT (pc := 8) K h E (by decide) (by decide) dX8_created_8
  · exact Vw.cVX (pc := 2) K (s_X8_listed K.tr e4) cal_X8_listed cls6 u_5_47 g1 rfl ⟨by decide, by decide⟩ ⟨by decide, by decide⟩ rfl (Nat.le_of_ble_eq_true rfl) dX8_created_2 (E.thL h)
theorem cal_X8_created : wCalV RX8 yX8_created (.code yX8_created cX8_created 2 (some .long)) 1 := ⟨by decide +kernel, u_5_96, u_5_97, u_1_1, u_5_98⟩
def f_X8_accessed (A : Hp) (x0 : Nat) (x1 : Int32) : Option ((Int64 ⊕ Nat) × Hp) := if (hsh A x0).1 = 7 then (wtry (f_X8_listed A x0 x1) fun v2 A3 => if (hsh A3 v2).1 = 2 then some (.inl (hgL A3 70 v2 0), A3) else none) else none
set_option maxRecDepth 100000 in
theorem s_X8_accessed {l : Launch} {g : GT} (hl : l.stackTraces = false) {A : Hp} {x0 : Nat} {x1 : Int32} {r : Int64 ⊕ Nat} {B : Hp} (h : f_X8_accessed A x0 x1 = some (r, B)) : MetV l g yX8_accessed (.code yX8_accessed cX8_accessed 2 (some .long)) [.inr (.inr x0), .inl x1] A (wrL r) B 8 132 1 6 := by
  refine MetV.ofV hl (by decide +kernel) (Nat.le_of_ble_eq_true rfl) (fun κ K E => ?_)
  have K : Cx κ cX8_accessed 2 RX8 8 132 1 6 := K
  have E : Ed κ (some .long) "accessed" (wrL r) B 1 6 := E
  unfold f_X8_accessed at h
  change Vw κ A 0 0 0 [(0, .inr (.inr x0)), (1, .inl x1)] []
  refine Vw.aload_n (pc := 0) (x := x0) K dX8_accessed_0 rfl ?_
  refine Vw.iload_n (pc := 1) (x := x1) K dX8_accessed_1 rfl ?_
  obtain ⟨g1, h⟩ := wgd h
  rcases wtryE h with ⟨v2, A3, e4, h⟩ | ⟨x5, A3, e4, h⟩
  · refine Vw.cV1 (pc := 2) (v := .inr (.inr v2)) (c' := 1) (n' := 6) K (s_X8_listed K.tr e4) cal_X8_listed cls6 u_5_47 g1 rfl ⟨by decide, by decide⟩ ⟨by decide, by decide⟩ rfl (Nat.le_of_ble_eq_true rfl) dX8_accessed_2 rfl rfl ?_
    obtain ⟨g6, h⟩ := wgd h
    refine Vw.getL (pc := 5) (k := 6) (f := 70) K cls1 rfl rfl u_1_152 g6 dX8_accessed_5 ?_
    exact Vw.lretT (pc := 8) K h E (by decide) (by decide) dX8_accessed_8
  · exact Vw.cVX (pc := 2) K (s_X8_listed K.tr e4) cal_X8_listed cls6 u_5_47 g1 rfl ⟨by decide, by decide⟩ ⟨by decide, by decide⟩ rfl (Nat.le_of_ble_eq_true rfl) dX8_accessed_2 (E.thL h)
theorem cal_X8_accessed : wCalV RX8 yX8_accessed (.code yX8_accessed cX8_accessed 2 (some .long)) 1 := ⟨by decide +kernel, u_5_103, u_5_104, u_1_1, u_5_105⟩
def f_X8_serial (A : Hp) (x0 : Nat) (x1 : Int32) : Option ((Int32 ⊕ Nat) × Hp) := if (hsh A x0).1 = 7 then (wtry (f_X8_listed A x0 x1) fun v2 A3 => if (hsh A3 v2).1 = 2 then some (.inl (hgI A3 71 v2 0), A3) else none) else none
set_option maxRecDepth 100000 in
theorem s_X8_serial {l : Launch} {g : GT} (hl : l.stackTraces = false) {A : Hp} {x0 : Nat} {x1 : Int32} {r : Int32 ⊕ Nat} {B : Hp} (h : f_X8_serial A x0 x1 = some (r, B)) : MetV l g yX8_serial (.code yX8_serial cX8_serial 2 (some .int)) [.inr (.inr x0), .inl x1] A (wrI r) B 8 132 1 6 := by
  refine MetV.ofV hl (by decide +kernel) (Nat.le_of_ble_eq_true rfl) (fun κ K E => ?_)
  have K : Cx κ cX8_serial 2 RX8 8 132 1 6 := K
  have E : Ed κ (some .int) "serial" (wrI r) B 1 6 := E
  unfold f_X8_serial at h
  change Vw κ A 0 0 0 [(0, .inr (.inr x0)), (1, .inl x1)] []
  refine Vw.aload_n (pc := 0) (x := x0) K dX8_serial_0 rfl ?_
  refine Vw.iload_n (pc := 1) (x := x1) K dX8_serial_1 rfl ?_
  obtain ⟨g1, h⟩ := wgd h
  rcases wtryE h with ⟨v2, A3, e4, h⟩ | ⟨x5, A3, e4, h⟩
  · refine Vw.cV1 (pc := 2) (v := .inr (.inr v2)) (c' := 1) (n' := 6) K (s_X8_listed K.tr e4) cal_X8_listed cls6 u_5_47 g1 rfl ⟨by decide, by decide⟩ ⟨by decide, by decide⟩ rfl (Nat.le_of_ble_eq_true rfl) dX8_serial_2 rfl rfl ?_
    obtain ⟨g6, h⟩ := wgd h
    refine Vw.getI (pc := 5) (k := 7) (f := 71) K cls1 rfl rfl u_1_155 g6 dX8_serial_5 ?_
    exact Vw.iretT (pc := 8) K h E (by decide) (by decide) dX8_serial_8
  · exact Vw.cVX (pc := 2) K (s_X8_listed K.tr e4) cal_X8_listed cls6 u_5_47 g1 rfl ⟨by decide, by decide⟩ ⟨by decide, by decide⟩ rfl (Nat.le_of_ble_eq_true rfl) dX8_serial_2 (E.thI h)
theorem cal_X8_serial : wCalV RX8 yX8_serial (.code yX8_serial cX8_serial 2 (some .int)) 1 := ⟨by decide +kernel, u_5_110, u_5_111, u_1_1, u_5_112⟩
def f_X8_isHostOnly (A : Hp) (x0 : Nat) (x1 : Int32) : Option ((Int32 ⊕ Nat) × Hp) := if (hsh A x0).1 = 7 then (wtry (f_X8_listed A x0 x1) fun v2 A3 => if (hsh A3 v2).1 = 2 then if wZ (hgI A3 72 v2 0) then some (.inl (hgI A3 72 v2 0), A3) else none else none) else none
set_option maxRecDepth 100000 in
theorem s_X8_isHostOnly {l : Launch} {g : GT} (hl : l.stackTraces = false) {A : Hp} {x0 : Nat} {x1 : Int32} {r : Int32 ⊕ Nat} {B : Hp} (h : f_X8_isHostOnly A x0 x1 = some (r, B)) : MetV l g yX8_isHostOnly (.code yX8_isHostOnly cX8_isHostOnly 2 (some .boolean)) [.inr (.inr x0), .inl x1] A (wrI r) B 8 132 1 6 := by
  refine MetV.ofV hl (by decide +kernel) (Nat.le_of_ble_eq_true rfl) (fun κ K E => ?_)
  have K : Cx κ cX8_isHostOnly 2 RX8 8 132 1 6 := K
  have E : Ed κ (some .boolean) "isHostOnly" (wrI r) B 1 6 := E
  unfold f_X8_isHostOnly at h
  change Vw κ A 0 0 0 [(0, .inr (.inr x0)), (1, .inl x1)] []
  refine Vw.aload_n (pc := 0) (x := x0) K dX8_isHostOnly_0 rfl ?_
  refine Vw.iload_n (pc := 1) (x := x1) K dX8_isHostOnly_1 rfl ?_
  obtain ⟨g1, h⟩ := wgd h
  rcases wtryE h with ⟨v2, A3, e4, h⟩ | ⟨x5, A3, e4, h⟩
  · refine Vw.cV1 (pc := 2) (v := .inr (.inr v2)) (c' := 1) (n' := 6) K (s_X8_listed K.tr e4) cal_X8_listed cls6 u_5_47 g1 rfl ⟨by decide, by decide⟩ ⟨by decide, by decide⟩ rfl (Nat.le_of_ble_eq_true rfl) dX8_isHostOnly_2 rfl rfl ?_
    obtain ⟨g6, h⟩ := wgd h
    refine Vw.getI (pc := 5) (k := 8) (f := 72) K cls1 rfl rfl u_1_158 g6 dX8_isHostOnly_5 ?_
    obtain ⟨g7, h⟩ := wgd h
    exact Vw.zretT (pc := 8) K g7 h E (by decide) (by decide) dX8_isHostOnly_8
  · exact Vw.cVX (pc := 2) K (s_X8_listed K.tr e4) cal_X8_listed cls6 u_5_47 g1 rfl ⟨by decide, by decide⟩ ⟨by decide, by decide⟩ rfl (Nat.le_of_ble_eq_true rfl) dX8_isHostOnly_2 (E.thI h)
theorem cal_X8_isHostOnly : wCalV RX8 yX8_isHostOnly (.code yX8_isHostOnly cX8_isHostOnly 2 (some .boolean)) 1 := ⟨by decide +kernel, u_5_117, u_5_118, u_1_1, u_5_119⟩
def f_X8_isSecure (A : Hp) (x0 : Nat) (x1 : Int32) : Option ((Int32 ⊕ Nat) × Hp) := if (hsh A x0).1 = 7 then (wtry (f_X8_listed A x0 x1) fun v2 A3 => if (hsh A3 v2).1 = 2 then if wZ (hgI A3 73 v2 0) then some (.inl (hgI A3 73 v2 0), A3) else none else none) else none
set_option maxRecDepth 100000 in
theorem s_X8_isSecure {l : Launch} {g : GT} (hl : l.stackTraces = false) {A : Hp} {x0 : Nat} {x1 : Int32} {r : Int32 ⊕ Nat} {B : Hp} (h : f_X8_isSecure A x0 x1 = some (r, B)) : MetV l g yX8_isSecure (.code yX8_isSecure cX8_isSecure 2 (some .boolean)) [.inr (.inr x0), .inl x1] A (wrI r) B 8 132 1 6 := by
  refine MetV.ofV hl (by decide +kernel) (Nat.le_of_ble_eq_true rfl) (fun κ K E => ?_)
  have K : Cx κ cX8_isSecure 2 RX8 8 132 1 6 := K
  have E : Ed κ (some .boolean) "isSecure" (wrI r) B 1 6 := E
  unfold f_X8_isSecure at h
  change Vw κ A 0 0 0 [(0, .inr (.inr x0)), (1, .inl x1)] []
  refine Vw.aload_n (pc := 0) (x := x0) K dX8_isSecure_0 rfl ?_
  refine Vw.iload_n (pc := 1) (x := x1) K dX8_isSecure_1 rfl ?_
  obtain ⟨g1, h⟩ := wgd h
  rcases wtryE h with ⟨v2, A3, e4, h⟩ | ⟨x5, A3, e4, h⟩
  · refine Vw.cV1 (pc := 2) (v := .inr (.inr v2)) (c' := 1) (n' := 6) K (s_X8_listed K.tr e4) cal_X8_listed cls6 u_5_47 g1 rfl ⟨by decide, by decide⟩ ⟨by decide, by decide⟩ rfl (Nat.le_of_ble_eq_true rfl) dX8_isSecure_2 rfl rfl ?_
    obtain ⟨g6, h⟩ := wgd h
    refine Vw.getI (pc := 5) (k := 9) (f := 73) K cls1 rfl rfl u_1_161 g6 dX8_isSecure_5 ?_
    obtain ⟨g7, h⟩ := wgd h
    exact Vw.zretT (pc := 8) K g7 h E (by decide) (by decide) dX8_isSecure_8
  · exact Vw.cVX (pc := 2) K (s_X8_listed K.tr e4) cal_X8_listed cls6 u_5_47 g1 rfl ⟨by decide, by decide⟩ ⟨by decide, by decide⟩ rfl (Nat.le_of_ble_eq_true rfl) dX8_isSecure_2 (E.thI h)
theorem cal_X8_isSecure : wCalV RX8 yX8_isSecure (.code yX8_isSecure cX8_isSecure 2 (some .boolean)) 1 := ⟨by decide +kernel, u_5_124, u_5_125, u_1_1, u_5_126⟩
def f_X8_isHttpOnly (A : Hp) (x0 : Nat) (x1 : Int32) : Option ((Int32 ⊕ Nat) × Hp) := if (hsh A x0).1 = 7 then (wtry (f_X8_listed A x0 x1) fun v2 A3 => if (hsh A3 v2).1 = 2 then if wZ (hgI A3 74 v2 0) then some (.inl (hgI A3 74 v2 0), A3) else none else none) else none
set_option maxRecDepth 100000 in
theorem s_X8_isHttpOnly {l : Launch} {g : GT} (hl : l.stackTraces = false) {A : Hp} {x0 : Nat} {x1 : Int32} {r : Int32 ⊕ Nat} {B : Hp} (h : f_X8_isHttpOnly A x0 x1 = some (r, B)) : MetV l g yX8_isHttpOnly (.code yX8_isHttpOnly cX8_isHttpOnly 2 (some .boolean)) [.inr (.inr x0), .inl x1] A (wrI r) B 8 132 1 6 := by
  refine MetV.ofV hl (by decide +kernel) (Nat.le_of_ble_eq_true rfl) (fun κ K E => ?_)
  have K : Cx κ cX8_isHttpOnly 2 RX8 8 132 1 6 := K
  have E : Ed κ (some .boolean) "isHttpOnly" (wrI r) B 1 6 := E
  unfold f_X8_isHttpOnly at h
  change Vw κ A 0 0 0 [(0, .inr (.inr x0)), (1, .inl x1)] []
  refine Vw.aload_n (pc := 0) (x := x0) K dX8_isHttpOnly_0 rfl ?_
  refine Vw.iload_n (pc := 1) (x := x1) K dX8_isHttpOnly_1 rfl ?_
  obtain ⟨g1, h⟩ := wgd h
  rcases wtryE h with ⟨v2, A3, e4, h⟩ | ⟨x5, A3, e4, h⟩
  · refine Vw.cV1 (pc := 2) (v := .inr (.inr v2)) (c' := 1) (n' := 6) K (s_X8_listed K.tr e4) cal_X8_listed cls6 u_5_47 g1 rfl ⟨by decide, by decide⟩ ⟨by decide, by decide⟩ rfl (Nat.le_of_ble_eq_true rfl) dX8_isHttpOnly_2 rfl rfl ?_
    obtain ⟨g6, h⟩ := wgd h
    refine Vw.getI (pc := 5) (k := 10) (f := 74) K cls1 rfl rfl u_1_164 g6 dX8_isHttpOnly_5 ?_
    obtain ⟨g7, h⟩ := wgd h
    exact Vw.zretT (pc := 8) K g7 h E (by decide) (by decide) dX8_isHttpOnly_8
  · exact Vw.cVX (pc := 2) K (s_X8_listed K.tr e4) cal_X8_listed cls6 u_5_47 g1 rfl ⟨by decide, by decide⟩ ⟨by decide, by decide⟩ rfl (Nat.le_of_ble_eq_true rfl) dX8_isHttpOnly_2 (E.thI h)
theorem cal_X8_isHttpOnly : wCalV RX8 yX8_isHttpOnly (.code yX8_isHttpOnly cX8_isHttpOnly 2 (some .boolean)) 1 := ⟨by decide +kernel, u_5_131, u_5_132, u_1_1, u_5_133⟩
def f_X8_sameSite (A : Hp) (x0 : Nat) (x1 : Int32) : Option ((Int32 ⊕ Nat) × Hp) := if (hsh A x0).1 = 7 then (wtry (f_X8_listed A x0 x1) fun v2 A3 => if (hsh A3 v2).1 = 2 then some (.inl (hgI A3 75 v2 0), A3) else none) else none
set_option maxRecDepth 100000 in
theorem s_X8_sameSite {l : Launch} {g : GT} (hl : l.stackTraces = false) {A : Hp} {x0 : Nat} {x1 : Int32} {r : Int32 ⊕ Nat} {B : Hp} (h : f_X8_sameSite A x0 x1 = some (r, B)) : MetV l g yX8_sameSite (.code yX8_sameSite cX8_sameSite 2 (some .int)) [.inr (.inr x0), .inl x1] A (wrI r) B 8 132 1 6 := by
  refine MetV.ofV hl (by decide +kernel) (Nat.le_of_ble_eq_true rfl) (fun κ K E => ?_)
  have K : Cx κ cX8_sameSite 2 RX8 8 132 1 6 := K
  have E : Ed κ (some .int) "sameSite" (wrI r) B 1 6 := E
  unfold f_X8_sameSite at h
  change Vw κ A 0 0 0 [(0, .inr (.inr x0)), (1, .inl x1)] []
  refine Vw.aload_n (pc := 0) (x := x0) K dX8_sameSite_0 rfl ?_
  refine Vw.iload_n (pc := 1) (x := x1) K dX8_sameSite_1 rfl ?_
  obtain ⟨g1, h⟩ := wgd h
  rcases wtryE h with ⟨v2, A3, e4, h⟩ | ⟨x5, A3, e4, h⟩
  · refine Vw.cV1 (pc := 2) (v := .inr (.inr v2)) (c' := 1) (n' := 6) K (s_X8_listed K.tr e4) cal_X8_listed cls6 u_5_47 g1 rfl ⟨by decide, by decide⟩ ⟨by decide, by decide⟩ rfl (Nat.le_of_ble_eq_true rfl) dX8_sameSite_2 rfl rfl ?_
    obtain ⟨g6, h⟩ := wgd h
    refine Vw.getI (pc := 5) (k := 11) (f := 75) K cls1 rfl rfl u_1_167 g6 dX8_sameSite_5 ?_
    exact Vw.iretT (pc := 8) K h E (by decide) (by decide) dX8_sameSite_8
  · exact Vw.cVX (pc := 2) K (s_X8_listed K.tr e4) cal_X8_listed cls6 u_5_47 g1 rfl ⟨by decide, by decide⟩ ⟨by decide, by decide⟩ rfl (Nat.le_of_ble_eq_true rfl) dX8_sameSite_2 (E.thI h)
theorem cal_X8_sameSite : wCalV RX8 yX8_sameSite (.code yX8_sameSite cX8_sameSite 2 (some .int)) 1 := ⟨by decide +kernel, u_5_138, u_5_139, u_1_1, u_5_140⟩
def f_X8_priority (A : Hp) (x0 : Nat) (x1 : Int32) : Option ((Int32 ⊕ Nat) × Hp) := if (hsh A x0).1 = 7 then (wtry (f_X8_listed A x0 x1) fun v2 A3 => if (hsh A3 v2).1 = 2 then some (.inl (hgI A3 76 v2 0), A3) else none) else none
set_option maxRecDepth 100000 in
theorem s_X8_priority {l : Launch} {g : GT} (hl : l.stackTraces = false) {A : Hp} {x0 : Nat} {x1 : Int32} {r : Int32 ⊕ Nat} {B : Hp} (h : f_X8_priority A x0 x1 = some (r, B)) : MetV l g yX8_priority (.code yX8_priority cX8_priority 2 (some .int)) [.inr (.inr x0), .inl x1] A (wrI r) B 8 132 1 6 := by
  refine MetV.ofV hl (by decide +kernel) (Nat.le_of_ble_eq_true rfl) (fun κ K E => ?_)
  have K : Cx κ cX8_priority 2 RX8 8 132 1 6 := K
  have E : Ed κ (some .int) "priority" (wrI r) B 1 6 := E
  unfold f_X8_priority at h
  change Vw κ A 0 0 0 [(0, .inr (.inr x0)), (1, .inl x1)] []
  refine Vw.aload_n (pc := 0) (x := x0) K dX8_priority_0 rfl ?_
  refine Vw.iload_n (pc := 1) (x := x1) K dX8_priority_1 rfl ?_
  obtain ⟨g1, h⟩ := wgd h
  rcases wtryE h with ⟨v2, A3, e4, h⟩ | ⟨x5, A3, e4, h⟩
  · refine Vw.cV1 (pc := 2) (v := .inr (.inr v2)) (c' := 1) (n' := 6) K (s_X8_listed K.tr e4) cal_X8_listed cls6 u_5_47 g1 rfl ⟨by decide, by decide⟩ ⟨by decide, by decide⟩ rfl (Nat.le_of_ble_eq_true rfl) dX8_priority_2 rfl rfl ?_
    obtain ⟨g6, h⟩ := wgd h
    refine Vw.getI (pc := 5) (k := 12) (f := 76) K cls1 rfl rfl u_1_170 g6 dX8_priority_5 ?_
    exact Vw.iretT (pc := 8) K h E (by decide) (by decide) dX8_priority_8
  · exact Vw.cVX (pc := 2) K (s_X8_listed K.tr e4) cal_X8_listed cls6 u_5_47 g1 rfl ⟨by decide, by decide⟩ ⟨by decide, by decide⟩ rfl (Nat.le_of_ble_eq_true rfl) dX8_priority_2 (E.thI h)
theorem cal_X8_priority : wCalV RX8 yX8_priority (.code yX8_priority cX8_priority 2 (some .int)) 1 := ⟨by decide +kernel, u_5_145, u_5_146, u_1_1, u_5_147⟩
def f_X8_firstFrom (A : Hp) (x0 : Nat) : Option ((Int32 ⊕ Nat) × Hp) := if (hsh A x0).1 = 7 then ((f_X3_isDomain A (hgR A 384 x0 0)).bind fun v3 => (if v3 = (0 : Int32) then some (.inr 1, hmk A 0 0) else if (hsh A (hgR A 386 x0 0)).1 = 3 then ((f_X4_firstNotBefore A (hgR A 386 x0 0) (hgR A 384 x0 0)).bind fun v7 => some (.inl v7, A)) else none)) else none
set_option maxRecDepth 100000 in
theorem s_X8_firstFrom {l : Launch} {g : GT} (hl : l.stackTraces = false) {A : Hp} {x0 : Nat} {r : Int32 ⊕ Nat} {B : Hp} (h : f_X8_firstFrom A x0 = some (r, B)) : MetV l g yX8_firstFrom (.code yX8_firstFrom cX8_firstFrom 1 (some .int)) [.inr (.inr x0)] A (wrI r) B 6 100 1 6 := by
  refine MetV.ofV hl (by decide +kernel) (Nat.le_of_ble_eq_true rfl) (fun κ K E => ?_)
  have K : Cx κ cX8_firstFrom 1 RX8 6 100 1 6 := K
  have E : Ed κ (some .int) "firstFrom" (wrI r) B 1 6 := E
  unfold f_X8_firstFrom at h
  change Vw κ A 0 0 0 [(0, .inr (.inr x0))] []
  refine Vw.aload_n (pc := 0) (x := x0) K dX8_firstFrom_0 rfl ?_
  obtain ⟨g1, h⟩ := wgd h
  refine Vw.getR (pc := 1) (k := 0) (f := 384) K cls6 rfl rfl u_2_57 g1 dX8_firstFrom_1 ?_
  obtain ⟨v3, e2, h⟩ := wbd h
  refine Vw.cS1 (pc := 4) (v := .inl v3) (c' := 0) (n' := 0) K (s_X3_isDomain K.tr e2) cal_X3_isDomain u_3_203 rfl ⟨by decide, by decide⟩ ⟨by decide, by decide⟩ rfl (Nat.le_of_ble_eq_true rfl) dX8_firstFrom_4 rfl rfl ?_
  refine Vw.if_ne (pc := 7) (tgt := 20) K dX8_firstFrom_7 (by decide) (fun c4 => ?_) (fun c4 => ?_)
  · have h := wneg c4 h
    refine Vw.aload_n (pc := 20) (x := x0) K dX8_firstFrom_20 rfl ?_
    refine Vw.getR (pc := 21) (k := 2) (f := 386) K cls6 rfl rfl u_2_59 g1 dX8_firstFrom_21 ?_
    refine Vw.aload_n (pc := 24) (x := x0) K dX8_firstFrom_24 rfl ?_
    refine Vw.getR (pc := 25) (k := 0) (f := 384) K cls6 rfl rfl u_2_57 g1 dX8_firstFrom_25 ?_
    obtain ⟨g5, h⟩ := wgd h
    obtain ⟨v7, e6, h⟩ := wbd h
    refine Vw.cV1 (pc := 28) (v := .inl v7) (c' := 0) (n' := 0) K (s_X4_firstNotBefore K.tr e6) cal_X4_firstNotBefore cls2 u_5_155 g5 rfl ⟨by decide, by decide⟩ ⟨by decide, by decide⟩ rfl (Nat.le_of_ble_eq_true rfl) dX8_firstFrom_28 rfl rfl ?_
    exact Vw.iretT (pc := 31) K h E (by decide) (by decide) dX8_firstFrom_31
  · have h := wpos c4 h
    exact Vw.throwS1 (pc := 10) (k := 22) K (E.thI h) rfl u_3_35 u_1_13 dX8_firstFrom_10 dX8_firstFrom_13 dX8_firstFrom_14 dX8_firstFrom_16 dX8_firstFrom_19 (by decide) (Nat.le_of_ble_eq_true rfl) (by decide) (by decide)
theorem cal_X8_firstFrom : wCalV RX8 yX8_firstFrom (.code yX8_firstFrom cX8_firstFrom 1 (some .int)) 0 := ⟨by decide +kernel, u_5_152, u_5_153, u_1_1, u_5_154⟩
def f_X8_remove (A : Hp) (x0 : Nat) (x1 : Int32) : Option ((Int32 ⊕ Nat) × Hp) := if (hsh A x0).1 = 7 then (wtry (f_X8_needCookie A x0 x1) fun v2 A3 => if (hsh A3 x0).1 = 7 then if (hsh A3 (hgR A3 386 x0 0)).1 = 3 then ((f_X4_drop A3 (hgR A3 386 x0 0) x1).bind fun A9 => if (hsh A9 x0).1 = 7 then if (hsh A9 (hgR A9 386 x0 0)).1 = 3 then some (.inl (hgI A9 129 (hgR A9 386 x0 0) 0), A9) else none else none) else none else none) else none
set_option maxRecDepth 100000 in
theorem s_X8_remove {l : Launch} {g : GT} (hl : l.stackTraces = false) {A : Hp} {x0 : Nat} {x1 : Int32} {r : Int32 ⊕ Nat} {B : Hp} (h : f_X8_remove A x0 x1 = some (r, B)) : MetV l g yX8_remove (.code yX8_remove cX8_remove 2 (some .int)) [.inr (.inr x0), .inl x1] A (wrI r) B 7 111 1 6 := by
  refine MetV.ofV hl (by decide +kernel) (Nat.le_of_ble_eq_true rfl) (fun κ K E => ?_)
  have K : Cx κ cX8_remove 2 RX8 7 111 1 6 := K
  have E : Ed κ (some .int) "remove" (wrI r) B 1 6 := E
  unfold f_X8_remove at h
  change Vw κ A 0 0 0 [(0, .inr (.inr x0)), (1, .inl x1)] []
  refine Vw.aload_n (pc := 0) (x := x0) K dX8_remove_0 rfl ?_
  refine Vw.iload_n (pc := 1) (x := x1) K dX8_remove_1 rfl ?_
  obtain ⟨g1, h⟩ := wgd h
  rcases wtryE h with ⟨v2, A3, e4, h⟩ | ⟨x5, A3, e4, h⟩
  · refine Vw.cV0 (pc := 2) (c' := 1) (n' := 6) K (s_X8_needCookie K.tr e4) cal_X8_needCookie cls6 u_5_51 g1 rfl ⟨by decide, by decide⟩ ⟨by decide, by decide⟩ rfl (Nat.le_of_ble_eq_true rfl) dX8_remove_2 rfl rfl ?_
    refine Vw.aload_n (pc := 5) (x := x0) K dX8_remove_5 rfl ?_
    obtain ⟨g6, h⟩ := wgd h
    refine Vw.getR (pc := 6) (k := 2) (f := 386) K cls6 rfl rfl u_2_59 g6 dX8_remove_6 ?_
    refine Vw.iload_n (pc := 9) (x := x1) K dX8_remove_9 rfl ?_
    obtain ⟨g7, h⟩ := wgd h
    obtain ⟨A9, e8, h⟩ := wbd h
    refine Vw.cV0 (pc := 10) (c' := 1) (n' := 6) K (s_X4_drop K.tr e8) cal_X4_drop cls2 u_5_167 g7 rfl ⟨by decide, by decide⟩ ⟨by decide, by decide⟩ rfl (Nat.le_of_ble_eq_true rfl) dX8_remove_10 rfl rfl ?_
    refine Vw.aload_n (pc := 13) (x := x0) K dX8_remove_13 rfl ?_
    obtain ⟨g10, h⟩ := wgd h
    refine Vw.getR (pc := 14) (k := 2) (f := 386) K cls6 rfl rfl u_2_59 g10 dX8_remove_14 ?_
    obtain ⟨g11, h⟩ := wgd h
    refine Vw.getI (pc := 17) (k := 1) (f := 129) K cls2 rfl rfl u_2_8 g11 dX8_remove_17 ?_
    exact Vw.iretT (pc := 20) K h E (by decide) (by decide) dX8_remove_20
  · exact Vw.cVX (pc := 2) K (s_X8_needCookie K.tr e4) cal_X8_needCookie cls6 u_5_51 g1 rfl ⟨by decide, by decide⟩ ⟨by decide, by decide⟩ rfl (Nat.le_of_ble_eq_true rfl) dX8_remove_2 (E.thI h)
theorem cal_X8_remove : wCalV RX8 yX8_remove (.code yX8_remove cX8_remove 2 (some .int)) 1 := ⟨by decide +kernel, u_5_164, u_5_165, u_1_1, u_5_166⟩
def f_X8_clearSite (A : Hp) (x0 : Nat) : Option ((Int32 ⊕ Nat) × Hp) := if (hsh A x0).1 = 7 then (wtry (f_X8_needRequest A x0) fun v2 A3 => if (hsh A3 x0).1 = 7 then if (hsh A3 (hgR A3 386 x0 0)).1 = 3 then if (hsh A3 (hgR A3 134 (hgR A3 386 x0 0) 0)).1 = 1 then ((f_X4_dropSite A3 (hgR A3 386 x0 0) (hgR A3 0 (hgR A3 134 (hgR A3 386 x0 0) 0) 0)).bind fun p10 => some (.inl p10.1, p10.2)) else none else none else none) else none
set_option maxRecDepth 100000 in
theorem s_X8_clearSite {l : Launch} {g : GT} (hl : l.stackTraces = false) {A : Hp} {x0 : Nat} {r : Int32 ⊕ Nat} {B : Hp} (h : f_X8_clearSite A x0 = some (r, B)) : MetV l g yX8_clearSite (.code yX8_clearSite cX8_clearSite 1 (some .int)) [.inr (.inr x0)] A (wrI r) B 7 134 1 6 := by
  refine MetV.ofV hl (by decide +kernel) (Nat.le_of_ble_eq_true rfl) (fun κ K E => ?_)
  have K : Cx κ cX8_clearSite 1 RX8 7 134 1 6 := K
  have E : Ed κ (some .int) "clearSite" (wrI r) B 1 6 := E
  unfold f_X8_clearSite at h
  change Vw κ A 0 0 0 [(0, .inr (.inr x0))] []
  refine Vw.aload_n (pc := 0) (x := x0) K dX8_clearSite_0 rfl ?_
  obtain ⟨g1, h⟩ := wgd h
  rcases wtryE h with ⟨v2, A3, e4, h⟩ | ⟨x5, A3, e4, h⟩
  · refine Vw.cV0 (pc := 1) (c' := 1) (n' := 6) K (s_X8_needRequest K.tr e4) cal_X8_needRequest cls6 u_3_126 g1 rfl ⟨by decide, by decide⟩ ⟨by decide, by decide⟩ rfl (Nat.le_of_ble_eq_true rfl) dX8_clearSite_1 rfl rfl ?_
    refine Vw.aload_n (pc := 4) (x := x0) K dX8_clearSite_4 rfl ?_
    obtain ⟨g6, h⟩ := wgd h
    refine Vw.getR (pc := 5) (k := 2) (f := 386) K cls6 rfl rfl u_2_59 g6 dX8_clearSite_5 ?_
    refine Vw.aload_n (pc := 8) (x := x0) K dX8_clearSite_8 rfl ?_
    refine Vw.getR (pc := 9) (k := 2) (f := 386) K cls6 rfl rfl u_2_59 g6 dX8_clearSite_9 ?_
    obtain ⟨g7, h⟩ := wgd h
    refine Vw.getR (pc := 12) (k := 6) (f := 134) K cls2 rfl rfl u_2_16 g7 dX8_clearSite_12 ?_
    obtain ⟨g8, h⟩ := wgd h
    refine Vw.getR (pc := 15) (k := 0) (f := 0) K cls0 rfl rfl u_1_226 g8 dX8_clearSite_15 ?_
    obtain ⟨p10, e9, h⟩ := wbd h
    refine Vw.cV1 (pc := 18) (v := .inl p10.1) (c' := 1) (n' := 6) K (s_X4_dropSite K.tr e9) cal_X4_dropSite cls2 u_5_175 g7 rfl ⟨by decide, by decide⟩ ⟨by decide, by decide⟩ rfl (Nat.le_of_ble_eq_true rfl) dX8_clearSite_18 rfl rfl ?_
    exact Vw.iretT (pc := 21) K h E (by decide) (by decide) dX8_clearSite_21
  · exact Vw.cVX (pc := 1) K (s_X8_needRequest K.tr e4) cal_X8_needRequest cls6 u_3_126 g1 rfl ⟨by decide, by decide⟩ ⟨by decide, by decide⟩ rfl (Nat.le_of_ble_eq_true rfl) dX8_clearSite_1 (E.thI h)
theorem cal_X8_clearSite : wCalV RX8 yX8_clearSite (.code yX8_clearSite cX8_clearSite 1 (some .int)) 0 := ⟨by decide +kernel, u_5_172, u_5_173, u_1_1, u_5_174⟩
def f_X8_endSession (A : Hp) (x0 : Nat) : Option (Int32 × Hp) := if (hsh A x0).1 = 7 then if (hsh A (hgR A 386 x0 0)).1 = 3 then ((f_X4_dropSession A (hgR A 386 x0 0)).bind fun p4 => some (p4.1, p4.2)) else none else none
set_option maxRecDepth 100000 in
theorem s_X8_endSession {l : Launch} {g : GT} (hl : l.stackTraces = false) {A : Hp} {x0 : Nat} {r : Int32} {B : Hp} (h : f_X8_endSession A x0 = some (r, B)) : MetV l g yX8_endSession (.code yX8_endSession cX8_endSession 1 (some .int)) [.inr (.inr x0)] A (.inl (some (.inl r))) B 2 45 0 0 := by
  refine MetV.ofV hl (by decide +kernel) (Nat.le_of_ble_eq_true rfl) (fun κ K E => ?_)
  have K : Cx κ cX8_endSession 1 RX8 2 45 0 0 := K
  have E : Ed κ (some .int) "endSession" (.inl (some (.inl r))) B 0 0 := E
  unfold f_X8_endSession at h
  change Vw κ A 0 0 0 [(0, .inr (.inr x0))] []
  refine Vw.aload_n (pc := 0) (x := x0) K dX8_endSession_0 rfl ?_
  obtain ⟨g1, h⟩ := wgd h
  refine Vw.getR (pc := 1) (k := 2) (f := 386) K cls6 rfl rfl u_2_59 g1 dX8_endSession_1 ?_
  obtain ⟨g2, h⟩ := wgd h
  obtain ⟨p4, e3, h⟩ := wbd h
  refine Vw.cV1 (pc := 4) (v := .inl p4.1) (c' := 0) (n' := 0) K (s_X4_dropSession K.tr e3) cal_X4_dropSession cls2 u_2_200 g2 rfl ⟨by decide, by decide⟩ ⟨by decide, by decide⟩ rfl (Nat.le_of_ble_eq_true rfl) dX8_endSession_4 rfl rfl ?_
  exact Vw.iretH (pc := 7) K h E (by decide) (by decide) dX8_endSession_7
theorem cal_X8_endSession : wCalV RX8 yX8_endSession (.code yX8_endSession cX8_endSession 1 (some .int)) 0 := ⟨by decide +kernel, u_2_197, u_2_198, u_1_1, u_2_199⟩
def f_X8_advance (A : Hp) (x0 : Nat) (x1 : Int32) : Option ((Int32 ⊕ Nat) × Hp) := (if (0 : Int32) ≤ x1 then if (hsh A x0).1 = 7 then if (hsh A (hgR A 386 x0 0)).1 = 3 then ((f_X4_pass A (hgR A 386 x0 0) x1).bind fun p5 => some (.inl p5.1, p5.2)) else none else none else some (.inr 1, hmk A 0 0))
set_option maxRecDepth 100000 in
theorem s_X8_advance {l : Launch} {g : GT} (hl : l.stackTraces = false) {A : Hp} {x0 : Nat} {x1 : Int32} {r : Int32 ⊕ Nat} {B : Hp} (h : f_X8_advance A x0 x1 = some (r, B)) : MetV l g yX8_advance (.code yX8_advance cX8_advance 2 (some .int)) [.inr (.inr x0), .inl x1] A (wrI r) B 6 90 1 6 := by
  refine MetV.ofV hl (by decide +kernel) (Nat.le_of_ble_eq_true rfl) (fun κ K E => ?_)
  have K : Cx κ cX8_advance 2 RX8 6 90 1 6 := K
  have E : Ed κ (some .int) "advance" (wrI r) B 1 6 := E
  unfold f_X8_advance at h
  change Vw κ A 0 0 0 [(0, .inr (.inr x0)), (1, .inl x1)] []
  refine Vw.iload_n (pc := 0) (x := x1) K dX8_advance_0 rfl ?_
  refine Vw.if_ge (pc := 1) (tgt := 14) K dX8_advance_1 (by decide) (fun c1 => ?_) (fun c1 => ?_)
  · have h := wpos c1 h
    refine Vw.aload_n (pc := 14) (x := x0) K dX8_advance_14 rfl ?_
    obtain ⟨g2, h⟩ := wgd h
    refine Vw.getR (pc := 15) (k := 2) (f := 386) K cls6 rfl rfl u_2_59 g2 dX8_advance_15 ?_
    refine Vw.iload_n (pc := 18) (x := x1) K dX8_advance_18 rfl ?_
    obtain ⟨g3, h⟩ := wgd h
    obtain ⟨p5, e4, h⟩ := wbd h
    refine Vw.cV1 (pc := 19) (v := .inl p5.1) (c' := 0) (n' := 0) K (s_X4_pass K.tr e4) cal_X4_pass cls2 u_5_187 g3 rfl ⟨by decide, by decide⟩ ⟨by decide, by decide⟩ rfl (Nat.le_of_ble_eq_true rfl) dX8_advance_19 rfl rfl ?_
    exact Vw.iretT (pc := 22) K h E (by decide) (by decide) dX8_advance_22
  · have h := wneg c1 h
    exact Vw.throwS1 (pc := 4) (k := 26) K (E.thI h) rfl u_3_35 u_1_13 dX8_advance_4 dX8_advance_7 dX8_advance_8 dX8_advance_10 dX8_advance_13 (by decide) (Nat.le_of_ble_eq_true rfl) (by decide) (by decide)
theorem cal_X8_advance : wCalV RX8 yX8_advance (.code yX8_advance cX8_advance 2 (some .int)) 1 := ⟨by decide +kernel, u_5_183, u_5_184, u_1_1, u_5_185⟩
def f_X8_time (A : Hp) (x0 : Nat) : Option (Int64) := if (hsh A x0).1 = 7 then if (hsh A (hgR A 386 x0 0)).1 = 3 then some (hgL A 140 (hgR A 386 x0 0) 0) else none else none
set_option maxRecDepth 100000 in
theorem s_X8_time {l : Launch} {g : GT} (hl : l.stackTraces = false) {A : Hp} {x0 : Nat} {r : Int64} (h : f_X8_time A x0 = some r) : MetV l g yX8_time (.code yX8_time cX8_time 1 (some .long)) [.inr (.inr x0)] A (.inl (some (.inr (.inl r)))) A 0 0 0 0 := by
  refine MetV.ofV hl (by decide +kernel) (Nat.le_of_ble_eq_true rfl) (fun κ K E => ?_)
  have K : Cx κ cX8_time 1 RX8 0 0 0 0 := K
  have E : Ed κ (some .long) "time" (.inl (some (.inr (.inl r)))) A 0 0 := E
  unfold f_X8_time at h
  change Vw κ A 0 0 0 [(0, .inr (.inr x0))] []
  refine Vw.aload_n (pc := 0) (x := x0) K dX8_time_0 rfl ?_
  obtain ⟨g1, h⟩ := wgd h
  refine Vw.getR (pc := 1) (k := 2) (f := 386) K cls6 rfl rfl u_2_59 g1 dX8_time_1 ?_
  obtain ⟨g2, h⟩ := wgd h
  refine Vw.getL (pc := 4) (k := 12) (f := 140) K cls2 rfl rfl u_2_28 g2 dX8_time_4 ?_
  exact Vw.lretE (pc := 7) K (Option.some.inj h) rfl E (by decide) (by decide) dX8_time_7
theorem cal_X8_time : wCalV RX8 yX8_time (.code yX8_time cX8_time 1 (some .long)) 0 := ⟨by decide +kernel, u_2_210, u_2_211, u_1_1, u_2_212⟩
def f_X8_nextExpiry (A : Hp) (x0 : Nat) : Option (Int64) := if (hsh A x0).1 = 7 then if (hsh A (hgR A 386 x0 0)).1 = 3 then ((f_X4_earliestExpiry A (hgR A 386 x0 0)).bind fun v4 => some v4) else none else none
set_option maxRecDepth 100000 in
theorem s_X8_nextExpiry {l : Launch} {g : GT} (hl : l.stackTraces = false) {A : Hp} {x0 : Nat} {r : Int64} (h : f_X8_nextExpiry A x0 = some r) : MetV l g yX8_nextExpiry (.code yX8_nextExpiry cX8_nextExpiry 1 (some .long)) [.inr (.inr x0)] A (.inl (some (.inr (.inl r)))) A 1 25 0 0 := by
  refine MetV.ofV hl (by decide +kernel) (Nat.le_of_ble_eq_true rfl) (fun κ K E => ?_)
  have K : Cx κ cX8_nextExpiry 1 RX8 1 25 0 0 := K
  have E : Ed κ (some .long) "nextExpiry" (.inl (some (.inr (.inl r)))) A 0 0 := E
  unfold f_X8_nextExpiry at h
  change Vw κ A 0 0 0 [(0, .inr (.inr x0))] []
  refine Vw.aload_n (pc := 0) (x := x0) K dX8_nextExpiry_0 rfl ?_
  obtain ⟨g1, h⟩ := wgd h
  refine Vw.getR (pc := 1) (k := 2) (f := 386) K cls6 rfl rfl u_2_59 g1 dX8_nextExpiry_1 ?_
  obtain ⟨g2, h⟩ := wgd h
  obtain ⟨v4, e3, h⟩ := wbd h
  refine Vw.cV1 (pc := 4) (v := .inr (.inl v4)) (c' := 0) (n' := 0) K (s_X4_earliestExpiry K.tr e3) cal_X4_earliestExpiry cls2 u_2_217 g2 rfl ⟨by decide, by decide⟩ ⟨by decide, by decide⟩ rfl (Nat.le_of_ble_eq_true rfl) dX8_nextExpiry_4 rfl rfl ?_
  exact Vw.lretE (pc := 7) K (Option.some.inj h) rfl E (by decide) (by decide) dX8_nextExpiry_7
theorem cal_X8_nextExpiry : wCalV RX8 yX8_nextExpiry (.code yX8_nextExpiry cX8_nextExpiry 1 (some .long)) 0 := ⟨by decide +kernel, u_2_214, u_2_215, u_1_1, u_2_216⟩
def f_X8_setLimit (A : Hp) (x0 : Nat) (x1 : Int32) (x2 : Int32) : Option ((Int32 ⊕ Nat) × Hp) := (if x1 < (0 : Int32) then some (.inr 3, hmk A 0 0) else (if x1 < (2 : Int32) then (if x2 < (1 : Int32) then some (.inr 1, hmk A 0 0) else (if x2 ≤ (40 : Int32) then if (hsh A x0).1 = 7 then if (hsh A (hgR A 386 x0 0)).1 = 3 then if (hsh A (hgR A 136 (hgR A 386 x0 0) 0)).1 = 10 then if wix x1 (hsh A (hgR A 136 (hgR A 386 x0 0) 0)).2 then some (.inl (hgI A 1034 (hgR A 136 (hgR A 386 x0 0) 0) x1.toNatClampNeg), (hsI A 1034 (hgR A 136 (hgR A 386 x0 0) 0) x1.toNatClampNeg x2)) else none else none else none else none else some (.inr 1, hmk A 0 0))) else some (.inr 3, hmk A 0 0)))
set_option maxRecDepth 100000 in
theorem s_X8_setLimit {l : Launch} {g : GT} (hl : l.stackTraces = false) {A : Hp} {x0 : Nat} {x1 : Int32} {x2 : Int32} {r : Int32 ⊕ Nat} {B : Hp} (h : f_X8_setLimit A x0 x1 x2 = some (r, B)) : MetV l g yX8_setLimit (.code yX8_setLimit cX8_setLimit 4 (some .int)) [.inr (.inr x0), .inl x1, .inl x2] A (wrI r) B 6 90 1 6 := by
  refine MetV.ofV hl (by decide +kernel) (Nat.le_of_ble_eq_true rfl) (fun κ K E => ?_)
  have K : Cx κ cX8_setLimit 4 RX8 6 90 1 6 := K
  have E : Ed κ (some .int) "setLimit" (wrI r) B 1 6 := E
  unfold f_X8_setLimit at h
  change Vw κ A 0 0 0 [(0, .inr (.inr x0)), (1, .inl x1), (2, .inl x2)] []
  refine Vw.iload_n (pc := 0) (x := x1) K dX8_setLimit_0 rfl ?_
  refine Vw.if_lt (pc := 1) (tgt := 9) K dX8_setLimit_1 (by decide) (fun c1 => ?_) (fun c1 => ?_)
  · have h := wpos c1 h
    exact Vw.throwS3 (pc := 9) (k := 27) K (E.thI h) rfl u_3_178 u_1_21 dX8_setLimit_9 dX8_setLimit_12 dX8_setLimit_13 dX8_setLimit_15 dX8_setLimit_18 (by decide) (Nat.le_of_ble_eq_true rfl) (by decide) (by decide)
  · have h := wneg c1 h
    refine Vw.iload_n (pc := 4) (x := x1) K dX8_setLimit_4 rfl ?_
    refine Vw.iconst (pc := 5) (v := (2 : Int32)) K (by decide) dX8_setLimit_5 ?_
    refine Vw.icmp_lt (pc := 6) (tgt := 19) K dX8_setLimit_6 (by decide) (fun c2 => ?_) (fun c2 => ?_)
    · have h := wpos c2 h
      refine Vw.iload_n (pc := 19) (x := x2) K dX8_setLimit_19 rfl ?_
      refine Vw.iconst (pc := 20) (v := (1 : Int32)) K (by decide) dX8_setLimit_20 ?_
      refine Vw.icmp_lt (pc := 21) (tgt := 30) K dX8_setLimit_21 (by decide) (fun c3 => ?_) (fun c3 => ?_)
      · have h := wpos c3 h
        exact Vw.throwS1 (pc := 30) (k := 28) K (E.thI h) rfl u_3_35 u_1_13 dX8_setLimit_30 dX8_setLimit_33 dX8_setLimit_34 dX8_setLimit_36 dX8_setLimit_39 (by decide) (Nat.le_of_ble_eq_true rfl) (by decide) (by decide)
      · have h := wneg c3 h
        refine Vw.iload_n (pc := 24) (x := x2) K dX8_setLimit_24 rfl ?_
        refine Vw.bipush (pc := 25) (v := (40 : Int32)) K (by decide) dX8_setLimit_25 ?_
        refine Vw.icmp_le (pc := 27) (tgt := 40) K dX8_setLimit_27 (by decide) (fun c4 => ?_) (fun c4 => ?_)
        · have h := wpos c4 h
          refine Vw.aload_n (pc := 40) (x := x0) K dX8_setLimit_40 rfl ?_
          obtain ⟨g5, h⟩ := wgd h
          refine Vw.getR (pc := 41) (k := 2) (f := 386) K cls6 rfl rfl u_2_59 g5 dX8_setLimit_41 ?_
          obtain ⟨g6, h⟩ := wgd h
          refine Vw.getR (pc := 44) (k := 8) (f := 136) K cls2 rfl rfl u_2_20 g6 dX8_setLimit_44 ?_
          refine Vw.iload_n (pc := 47) (x := x1) K dX8_setLimit_47 rfl ?_
          obtain ⟨g7, h⟩ := wgd h
          obtain ⟨g8, h⟩ := wgd h
          refine Vw.iaload (pc := 48) K g7 g8 dX8_setLimit_48 ?_
          refine Vw.istore_n (pc := 49) K dX8_setLimit_49 (by decide) ?_
          refine Vw.aload_n (pc := 50) (x := x0) K dX8_setLimit_50 rfl ?_
          refine Vw.getR (pc := 51) (k := 2) (f := 386) K cls6 rfl rfl u_2_59 g5 dX8_setLimit_51 ?_
          refine Vw.getR (pc := 54) (k := 8) (f := 136) K cls2 rfl rfl u_2_20 g6 dX8_setLimit_54 ?_
          refine Vw.iload_n (pc := 57) (x := x1) K dX8_setLimit_57 rfl ?_
          refine Vw.iload_n (pc := 58) (x := x2) K dX8_setLimit_58 rfl ?_
          refine Vw.iastore (pc := 59) K g7 g8 dX8_setLimit_59 ?_
          refine Vw.iload_n (pc := 60) (x := (hgI A 1034 (hgR A 136 (hgR A 386 x0 0) 0) x1.toNatClampNeg)) K dX8_setLimit_60 rfl ?_
          exact Vw.iretT (pc := 61) K h E (by decide) (by decide) dX8_setLimit_61
        · have h := wneg c4 h
          exact Vw.throwS1 (pc := 30) (k := 28) K (E.thI h) rfl u_3_35 u_1_13 dX8_setLimit_30 dX8_setLimit_33 dX8_setLimit_34 dX8_setLimit_36 dX8_setLimit_39 (by decide) (Nat.le_of_ble_eq_true rfl) (by decide) (by decide)
    · have h := wneg c2 h
      exact Vw.throwS3 (pc := 9) (k := 27) K (E.thI h) rfl u_3_178 u_1_21 dX8_setLimit_9 dX8_setLimit_12 dX8_setLimit_13 dX8_setLimit_15 dX8_setLimit_18 (by decide) (Nat.le_of_ble_eq_true rfl) (by decide) (by decide)
theorem cal_X8_setLimit : wCalV RX8 yX8_setLimit (.code yX8_setLimit cX8_setLimit 4 (some .int)) 2 := ⟨by decide +kernel, u_5_195, u_5_196, u_1_1, u_5_197⟩
def f_X8_setPolicy (A : Hp) (x0 : Nat) (x1 : Int32) : Option ((Int32 ⊕ Nat) × Hp) := (if x1 < (0 : Int32) then some (.inr 1, hmk A 0 0) else (if x1 < (4 : Int32) then if (hsh A x0).1 = 7 then if (hsh A (hgR A 386 x0 0)).1 = 3 then some (.inl (hgI A 138 (hgR A 386 x0 0) 0), (hsI A 138 (hgR A 386 x0 0) 0 x1)) else none else none else some (.inr 1, hmk A 0 0)))
set_option maxRecDepth 100000 in
theorem s_X8_setPolicy {l : Launch} {g : GT} (hl : l.stackTraces = false) {A : Hp} {x0 : Nat} {x1 : Int32} {r : Int32 ⊕ Nat} {B : Hp} (h : f_X8_setPolicy A x0 x1 = some (r, B)) : MetV l g yX8_setPolicy (.code yX8_setPolicy cX8_setPolicy 3 (some .int)) [.inr (.inr x0), .inl x1] A (wrI r) B 6 90 1 6 := by
  refine MetV.ofV hl (by decide +kernel) (Nat.le_of_ble_eq_true rfl) (fun κ K E => ?_)
  have K : Cx κ cX8_setPolicy 3 RX8 6 90 1 6 := K
  have E : Ed κ (some .int) "setPolicy" (wrI r) B 1 6 := E
  unfold f_X8_setPolicy at h
  change Vw κ A 0 0 0 [(0, .inr (.inr x0)), (1, .inl x1)] []
  refine Vw.iload_n (pc := 0) (x := x1) K dX8_setPolicy_0 rfl ?_
  refine Vw.if_lt (pc := 1) (tgt := 9) K dX8_setPolicy_1 (by decide) (fun c1 => ?_) (fun c1 => ?_)
  · have h := wpos c1 h
    exact Vw.throwS1 (pc := 9) (k := 29) K (E.thI h) rfl u_3_35 u_1_13 dX8_setPolicy_9 dX8_setPolicy_12 dX8_setPolicy_13 dX8_setPolicy_15 dX8_setPolicy_18 (by decide) (Nat.le_of_ble_eq_true rfl) (by decide) (by decide)
  · have h := wneg c1 h
    refine Vw.iload_n (pc := 4) (x := x1) K dX8_setPolicy_4 rfl ?_
    refine Vw.iconst (pc := 5) (v := (4 : Int32)) K (by decide) dX8_setPolicy_5 ?_
    refine Vw.icmp_lt (pc := 6) (tgt := 19) K dX8_setPolicy_6 (by decide) (fun c2 => ?_) (fun c2 => ?_)
    · have h := wpos c2 h
      refine Vw.aload_n (pc := 19) (x := x0) K dX8_setPolicy_19 rfl ?_
      obtain ⟨g3, h⟩ := wgd h
      refine Vw.getR (pc := 20) (k := 2) (f := 386) K cls6 rfl rfl u_2_59 g3 dX8_setPolicy_20 ?_
      obtain ⟨g4, h⟩ := wgd h
      refine Vw.getI (pc := 23) (k := 10) (f := 138) K cls2 rfl rfl u_2_24 g4 dX8_setPolicy_23 ?_
      refine Vw.istore_n (pc := 26) K dX8_setPolicy_26 (by decide) ?_
      refine Vw.aload_n (pc := 27) (x := x0) K dX8_setPolicy_27 rfl ?_
      refine Vw.getR (pc := 28) (k := 2) (f := 386) K cls6 rfl rfl u_2_59 g3 dX8_setPolicy_28 ?_
      refine Vw.iload_n (pc := 31) (x := x1) K dX8_setPolicy_31 rfl ?_
      refine Vw.putI (pc := 32) (k := 10) (f := 138) K cls2 rfl rfl u_2_24 g4 (Or.inl rfl) rfl rfl dX8_setPolicy_32 ?_
      refine Vw.iload_n (pc := 35) (x := (hgI A 138 (hgR A 386 x0 0) 0)) K dX8_setPolicy_35 rfl ?_
      exact Vw.iretT (pc := 36) K h E (by decide) (by decide) dX8_setPolicy_36
    · have h := wneg c2 h
      exact Vw.throwS1 (pc := 9) (k := 29) K (E.thI h) rfl u_3_35 u_1_13 dX8_setPolicy_9 dX8_setPolicy_12 dX8_setPolicy_13 dX8_setPolicy_15 dX8_setPolicy_18 (by decide) (Nat.le_of_ble_eq_true rfl) (by decide) (by decide)
theorem cal_X8_setPolicy : wCalV RX8 yX8_setPolicy (.code yX8_setPolicy cX8_setPolicy 3 (some .int)) 1 := ⟨by decide +kernel, u_5_204, u_5_205, u_1_1, u_5_206⟩
def f_X8_victim (A : Hp) (x0 : Nat) : Option (Int32) := if (hsh A x0).1 = 7 then if (hsh A (hgR A 386 x0 0)).1 = 3 then ((f_X4_victimOfAll A (hgR A 386 x0 0) (-1 : Int32)).bind fun v4 => some v4) else none else none
set_option maxRecDepth 100000 in
theorem s_X8_victim {l : Launch} {g : GT} (hl : l.stackTraces = false) {A : Hp} {x0 : Nat} {r : Int32} (h : f_X8_victim A x0 = some r) : MetV l g yX8_victim (.code yX8_victim cX8_victim 1 (some .int)) [.inr (.inr x0)] A (.inl (some (.inl r))) A 4 92 0 0 := by
  refine MetV.ofV hl (by decide +kernel) (Nat.le_of_ble_eq_true rfl) (fun κ K E => ?_)
  have K : Cx κ cX8_victim 1 RX8 4 92 0 0 := K
  have E : Ed κ (some .int) "victim" (.inl (some (.inl r))) A 0 0 := E
  unfold f_X8_victim at h
  change Vw κ A 0 0 0 [(0, .inr (.inr x0))] []
  refine Vw.aload_n (pc := 0) (x := x0) K dX8_victim_0 rfl ?_
  obtain ⟨g1, h⟩ := wgd h
  refine Vw.getR (pc := 1) (k := 2) (f := 386) K cls6 rfl rfl u_2_59 g1 dX8_victim_1 ?_
  refine Vw.iconst (pc := 4) (v := (-1 : Int32)) K (by decide) dX8_victim_4 ?_
  obtain ⟨g2, h⟩ := wgd h
  obtain ⟨v4, e3, h⟩ := wbd h
  refine Vw.cV1 (pc := 5) (v := .inl v4) (c' := 0) (n' := 0) K (s_X4_victimOfAll K.tr e3) cal_X4_victimOfAll cls2 u_2_225 g2 rfl ⟨by decide, by decide⟩ ⟨by decide, by decide⟩ rfl (Nat.le_of_ble_eq_true rfl) dX8_victim_5 rfl rfl ?_
  exact Vw.iretE (pc := 8) K (Option.some.inj h) rfl E (by decide) (by decide) dX8_victim_8
theorem cal_X8_victim : wCalV RX8 yX8_victim (.code yX8_victim cX8_victim 1 (some .int)) 0 := ⟨by decide +kernel, u_2_222, u_2_223, u_1_1, u_2_224⟩
def f_X8_count (A : Hp) (x0 : Nat) (x1 : Int32) : Option ((Int32 ⊕ Nat) × Hp) := (if x1 < (0 : Int32) then some (.inr 3, hmk A 0 0) else (if x1 < (7 : Int32) then if (hsh A x0).1 = 7 then if (hsh A (hgR A 386 x0 0)).1 = 3 then if (hsh A (hgR A 137 (hgR A 386 x0 0) 0)).1 = 10 then if wix x1 (hsh A (hgR A 137 (hgR A 386 x0 0) 0)).2 then some (.inl (hgI A 1034 (hgR A 137 (hgR A 386 x0 0) 0) x1.toNatClampNeg), A) else none else none else none else none else some (.inr 3, hmk A 0 0)))
set_option maxRecDepth 100000 in
theorem s_X8_count {l : Launch} {g : GT} (hl : l.stackTraces = false) {A : Hp} {x0 : Nat} {x1 : Int32} {r : Int32 ⊕ Nat} {B : Hp} (h : f_X8_count A x0 x1 = some (r, B)) : MetV l g yX8_count (.code yX8_count cX8_count 2 (some .int)) [.inr (.inr x0), .inl x1] A (wrI r) B 6 90 1 6 := by
  refine MetV.ofV hl (by decide +kernel) (Nat.le_of_ble_eq_true rfl) (fun κ K E => ?_)
  have K : Cx κ cX8_count 2 RX8 6 90 1 6 := K
  have E : Ed κ (some .int) "count" (wrI r) B 1 6 := E
  unfold f_X8_count at h
  change Vw κ A 0 0 0 [(0, .inr (.inr x0)), (1, .inl x1)] []
  refine Vw.iload_n (pc := 0) (x := x1) K dX8_count_0 rfl ?_
  refine Vw.if_lt (pc := 1) (tgt := 10) K dX8_count_1 (by decide) (fun c1 => ?_) (fun c1 => ?_)
  · have h := wpos c1 h
    exact Vw.throwS3 (pc := 10) (k := 30) K (E.thI h) rfl u_3_178 u_1_21 dX8_count_10 dX8_count_13 dX8_count_14 dX8_count_16 dX8_count_19 (by decide) (Nat.le_of_ble_eq_true rfl) (by decide) (by decide)
  · have h := wneg c1 h
    refine Vw.iload_n (pc := 4) (x := x1) K dX8_count_4 rfl ?_
    refine Vw.bipush (pc := 5) (v := (7 : Int32)) K (by decide) dX8_count_5 ?_
    refine Vw.icmp_lt (pc := 7) (tgt := 20) K dX8_count_7 (by decide) (fun c2 => ?_) (fun c2 => ?_)
    · have h := wpos c2 h
      refine Vw.aload_n (pc := 20) (x := x0) K dX8_count_20 rfl ?_
      obtain ⟨g3, h⟩ := wgd h
      refine Vw.getR (pc := 21) (k := 2) (f := 386) K cls6 rfl rfl u_2_59 g3 dX8_count_21 ?_
      obtain ⟨g4, h⟩ := wgd h
      refine Vw.getR (pc := 24) (k := 9) (f := 137) K cls2 rfl rfl u_2_22 g4 dX8_count_24 ?_
      refine Vw.iload_n (pc := 27) (x := x1) K dX8_count_27 rfl ?_
      obtain ⟨g5, h⟩ := wgd h
      obtain ⟨g6, h⟩ := wgd h
      refine Vw.iaload (pc := 28) K g5 g6 dX8_count_28 ?_
      exact Vw.iretT (pc := 29) K h E (by decide) (by decide) dX8_count_29
    · have h := wneg c2 h
      exact Vw.throwS3 (pc := 10) (k := 30) K (E.thI h) rfl u_3_178 u_1_21 dX8_count_10 dX8_count_13 dX8_count_14 dX8_count_16 dX8_count_19 (by decide) (Nat.le_of_ble_eq_true rfl) (by decide) (by decide)
theorem cal_X8_count : wCalV RX8 yX8_count (.code yX8_count cX8_count 2 (some .int)) 1 := ⟨by decide +kernel, u_5_212, u_5_213, u_1_1, u_5_214⟩
def f_X8_needSlot (A : Hp) (x0 : Nat) (x1 : Int32) : Option ((Unit ⊕ Nat) × Hp) := (if x1 < (0 : Int32) then some (.inr 3, hmk A 0 0) else (if x1 < (2 : Int32) then some (.inl (), A) else some (.inr 3, hmk A 0 0)))
set_option maxRecDepth 100000 in
theorem s_X8_needSlot {l : Launch} {g : GT} (hl : l.stackTraces = false) {A : Hp} {x0 : Nat} {x1 : Int32} {r : Unit ⊕ Nat} {B : Hp} (h : f_X8_needSlot A x0 x1 = some (r, B)) : MetV l g yX8_needSlot (.code yX8_needSlot cX8_needSlot 2 none) [.inr (.inr x0), .inl x1] A (wrV r) B 6 90 1 6 := by
  refine MetV.ofV hl (by decide +kernel) (Nat.le_of_ble_eq_true rfl) (fun κ K E => ?_)
  have K : Cx κ cX8_needSlot 2 RX8 6 90 1 6 := K
  have E : Ed κ none "needSlot" (wrV r) B 1 6 := E
  unfold f_X8_needSlot at h
  change Vw κ A 0 0 0 [(0, .inr (.inr x0)), (1, .inl x1)] []
  refine Vw.iload_n (pc := 0) (x := x1) K dX8_needSlot_0 rfl ?_
  refine Vw.if_lt (pc := 1) (tgt := 9) K dX8_needSlot_1 (by decide) (fun c1 => ?_) (fun c1 => ?_)
  · have h := wpos c1 h
    exact Vw.throwW3 (pc := 9) (k := 35) K (E.thV h) rfl u_3_178 u_1_21 dX8_needSlot_9 dX8_needSlot_12 dX8_needSlot_13 dX8_needSlot_16 dX8_needSlot_19 (by decide) (Nat.le_of_ble_eq_true rfl) (by decide) (by decide)
  · have h := wneg c1 h
    refine Vw.iload_n (pc := 4) (x := x1) K dX8_needSlot_4 rfl ?_
    refine Vw.iconst (pc := 5) (v := (2 : Int32)) K (by decide) dX8_needSlot_5 ?_
    refine Vw.icmp_lt (pc := 6) (tgt := 20) K dX8_needSlot_6 (by decide) (fun c2 => ?_) (fun c2 => ?_)
    · have h := wpos c2 h
      exact Vw.vretT (pc := 20) K h E (by decide) (by decide) dX8_needSlot_20
    · have h := wneg c2 h
      exact Vw.throwW3 (pc := 9) (k := 35) K (E.thV h) rfl u_3_178 u_1_21 dX8_needSlot_9 dX8_needSlot_12 dX8_needSlot_13 dX8_needSlot_16 dX8_needSlot_19 (by decide) (Nat.le_of_ble_eq_true rfl) (by decide) (by decide)
theorem cal_X8_needSlot : wCalV RX8 yX8_needSlot (.code yX8_needSlot cX8_needSlot 2 none) 1 := ⟨by decide +kernel, u_5_225, us_3_2, u_1_1, u_5_226⟩
def k_X8_save_31  (A : Hp) (x0 : Nat) (x2 : Nat)  : Option ((Int32 ⊕ Nat) × Hp) := if (hsh A x0).1 = 7 then if (hsh A x2).1 = 3 then ((f_X4_become A x2 (hgR A 386 x0 0)).bind fun A4 => if (hsh A4 x2).1 = 3 then some (.inl (hgI A4 129 x2 0), A4) else none) else none else none
set_option maxRecDepth 100000 in
theorem s_X8_save_31 {κ : KT} {r : Int32 ⊕ Nat} {B : Hp} {A : Hp} {x0 : Nat} {x2 : Nat}   (K : Cx κ cX8_save 3 RX8 7 113 423 8600) (E : Ed κ (some .int) "save" (wrI r) B 423 8600)  (h : k_X8_save_31  A x0 x2  = some (r, B)) : Vw κ A 423 8600 31 [(0, .inr (.inr x0)), (2, .inr (.inr x2))] [] := by
  unfold k_X8_save_31 at h
  refine Vw.aload_n (pc := 31) (x := x2) K dX8_save_31 rfl ?_
  refine Vw.aload_n (pc := 32) (x := x0) K dX8_save_32 rfl ?_
  obtain ⟨g1, h⟩ := wgd h
  refine Vw.getR (pc := 33) (k := 2) (f := 386) K cls6 rfl rfl u_2_59 g1 dX8_save_33 ?_
  obtain ⟨g2, h⟩ := wgd h
  obtain ⟨A4, e3, h⟩ := wbd h
  refine Vw.cV0 (pc := 36) (c' := 423) (n' := 8600) K (s_X4_become K.tr e3) cal_X4_become cls2 u_5_228 g2 rfl ⟨by decide, by decide⟩ ⟨by decide, by decide⟩ rfl (Nat.le_of_ble_eq_true rfl) dX8_save_36 rfl rfl ?_
  refine Vw.aload_n (pc := 39) (x := x2) K dX8_save_39 rfl ?_
  obtain ⟨g5, h⟩ := wgd h
  refine Vw.getI (pc := 40) (k := 1) (f := 129) K cls2 rfl rfl u_2_8 g5 dX8_save_40 ?_
  exact Vw.iretT (pc := 43) K h E (by decide) (by decide) dX8_save_43
def f_X8_save (A : Hp) (x0 : Nat) (x1 : Int32) : Option ((Int32 ⊕ Nat) × Hp) := if (hsh A x0).1 = 7 then (wtry (f_X8_needSlot A x0 x1) fun v7 A8 => if (hsh A8 x0).1 = 7 then if (hsh A8 (hgR A8 387 x0 0)).1 = 14 then if wix x1 (hsh A8 (hgR A8 387 x0 0)).2 then (if (hgR A8 1038 (hgR A8 387 x0 0) x1.toNatClampNeg) = 0 then if (hsh (hmk A8 3 0) (hsz A8)).1 = 3 then ((f_X4_init (hmk A8 3 0) (hsz A8)).bind fun A17 => if (hsh A17 x0).1 = 7 then if (hsh A17 (hgR A17 387 x0 0)).1 = 14 then if (hsh A17 (hsz A8)).1 = 3 then if wix x1 (hsh A17 (hgR A17 387 x0 0)).2 then k_X8_save_31 (hsR A17 1038 (hgR A17 387 x0 0) x1.toNatClampNeg (hsz A8)) x0 (hsz A8) else none else none else none else none) else none else k_X8_save_31 A8 x0 (hgR A8 1038 (hgR A8 387 x0 0) x1.toNatClampNeg)) else none else none else none) else none
set_option maxRecDepth 100000 in
theorem s_X8_save {l : Launch} {g : GT} (hl : l.stackTraces = false) {A : Hp} {x0 : Nat} {x1 : Int32} {r : Int32 ⊕ Nat} {B : Hp} (h : f_X8_save A x0 x1 = some (r, B)) : MetV l g yX8_save (.code yX8_save cX8_save 3 (some .int)) [.inr (.inr x0), .inl x1] A (wrI r) B 7 113 423 8600 := by
  refine MetV.ofV hl (by decide +kernel) (Nat.le_of_ble_eq_true rfl) (fun κ K E => ?_)
  have K : Cx κ cX8_save 3 RX8 7 113 423 8600 := K
  have E : Ed κ (some .int) "save" (wrI r) B 423 8600 := E
  unfold f_X8_save at h
  change Vw κ A 0 0 0 [(0, .inr (.inr x0)), (1, .inl x1)] []
  refine Vw.aload_n (pc := 0) (x := x0) K dX8_save_0 rfl ?_
  refine Vw.iload_n (pc := 1) (x := x1) K dX8_save_1 rfl ?_
  obtain ⟨g6, h⟩ := wgd h
  rcases wtryE h with ⟨v7, A8, e9, h⟩ | ⟨x10, A8, e9, h⟩
  · refine Vw.cV0 (pc := 2) (c' := 1) (n' := 6) K (s_X8_needSlot K.tr e9) cal_X8_needSlot cls6 u_5_223 g6 rfl ⟨by decide, by decide⟩ ⟨by decide, by decide⟩ rfl (Nat.le_of_ble_eq_true rfl) dX8_save_2 rfl rfl ?_
    refine Vw.aload_n (pc := 5) (x := x0) K dX8_save_5 rfl ?_
    obtain ⟨g11, h⟩ := wgd h
    refine Vw.getR (pc := 6) (k := 3) (f := 387) K cls6 rfl rfl u_2_60 g11 dX8_save_6 ?_
    refine Vw.iload_n (pc := 9) (x := x1) K dX8_save_9 rfl ?_
    obtain ⟨g12, h⟩ := wgd h
    obtain ⟨g13, h⟩ := wgd h
    refine Vw.aaloadJ (pc := 10) K g12 g13 dX8_save_10 ?_
    refine Vw.astore_n (pc := 11) K dX8_save_11 (by decide) ?_
    refine Vw.aload_n (pc := 12) (x := (hgR A8 1038 (hgR A8 387 x0 0) x1.toNatClampNeg)) K dX8_save_12 rfl ?_
    refine Vw.ifnonnull (pc := 13) (tgt := 31) K dX8_save_13 (by decide) (fun c14 => ?_) (fun c14 => ?_)
    · have h := wneg c14 h
      refine Vw.wid (c' := 423) (n' := 8600) (by decide) (by decide) ?_
      exact Vw.loc rfl (s_X8_save_31 K E  h)
    · have h := wpos c14 h
      refine Vw.newc (pc := 16) (c := 1) (n := 6) (c' := 2) (n' := 19) K cls2 clsd2 u_1_117 (by decide) (by decide) dX8_save_16 rfl rfl ?_
      refine Vw.dup (pc := 19) K rfl dX8_save_19 ?_
      obtain ⟨g15, h⟩ := wgd h
      obtain ⟨A17, e16, h⟩ := wbd h
      refine Vw.cI0K (pc := 20) (c' := 423) (n' := 8600) K (s_X4_init K.tr e16) cal_X4_init u_1_119 g15 rfl ⟨by decide, by decide⟩ ⟨by decide, by decide⟩ rfl (Nat.le_of_ble_eq_true rfl) dX8_save_20 rfl rfl ?_
      refine Vw.astore_n (pc := 23) K dX8_save_23 (by decide) ?_
      refine Vw.aload_n (pc := 24) (x := x0) K dX8_save_24 rfl ?_
      obtain ⟨g18, h⟩ := wgd h
      refine Vw.getR (pc := 25) (k := 3) (f := 387) K cls6 rfl rfl u_2_60 g18 dX8_save_25 ?_
      refine Vw.iload_n (pc := 28) (x := x1) K dX8_save_28 rfl ?_
      refine Vw.aload_n (pc := 29) (x := (hsz A8)) K dX8_save_29 rfl ?_
      obtain ⟨g19, h⟩ := wgd h
      obtain ⟨g20, h⟩ := wgd h
      obtain ⟨g21, h⟩ := wgd h
      refine Vw.aastoreJ (pc := 30) K g19 g20 g21 dX8_save_30 ?_
      exact Vw.loc rfl (s_X8_save_31 K E  h)
  · exact Vw.cVX (pc := 2) K (s_X8_needSlot K.tr e9) cal_X8_needSlot cls6 u_5_223 g6 rfl ⟨by decide, by decide⟩ ⟨by decide, by decide⟩ rfl (Nat.le_of_ble_eq_true rfl) dX8_save_2 (E.thI h)
theorem cal_X8_save : wCalV RX8 yX8_save (.code yX8_save cX8_save 3 (some .int)) 1 := ⟨by decide +kernel, u_5_220, u_5_221, u_1_1, u_5_222⟩
def f_X8_restore (A : Hp) (x0 : Nat) (x1 : Int32) : Option ((Int32 ⊕ Nat) × Hp) := if (hsh A x0).1 = 7 then (wtry (f_X8_needSlot A x0 x1) fun v2 A3 => if (hsh A3 x0).1 = 7 then if (hsh A3 (hgR A3 387 x0 0)).1 = 14 then if wix x1 (hsh A3 (hgR A3 387 x0 0)).2 then (if (hgR A3 1038 (hgR A3 387 x0 0) x1.toNatClampNeg) = 0 then some (.inr 2, hmk A3 0 0) else if (hsh A3 (hgR A3 386 x0 0)).1 = 3 then ((f_X4_become A3 (hgR A3 386 x0 0) (hgR A3 1038 (hgR A3 387 x0 0) x1.toNatClampNeg)).bind fun A12 => if (hsh A12 x0).1 = 7 then if (hsh A12 (hgR A12 386 x0 0)).1 = 3 then some (.inl (hgI A12 129 (hgR A12 386 x0 0) 0), A12) else none else none) else none) else none else none else none) else none
set_option maxRecDepth 100000 in
theorem s_X8_restore {l : Launch} {g : GT} (hl : l.stackTraces = false) {A : Hp} {x0 : Nat} {x1 : Int32} {r : Int32 ⊕ Nat} {B : Hp} (h : f_X8_restore A x0 x1 = some (r, B)) : MetV l g yX8_restore (.code yX8_restore cX8_restore 3 (some .int)) [.inr (.inr x0), .inl x1] A (wrI r) B 7 113 2 12 := by
  refine MetV.ofV hl (by decide +kernel) (Nat.le_of_ble_eq_true rfl) (fun κ K E => ?_)
  have K : Cx κ cX8_restore 3 RX8 7 113 2 12 := K
  have E : Ed κ (some .int) "restore" (wrI r) B 2 12 := E
  unfold f_X8_restore at h
  change Vw κ A 0 0 0 [(0, .inr (.inr x0)), (1, .inl x1)] []
  refine Vw.aload_n (pc := 0) (x := x0) K dX8_restore_0 rfl ?_
  refine Vw.iload_n (pc := 1) (x := x1) K dX8_restore_1 rfl ?_
  obtain ⟨g1, h⟩ := wgd h
  rcases wtryE h with ⟨v2, A3, e4, h⟩ | ⟨x5, A3, e4, h⟩
  · refine Vw.cV0 (pc := 2) (c' := 1) (n' := 6) K (s_X8_needSlot K.tr e4) cal_X8_needSlot cls6 u_5_223 g1 rfl ⟨by decide, by decide⟩ ⟨by decide, by decide⟩ rfl (Nat.le_of_ble_eq_true rfl) dX8_restore_2 rfl rfl ?_
    refine Vw.aload_n (pc := 5) (x := x0) K dX8_restore_5 rfl ?_
    obtain ⟨g6, h⟩ := wgd h
    refine Vw.getR (pc := 6) (k := 3) (f := 387) K cls6 rfl rfl u_2_60 g6 dX8_restore_6 ?_
    refine Vw.iload_n (pc := 9) (x := x1) K dX8_restore_9 rfl ?_
    obtain ⟨g7, h⟩ := wgd h
    obtain ⟨g8, h⟩ := wgd h
    refine Vw.aaloadJ (pc := 10) K g7 g8 dX8_restore_10 ?_
    refine Vw.astore_n (pc := 11) K dX8_restore_11 (by decide) ?_
    refine Vw.aload_n (pc := 12) (x := (hgR A3 1038 (hgR A3 387 x0 0) x1.toNatClampNeg)) K dX8_restore_12 rfl ?_
    refine Vw.ifnonnull (pc := 13) (tgt := 26) K dX8_restore_13 (by decide) (fun c9 => ?_) (fun c9 => ?_)
    · have h := wneg c9 h
      refine Vw.aload_n (pc := 26) (x := x0) K dX8_restore_26 rfl ?_
      refine Vw.getR (pc := 27) (k := 2) (f := 386) K cls6 rfl rfl u_2_59 g6 dX8_restore_27 ?_
      refine Vw.aload_n (pc := 30) (x := (hgR A3 1038 (hgR A3 387 x0 0) x1.toNatClampNeg)) K dX8_restore_30 rfl ?_
      obtain ⟨g10, h⟩ := wgd h
      obtain ⟨A12, e11, h⟩ := wbd h
      refine Vw.cV0 (pc := 31) (c' := 1) (n' := 6) K (s_X4_become K.tr e11) cal_X4_become cls2 u_5_228 g10 rfl ⟨by decide, by decide⟩ ⟨by decide, by decide⟩ rfl (Nat.le_of_ble_eq_true rfl) dX8_restore_31 rfl rfl ?_
      refine Vw.aload_n (pc := 34) (x := x0) K dX8_restore_34 rfl ?_
      obtain ⟨g13, h⟩ := wgd h
      refine Vw.getR (pc := 35) (k := 2) (f := 386) K cls6 rfl rfl u_2_59 g13 dX8_restore_35 ?_
      obtain ⟨g14, h⟩ := wgd h
      refine Vw.getI (pc := 38) (k := 1) (f := 129) K cls2 rfl rfl u_2_8 g14 dX8_restore_38 ?_
      exact Vw.iretT (pc := 41) K h E (by decide) (by decide) dX8_restore_41
    · have h := wpos c9 h
      exact Vw.throwS2 (pc := 16) (k := 31) K (E.thI h) rfl u_3_102 u_1_14 dX8_restore_16 dX8_restore_19 dX8_restore_20 dX8_restore_22 dX8_restore_25 (by decide) (Nat.le_of_ble_eq_true rfl) (by decide) (by decide)
  · exact Vw.cVX (pc := 2) K (s_X8_needSlot K.tr e4) cal_X8_needSlot cls6 u_5_223 g1 rfl ⟨by decide, by decide⟩ ⟨by decide, by decide⟩ rfl (Nat.le_of_ble_eq_true rfl) dX8_restore_2 (E.thI h)
theorem cal_X8_restore : wCalV RX8 yX8_restore (.code yX8_restore cX8_restore 3 (some .int)) 1 := ⟨by decide +kernel, u_6_5, u_6_6, u_1_1, u_6_7⟩
def f_X8_fingerprint (A : Hp) (x0 : Nat) : Option (Int64) := if (hsh A x0).1 = 7 then if (hsh A (hgR A 386 x0 0)).1 = 3 then ((f_X4_mix A (hgR A 386 x0 0)).bind fun v4 => some v4) else none else none
set_option maxRecDepth 100000 in
theorem s_X8_fingerprint {l : Launch} {g : GT} (hl : l.stackTraces = false) {A : Hp} {x0 : Nat} {r : Int64} (h : f_X8_fingerprint A x0 = some r) : MetV l g yX8_fingerprint (.code yX8_fingerprint cX8_fingerprint 1 (some .long)) [.inr (.inr x0)] A (.inl (some (.inr (.inl r)))) A 4 93 0 0 := by
  refine MetV.ofV hl (by decide +kernel) (Nat.le_of_ble_eq_true rfl) (fun κ K E => ?_)
  have K : Cx κ cX8_fingerprint 1 RX8 4 93 0 0 := K
  have E : Ed κ (some .long) "fingerprint" (.inl (some (.inr (.inl r)))) A 0 0 := E
  unfold f_X8_fingerprint at h
  change Vw κ A 0 0 0 [(0, .inr (.inr x0))] []
  refine Vw.aload_n (pc := 0) (x := x0) K dX8_fingerprint_0 rfl ?_
  obtain ⟨g1, h⟩ := wgd h
  refine Vw.getR (pc := 1) (k := 2) (f := 386) K cls6 rfl rfl u_2_59 g1 dX8_fingerprint_1 ?_
  obtain ⟨g2, h⟩ := wgd h
  obtain ⟨v4, e3, h⟩ := wbd h
  refine Vw.cV1 (pc := 4) (v := .inr (.inl v4)) (c' := 0) (n' := 0) K (s_X4_mix K.tr e3) cal_X4_mix cls2 u_3_10 g2 rfl ⟨by decide, by decide⟩ ⟨by decide, by decide⟩ rfl (Nat.le_of_ble_eq_true rfl) dX8_fingerprint_4 rfl rfl ?_
  exact Vw.lretE (pc := 7) K (Option.some.inj h) rfl E (by decide) (by decide) dX8_fingerprint_7
theorem cal_X8_fingerprint : wCalV RX8 yX8_fingerprint (.code yX8_fingerprint cX8_fingerprint 1 (some .long)) 0 := ⟨by decide +kernel, u_3_7, u_3_8, u_1_1, u_3_9⟩
