def f_X0_init (A : Hp) (x0 : Nat) : Option (Hp) := if (hsh A x0).1 = 1 then if (hsh (hmk A 5 0) (hsz A)).1 = 5 then ((f_X6_init (hmk A 5 0) (hsz A) (30 : Int32)).bind fun A4 => if (hsh A4 x0).1 = 1 then if (hsh (hmk (hsR A4 0 x0 0 (hsz A)) 5 0) (hsz (hsR A4 0 x0 0 (hsz A)))).1 = 5 then ((f_X6_init (hmk (hsR A4 0 x0 0 (hsz A)) 5 0) (hsz (hsR A4 0 x0 0 (hsz A))) (40 : Int32)).bind fun A8 => if (hsh A8 x0).1 = 1 then some (hsI (hsI (hsR A8 1 x0 0 (hsz (hsR A4 0 x0 0 (hsz A)))) 2 x0 0 (0 : Int32)) 3 x0 0 (0 : Int32)) else none) else none else none) else none else none
set_option maxRecDepth 100000 in
theorem s_X0_init {l : Launch} {g : GT} (hl : l.stackTraces = false) {A : Hp} {x0 : Nat} {B : Hp} (h : f_X0_init A x0 = some B) : MetV l g yX0_init (.code yX0_init cX0_init 1 none) [.inr (.inr x0)] A (.inl none) B 2 44 4 74 := by
  refine MetV.ofV hl (by decide +kernel) (Nat.le_of_ble_eq_true rfl) (fun κ K E => ?_)
  have K : Cx κ cX0_init 1 RX0 2 44 4 74 := K
  have E : Ed κ none "<init>" (.inl none) B 4 74 := E
  unfold f_X0_init at h
  change Vw κ A 0 0 0 [(0, .inr (.inr x0))] []
  refine Vw.aload_n (pc := 0) (x := x0) K dX0_init_0 rfl ?_
  obtain ⟨g1, h⟩ := wgd h
  refine Vw.objInitK (pc := 1) K u_1_221 u_1_30 u_1_31 g1 (by decide) (Nat.le_of_ble_eq_true rfl) dX0_init_1 ?_
  refine Vw.aload_n (pc := 4) (x := x0) K dX0_init_4 rfl ?_
  refine Vw.newc (pc := 5) (c := 0) (n := 0) (c' := 1) (n' := 2) K cls4 clsd4 u_1_222 (by decide) (by decide) dX0_init_5 rfl rfl ?_
  refine Vw.dup (pc := 8) K rfl dX0_init_8 ?_
  refine Vw.bipush (pc := 9) (v := (30 : Int32)) K (by decide) dX0_init_9 ?_
  obtain ⟨g2, h⟩ := wgd h
  obtain ⟨A4, e3, h⟩ := wbd h
  refine Vw.cI0K (pc := 11) (c' := 2) (n' := 32) K (s_X6_init (ms := 30) (by decide) K.tr e3) cal_X6_init u_1_223 g2 rfl ⟨by decide, by decide⟩ ⟨by decide, by decide⟩ rfl (Nat.le_of_ble_eq_true rfl) dX0_init_11 rfl rfl ?_
  obtain ⟨g5, h⟩ := wgd h
  refine Vw.putR (pc := 14) (k := 0) (f := 0) K cls0 rfl rfl u_1_224 g5 (Or.inr ⟨rfl, E.2.2.1, rfl⟩) (wRn _ _) (wRf _ _) dX0_init_14 ?_
  refine Vw.aload_n (pc := 17) (x := x0) K dX0_init_17 rfl ?_
  refine Vw.newc (pc := 18) (c := 2) (n := 32) (c' := 3) (n' := 34) K cls4 clsd4 u_1_222 (by decide) (by decide) dX0_init_18 rfl rfl ?_
  refine Vw.dup (pc := 21) K rfl dX0_init_21 ?_
  refine Vw.bipush (pc := 22) (v := (40 : Int32)) K (by decide) dX0_init_22 ?_
  obtain ⟨g6, h⟩ := wgd h
  obtain ⟨A8, e7, h⟩ := wbd h
  refine Vw.cI0K (pc := 24) (c' := 4) (n' := 74) K (s_X6_init (ms := 40) (by decide) K.tr e7) cal_X6_init u_1_223 g6 rfl ⟨by decide, by decide⟩ ⟨by decide, by decide⟩ rfl (Nat.le_of_ble_eq_true rfl) dX0_init_24 rfl rfl ?_
  obtain ⟨g9, h⟩ := wgd h
  refine Vw.putR (pc := 27) (k := 1) (f := 1) K cls0 rfl rfl u_1_227 g9 (Or.inr ⟨rfl, E.2.2.1, rfl⟩) (wRn _ _) (wRf _ _) dX0_init_27 ?_
  refine Vw.aload_n (pc := 30) (x := x0) K dX0_init_30 rfl ?_
  refine Vw.iconst (pc := 31) (v := (0 : Int32)) K (by decide) dX0_init_31 ?_
  refine Vw.putI (pc := 32) (k := 2) (f := 2) K cls0 rfl rfl u_1_229 g9 (Or.inl rfl) (wZ_n (Or.inl rfl)) (wZ_f (Or.inl rfl)) dX0_init_32 ?_
  refine Vw.aload_n (pc := 35) (x := x0) K dX0_init_35 rfl ?_
  refine Vw.iconst (pc := 36) (v := (0 : Int32)) K (by decide) dX0_init_36 ?_
  refine Vw.putI (pc := 37) (k := 3) (f := 3) K cls0 rfl rfl u_1_232 g9 (Or.inl rfl) (wZ_n (Or.inl rfl)) (wZ_f (Or.inl rfl)) dX0_init_37 ?_
  exact Vw.vretE (pc := 40) K (Option.some.inj h) E (by decide) (by decide) dX0_init_40
theorem cal_X0_init : wCalI yX0_init (.code yX0_init cX0_init 1 none) 0 := ⟨by decide +kernel, u_1_219, u_1_8, u_1_220, rfl⟩
def f_X0_endOfPath (A : Hp) (x0 : Nat) (x1 : Int32) : Option (Int32) := if (hsh A x0).1 = 5 then ((f_X6_at A x0 x1).bind fun v3 => (if v3 = (47 : Int32) then ((f_X6_find A x0 (63 : Int32) x1 (if (x1 + (40 : Int32)) < (hgI A 257 x0 0) then (x1 + (40 : Int32)) else (hgI A 257 x0 0))).bind fun v6 => some v6) else some x1)) else none
set_option maxRecDepth 100000 in
theorem s_X0_endOfPath {l : Launch} {g : GT} (hl : l.stackTraces = false) {A : Hp} {x0 : Nat} {x1 : Int32} {r : Int32} (h : f_X0_endOfPath A x0 x1 = some r) : MetV l g yX0_endOfPath (.code yX0_endOfPath cX0_endOfPath 2 (some .int)) [.inr (.inr x0), .inl x1] A (.inl (some (.inl r))) A 2 45 0 0 := by
  refine MetV.ofV hl (by decide +kernel) (Nat.le_of_ble_eq_true rfl) (fun κ K E => ?_)
  have K : Cx κ cX0_endOfPath 2 RX0 2 45 0 0 := K
  have E : Ed κ (some .int) "endOfPath" (.inl (some (.inl r))) A 0 0 := E
  unfold f_X0_endOfPath at h
  change Vw κ A 0 0 0 [(0, .inr (.inr x0)), (1, .inl x1)] []
  refine Vw.aload_n (pc := 0) (x := x0) K dX0_endOfPath_0 rfl ?_
  refine Vw.iload_n (pc := 1) (x := x1) K dX0_endOfPath_1 rfl ?_
  obtain ⟨g1, h⟩ := wgd h
  obtain ⟨v3, e2, h⟩ := wbd h
  refine Vw.cV1 (pc := 2) (v := .inl v3) (c' := 0) (n' := 0) K (s_X6_at K.tr e2) cal_X6_at cls4 u_2_90 g1 rfl ⟨by decide, by decide⟩ ⟨by decide, by decide⟩ rfl (Nat.le_of_ble_eq_true rfl) dX0_endOfPath_2 rfl rfl ?_
  refine Vw.bipush (pc := 5) (v := (47 : Int32)) K (by decide) dX0_endOfPath_5 ?_
  refine Vw.icmp_eq (pc := 7) (tgt := 12) K dX0_endOfPath_7 (by decide) (fun c4 => ?_) (fun c4 => ?_)
  · have h := wpos c4 h
    refine Vw.aload_n (pc := 12) (x := x0) K dX0_endOfPath_12 rfl ?_
    refine Vw.bipush (pc := 13) (v := (63 : Int32)) K (by decide) dX0_endOfPath_13 ?_
    refine Vw.iload_n (pc := 15) (x := x1) K dX0_endOfPath_15 rfl ?_
    refine Vw.aload_n (pc := 16) (x := x0) K dX0_endOfPath_16 rfl ?_
    refine Vw.getI (pc := 17) (k := 1) (f := 257) K cls4 rfl rfl u_1_47 g1 dX0_endOfPath_17 ?_
    refine Vw.iload_n (pc := 20) (x := x1) K dX0_endOfPath_20 rfl ?_
    refine Vw.bipush (pc := 21) (v := (40 : Int32)) K (by decide) dX0_endOfPath_21 ?_
    refine Vw.iadd (pc := 23) K dX0_endOfPath_23 ?_
    refine Vw.mmin (pc := 24) K u_2_166 u_2_167 u_1_3 u_2_168 (by decide) (Nat.le_of_ble_eq_true rfl) (by decide) (by decide) dX0_endOfPath_24 ?_
    obtain ⟨v6, e5, h⟩ := wbd h
    refine Vw.cV1 (pc := 27) (v := .inl v6) (c' := 0) (n' := 0) K (s_X6_find K.tr e5) cal_X6_find cls4 u_2_169 g1 rfl ⟨by decide, by decide⟩ ⟨by decide, by decide⟩ rfl (Nat.le_of_ble_eq_true rfl) dX0_endOfPath_27 rfl rfl ?_
    exact Vw.iretE (pc := 30) K (Option.some.inj h) rfl E (by decide) (by decide) dX0_endOfPath_30
  · have h := wneg c4 h
    refine Vw.iload_n (pc := 10) (x := x1) K dX0_endOfPath_10 rfl ?_
    exact Vw.iretE (pc := 11) K (Option.some.inj h) rfl E (by decide) (by decide) dX0_endOfPath_11
theorem cal_X0_endOfPath : wCalS yX0_endOfPath (.code yX0_endOfPath cX0_endOfPath 2 (some .int)) 2 := ⟨by decide +kernel, u_2_164, u_1_8, u_2_165⟩
def k_X0_fill_40  (A : Hp) (x0 : Nat)  : Option (Hp) := if (hsh A x0).1 = 1 then some (hsI A 2 x0 0 (1 : Int32)) else none
set_option maxRecDepth 100000 in
theorem s_X0_fill_40 {κ : KT} {B : Hp} {A : Hp} {x0 : Nat}   (K : Cx κ cX0_fill 5 RX0 2 48 0 0) (E : Ed κ none "fill" (.inl none) B 0 0)  (h : k_X0_fill_40  A x0  = some B) : Vw κ A 0 0 40 [(0, .inr (.inr x0))] [] := by
  unfold k_X0_fill_40 at h
  refine Vw.aload_n (pc := 40) (x := x0) K dX0_fill_40 rfl ?_
  refine Vw.iconst (pc := 41) (v := (1 : Int32)) K (by decide) dX0_fill_41 ?_
  obtain ⟨g1, h⟩ := wgd h
  refine Vw.putI (pc := 42) (k := 2) (f := 2) K cls0 rfl rfl u_1_229 g1 (Or.inl rfl) (wZ_n (Or.inr rfl)) (wZ_f (Or.inr rfl)) dX0_fill_42 ?_
  exact Vw.vretE (pc := 45) K (Option.some.inj h) E (by decide) (by decide) dX0_fill_45
def f_X0_fill (A : Hp) (x0 : Nat) (x1 : Nat) (x2 : Int32) (x3 : Int32) (x4 : Int32) : Option (Hp) := if (hsh A x0).1 = 1 then if (hsh A (hgR A 0 x0 0)).1 = 5 then ((f_X6_take A (hgR A 0 x0 0) x1 x2 x3).bind fun A5 => if (hsh A5 x0).1 = 1 then if (hsh A5 (hgR A5 1 x0 0)).1 = 5 then ((f_X6_take A5 (hgR A5 1 x0 0) x1 x3 x4).bind fun A9 => if (hsh A9 x0).1 = 1 then if (hsh A9 (hgR A9 1 x0 0)).1 = 5 then (if (hgI A9 257 (hgR A9 1 x0 0) 0) = (0 : Int32) then ((f_X6_add A9 (hgR A9 1 x0 0) (47 : Int32)).bind fun A14 => k_X0_fill_40 A14 x0) else k_X0_fill_40 A9 x0) else none else none) else none else none) else none else none
set_option maxRecDepth 100000 in
theorem s_X0_fill {l : Launch} {g : GT} (hl : l.stackTraces = false) {A : Hp} {x0 : Nat} {x1 : Nat} {x2 : Int32} {x3 : Int32} {x4 : Int32} {B : Hp} (h : f_X0_fill A x0 x1 x2 x3 x4 = some B) : MetV l g yX0_fill (.code yX0_fill cX0_fill 5 none) [.inr (.inr x0), .inr (.inr x1), .inl x2, .inl x3, .inl x4] A (.inl none) B 2 48 0 0 := by
  refine MetV.ofV hl (by decide +kernel) (Nat.le_of_ble_eq_true rfl) (fun κ K E => ?_)
  have K : Cx κ cX0_fill 5 RX0 2 48 0 0 := K
  have E : Ed κ none "fill" (.inl none) B 0 0 := E
  unfold f_X0_fill at h
  change Vw κ A 0 0 0 [(0, .inr (.inr x0)), (1, .inr (.inr x1)), (2, .inl x2), (3, .inl x3), (4, .inl x4)] []
  refine Vw.aload_n (pc := 0) (x := x0) K dX0_fill_0 rfl ?_
  obtain ⟨g2, h⟩ := wgd h
  refine Vw.getR (pc := 1) (k := 0) (f := 0) K cls0 rfl rfl u_1_224 g2 dX0_fill_1 ?_
  refine Vw.aload_n (pc := 4) (x := x1) K dX0_fill_4 rfl ?_
  refine Vw.iload_n (pc := 5) (x := x2) K dX0_fill_5 rfl ?_
  refine Vw.iload_n (pc := 6) (x := x3) K dX0_fill_6 rfl ?_
  obtain ⟨g3, h⟩ := wgd h
  obtain ⟨A5, e4, h⟩ := wbd h
  refine Vw.cV0 (pc := 7) (c' := 0) (n' := 0) K (s_X6_take K.tr e4) cal_X6_take cls4 u_2_177 g3 rfl ⟨by decide, by decide⟩ ⟨by decide, by decide⟩ rfl (Nat.le_of_ble_eq_true rfl) dX0_fill_7 rfl rfl ?_
  refine Vw.aload_n (pc := 10) (x := x0) K dX0_fill_10 rfl ?_
  obtain ⟨g6, h⟩ := wgd h
  refine Vw.getR (pc := 11) (k := 1) (f := 1) K cls0 rfl rfl u_1_227 g6 dX0_fill_11 ?_
  refine Vw.aload_n (pc := 14) (x := x1) K dX0_fill_14 rfl ?_
  refine Vw.iload_n (pc := 15) (x := x3) K dX0_fill_15 rfl ?_
  refine Vw.iload (pc := 16) (x := x4) K dX0_fill_16 rfl ?_
  obtain ⟨g7, h⟩ := wgd h
  obtain ⟨A9, e8, h⟩ := wbd h
  refine Vw.cV0 (pc := 18) (c' := 0) (n' := 0) K (s_X6_take K.tr e8) cal_X6_take cls4 u_2_177 g7 rfl ⟨by decide, by decide⟩ ⟨by decide, by decide⟩ rfl (Nat.le_of_ble_eq_true rfl) dX0_fill_18 rfl rfl ?_
  refine Vw.aload_n (pc := 21) (x := x0) K dX0_fill_21 rfl ?_
  obtain ⟨g10, h⟩ := wgd h
  refine Vw.getR (pc := 22) (k := 1) (f := 1) K cls0 rfl rfl u_1_227 g10 dX0_fill_22 ?_
  obtain ⟨g11, h⟩ := wgd h
  refine Vw.getI (pc := 25) (k := 1) (f := 257) K cls4 rfl rfl u_1_47 g11 dX0_fill_25 ?_
  refine Vw.if_ne (pc := 28) (tgt := 40) K dX0_fill_28 (by decide) (fun c12 => ?_) (fun c12 => ?_)
  · have h := wneg c12 h
    exact Vw.loc rfl (s_X0_fill_40 K E  h)
  · have h := wpos c12 h
    refine Vw.aload_n (pc := 31) (x := x0) K dX0_fill_31 rfl ?_
    refine Vw.getR (pc := 32) (k := 1) (f := 1) K cls0 rfl rfl u_1_227 g10 dX0_fill_32 ?_
    refine Vw.bipush (pc := 35) (v := (47 : Int32)) K (by decide) dX0_fill_35 ?_
    obtain ⟨A14, e13, h⟩ := wbd h
    refine Vw.cV0 (pc := 37) (c' := 0) (n' := 0) K (s_X6_add K.tr e13) cal_X6_add cls4 u_2_186 g11 rfl ⟨by decide, by decide⟩ ⟨by decide, by decide⟩ rfl (Nat.le_of_ble_eq_true rfl) dX0_fill_37 rfl rfl ?_
    exact Vw.loc rfl (s_X0_fill_40 K E  h)
theorem cal_X0_fill : wCalV RX0 yX0_fill (.code yX0_fill cX0_fill 5 none) 4 := ⟨by decide +kernel, u_2_175, us_1_1, u_1_8, u_2_176⟩
def k_X0_read_106  (A : Hp) (x0 : Nat) (x1 : Nat) (x2 : Int32) (x4 : Int32) (x5 : Int32) (x6 : Int32)  : Option (Int32 × Hp) := if (hsh A x0).1 = 1 then ((f_X0_fill A x0 x1 x4 x5 x6).bind fun A3 => if (hsh A3 x0).1 = 1 then if wZ x2 then (if x2 = (0 : Int32) then some ((0 : Int32), (hsI A3 3 x0 0 x2)) else some ((1 : Int32), (hsI A3 3 x0 0 x2))) else none else none) else none
set_option maxRecDepth 100000 in
theorem s_X0_read_106 {κ : KT} {r : Int32} {B : Hp} {A : Hp} {x0 : Nat} {x1 : Nat} {x2 : Int32} {x4 : Int32} {x5 : Int32} {x6 : Int32}   (K : Cx κ cX0_read 7 RX0 5 107 0 0) (E : Ed κ (some .int) "read" (.inl (some (.inl r))) B 0 0)  (h : k_X0_read_106  A x0 x1 x2 x4 x5 x6  = some (r, B)) : Vw κ A 0 0 106 [(0, .inr (.inr x0)), (1, .inr (.inr x1)), (2, .inl x2), (4, .inl x4), (5, .inl x5), (6, .inl x6)] [] := by
  unfold k_X0_read_106 at h
  refine Vw.aload_n (pc := 106) (x := x0) K dX0_read_106 rfl ?_
  refine Vw.aload_n (pc := 107) (x := x1) K dX0_read_107 rfl ?_
  refine Vw.iload (pc := 108) (x := x4) K dX0_read_108 rfl ?_
  refine Vw.iload (pc := 110) (x := x5) K dX0_read_110 rfl ?_
  refine Vw.iload (pc := 112) (x := x6) K dX0_read_112 rfl ?_
  obtain ⟨g1, h⟩ := wgd h
  obtain ⟨A3, e2, h⟩ := wbd h
  refine Vw.cV0 (pc := 114) (c' := 0) (n' := 0) K (s_X0_fill K.tr e2) cal_X0_fill cls0 u_2_173 g1 rfl ⟨by decide, by decide⟩ ⟨by decide, by decide⟩ rfl (Nat.le_of_ble_eq_true rfl) dX0_read_114 rfl rfl ?_
  refine Vw.aload_n (pc := 117) (x := x0) K dX0_read_117 rfl ?_
  refine Vw.iload_n (pc := 118) (x := x2) K dX0_read_118 rfl ?_
  obtain ⟨g4, h⟩ := wgd h
  obtain ⟨g5, h⟩ := wgd h
  refine Vw.putI (pc := 119) (k := 3) (f := 3) K cls0 rfl rfl u_1_232 g4 (Or.inl rfl) (wZ_n g5) (wZ_f g5) dX0_read_119 ?_
  refine Vw.iload_n (pc := 122) (x := x2) K dX0_read_122 rfl ?_
  refine Vw.if_eq (pc := 123) (tgt := 130) K dX0_read_123 (by decide) (fun c6 => ?_) (fun c6 => ?_)
  · have h := wpos c6 h
    refine Vw.iconst (pc := 130) (v := (0 : Int32)) K (by decide) dX0_read_130 ?_
    exact Vw.iretH (pc := 131) K h E (by decide) (by decide) dX0_read_131
  · have h := wneg c6 h
    refine Vw.iconst (pc := 126) (v := (1 : Int32)) K (by decide) dX0_read_126 ?_
    refine Vw.goto (pc := 127) (tgt := 131) K dX0_read_127 (by decide) ?_
    exact Vw.iretH (pc := 131) K h E (by decide) (by decide) dX0_read_131
def k_X0_read_27  (A : Hp) (x0 : Nat) (x1 : Nat) (x2 : Int32) (t0 : Nat) : Option (Int32 × Hp) := if (hsh A x1).1 = 5 then ((f_X6_agreement A x1 t0).bind fun v9 => if wSn t0 then ((f_J0_length_8abf5 A t0).bind fun v12 => (if v12 ≤ v9 then ((f_X3_end A x1 v9).bind fun v15 => ((f_X3_isWhole A x1 v9 v15).bind fun v17 => (if v17 = (0 : Int32) then some (((-1 : Int32) - v15), A) else ((f_X0_endOfPath A x1 v15).bind fun v20 => (if (hgI A 257 x1 0) ≤ v20 then k_X0_read_106 A x0 x1 x2 v9 v15 v20 else ((f_X6_at A x1 v20).bind fun v23 => (if v23 = (63 : Int32) then k_X0_read_106 A x0 x1 x2 v9 v15 v20 else some (((-1 : Int32) - v20), A)))))))) else some (((-1 : Int32) - v9), A))) else none) else none
set_option maxRecDepth 100000 in
theorem s_X0_read_27 {κ : KT} {r : Int32} {B : Hp} {A : Hp} {x0 : Nat} {x1 : Nat} {x2 : Int32} {t0 : Nat}  (K : Cx κ cX0_read 7 RX0 5 107 0 0) (E : Ed κ (some .int) "read" (.inl (some (.inl r))) B 0 0)  (h : k_X0_read_27  A x0 x1 x2 t0 = some (r, B)) : Vw κ A 0 0 27 [(0, .inr (.inr x0)), (1, .inr (.inr x1)), (2, .inl x2)] [.inr (.inr t0)] := by
  unfold k_X0_read_27 at h
  refine Vw.astore_n (pc := 27) K dX0_read_27 (by decide) ?_
  refine Vw.aload_n (pc := 28) (x := x1) K dX0_read_28 rfl ?_
  refine Vw.aload_n (pc := 29) (x := t0) K dX0_read_29 rfl ?_
  obtain ⟨g7, h⟩ := wgd h
  obtain ⟨v9, e8, h⟩ := wbd h
  refine Vw.cV1 (pc := 30) (v := .inl v9) (c' := 0) (n' := 0) K (s_X6_agreement K.tr e8) cal_X6_agreement cls4 u_2_96 g7 rfl ⟨by decide, by decide⟩ ⟨by decide, by decide⟩ rfl (Nat.le_of_ble_eq_true rfl) dX0_read_30 rfl rfl ?_
  refine Vw.istore (pc := 33) K dX0_read_33 (by decide) ?_
  refine Vw.iload (pc := 35) (x := v9) K dX0_read_35 rfl ?_
  refine Vw.aload_n (pc := 37) (x := t0) K dX0_read_37 rfl ?_
  obtain ⟨g10, h⟩ := wgd h
  obtain ⟨v12, e11, h⟩ := wbd h
  refine Vw.cStr (pc := 38) (v := .inl v12) K (s_J0_length_8abf5 K.tr e11) cal_J0_length_8abf5 u_2_149 g10 rfl ⟨by decide, by decide⟩ ⟨by decide, by decide⟩ rfl (Nat.le_of_ble_eq_true rfl) dX0_read_38 ?_
  refine Vw.icmp_ge (pc := 41) (tgt := 49) K dX0_read_41 (by decide) (fun c13 => ?_) (fun c13 => ?_)
  · have h := wpos c13 h
    refine Vw.aload_n (pc := 49) (x := x1) K dX0_read_49 rfl ?_
    refine Vw.iload (pc := 50) (x := v9) K dX0_read_50 rfl ?_
    obtain ⟨v15, e14, h⟩ := wbd h
    refine Vw.cS1 (pc := 52) (v := .inl v15) (c' := 0) (n' := 0) K (s_X3_end K.tr e14) cal_X3_end u_2_150 rfl ⟨by decide, by decide⟩ ⟨by decide, by decide⟩ rfl (Nat.le_of_ble_eq_true rfl) dX0_read_52 rfl rfl ?_
    refine Vw.istore (pc := 55) K dX0_read_55 (by decide) ?_
    refine Vw.aload_n (pc := 57) (x := x1) K dX0_read_57 rfl ?_
    refine Vw.iload (pc := 58) (x := v9) K dX0_read_58 rfl ?_
    refine Vw.iload (pc := 60) (x := v15) K dX0_read_60 rfl ?_
    obtain ⟨v17, e16, h⟩ := wbd h
    refine Vw.cS1 (pc := 62) (v := .inl v17) (c' := 0) (n' := 0) K (s_X3_isWhole K.tr e16) cal_X3_isWhole u_2_160 rfl ⟨by decide, by decide⟩ ⟨by decide, by decide⟩ rfl (Nat.le_of_ble_eq_true rfl) dX0_read_62 rfl rfl ?_
    refine Vw.if_ne (pc := 65) (tgt := 73) K dX0_read_65 (by decide) (fun c18 => ?_) (fun c18 => ?_)
    · have h := wneg c18 h
      refine Vw.aload_n (pc := 73) (x := x1) K dX0_read_73 rfl ?_
      refine Vw.iload (pc := 74) (x := v15) K dX0_read_74 rfl ?_
      obtain ⟨v20, e19, h⟩ := wbd h
      refine Vw.cS1 (pc := 76) (v := .inl v20) (c' := 0) (n' := 0) K (s_X0_endOfPath K.tr e19) cal_X0_endOfPath u_2_163 rfl ⟨by decide, by decide⟩ ⟨by decide, by decide⟩ rfl (Nat.le_of_ble_eq_true rfl) dX0_read_76 rfl rfl ?_
      refine Vw.istore (pc := 79) K dX0_read_79 (by decide) ?_
      refine Vw.iload (pc := 81) (x := v20) K dX0_read_81 rfl ?_
      refine Vw.aload_n (pc := 83) (x := x1) K dX0_read_83 rfl ?_
      refine Vw.getI (pc := 84) (k := 1) (f := 257) K cls4 rfl rfl u_1_47 g7 dX0_read_84 ?_
      refine Vw.icmp_ge (pc := 87) (tgt := 106) K dX0_read_87 (by decide) (fun c21 => ?_) (fun c21 => ?_)
      · have h := wpos c21 h
        exact Vw.loc rfl (s_X0_read_106 K E  h)
      · have h := wneg c21 h
        refine Vw.aload_n (pc := 90) (x := x1) K dX0_read_90 rfl ?_
        refine Vw.iload (pc := 91) (x := v20) K dX0_read_91 rfl ?_
        obtain ⟨v23, e22, h⟩ := wbd h
        refine Vw.cV1 (pc := 93) (v := .inl v23) (c' := 0) (n' := 0) K (s_X6_at K.tr e22) cal_X6_at cls4 u_2_90 g7 rfl ⟨by decide, by decide⟩ ⟨by decide, by decide⟩ rfl (Nat.le_of_ble_eq_true rfl) dX0_read_93 rfl rfl ?_
        refine Vw.bipush (pc := 96) (v := (63 : Int32)) K (by decide) dX0_read_96 ?_
        refine Vw.icmp_eq (pc := 98) (tgt := 106) K dX0_read_98 (by decide) (fun c24 => ?_) (fun c24 => ?_)
        · have h := wpos c24 h
          exact Vw.loc rfl (s_X0_read_106 K E  h)
        · have h := wneg c24 h
          refine Vw.iconst (pc := 101) (v := (-1 : Int32)) K (by decide) dX0_read_101 ?_
          refine Vw.iload (pc := 102) (x := v20) K dX0_read_102 rfl ?_
          refine Vw.isub (pc := 104) K dX0_read_104 ?_
          exact Vw.iretH (pc := 105) K h E (by decide) (by decide) dX0_read_105
    · have h := wpos c18 h
      refine Vw.iconst (pc := 68) (v := (-1 : Int32)) K (by decide) dX0_read_68 ?_
      refine Vw.iload (pc := 69) (x := v15) K dX0_read_69 rfl ?_
      refine Vw.isub (pc := 71) K dX0_read_71 ?_
      exact Vw.iretH (pc := 72) K h E (by decide) (by decide) dX0_read_72
  · have h := wneg c13 h
    refine Vw.iconst (pc := 44) (v := (-1 : Int32)) K (by decide) dX0_read_44 ?_
    refine Vw.iload (pc := 45) (x := v9) K dX0_read_45 rfl ?_
    refine Vw.isub (pc := 47) K dX0_read_47 ?_
    exact Vw.iretH (pc := 48) K h E (by decide) (by decide) dX0_read_48
def k_X0_read_15  (A : Hp) (x0 : Nat) (x1 : Nat) (t0 : Int32) : Option (Int32 × Hp) := (if t0 = (0 : Int32) then k_X0_read_27 A x0 x1 t0 2 else k_X0_read_27 A x0 x1 t0 1)
set_option maxRecDepth 100000 in
theorem s_X0_read_15 {κ : KT} {r : Int32} {B : Hp} {A : Hp} {x0 : Nat} {x1 : Nat} {t0 : Int32}  (K : Cx κ cX0_read 7 RX0 5 107 0 0) (E : Ed κ (some .int) "read" (.inl (some (.inl r))) B 0 0)  (h : k_X0_read_15  A x0 x1 t0 = some (r, B)) : Vw κ A 0 0 15 [(0, .inr (.inr x0)), (1, .inr (.inr x1))] [.inl t0] := by
  unfold k_X0_read_15 at h
  refine Vw.istore_n (pc := 15) K dX0_read_15 (by decide) ?_
  refine Vw.iload_n (pc := 16) (x := t0) K dX0_read_16 rfl ?_
  refine Vw.if_eq (pc := 17) (tgt := 25) K dX0_read_17 (by decide) (fun c25 => ?_) (fun c25 => ?_)
  · have h := wpos c25 h
    refine Vw.ldcS (pc := 25) (k := 1) K rfl (by decide) dX0_read_25 ?_
    exact Vw.loc rfl (s_X0_read_27 K E  h)
  · have h := wneg c25 h
    refine Vw.ldcS (pc := 20) (k := 0) K rfl (by decide) dX0_read_20 ?_
    refine Vw.goto (pc := 22) (tgt := 27) K dX0_read_22 (by decide) ?_
    exact Vw.loc rfl (s_X0_read_27 K E  h)
def f_X0_read (A : Hp) (x0 : Nat) (x1 : Nat) : Option (Int32 × Hp) := if (hsh A x1).1 = 5 then ((f_X6_at A x1 (4 : Int32)).bind fun v28 => (if v28 = (115 : Int32) then k_X0_read_15 A x0 x1 (1 : Int32) else k_X0_read_15 A x0 x1 (0 : Int32))) else none
set_option maxRecDepth 100000 in
theorem s_X0_read {l : Launch} {g : GT} (hl : l.stackTraces = false) {A : Hp} {x0 : Nat} {x1 : Nat} {r : Int32} {B : Hp} (h : f_X0_read A x0 x1 = some (r, B)) : MetV l g yX0_read (.code yX0_read cX0_read 7 (some .int)) [.inr (.inr x0), .inr (.inr x1)] A (.inl (some (.inl r))) B 5 107 0 0 := by
  refine MetV.ofV hl (by decide +kernel) (Nat.le_of_ble_eq_true rfl) (fun κ K E => ?_)
  have K : Cx κ cX0_read 7 RX0 5 107 0 0 := K
  have E : Ed κ (some .int) "read" (.inl (some (.inl r))) B 0 0 := E
  unfold f_X0_read at h
  change Vw κ A 0 0 0 [(0, .inr (.inr x0)), (1, .inr (.inr x1))] []
  refine Vw.aload_n (pc := 0) (x := x1) K dX0_read_0 rfl ?_
  refine Vw.iconst (pc := 1) (v := (4 : Int32)) K (by decide) dX0_read_1 ?_
  obtain ⟨g26, h⟩ := wgd h
  obtain ⟨v28, e27, h⟩ := wbd h
  refine Vw.cV1 (pc := 2) (v := .inl v28) (c' := 0) (n' := 0) K (s_X6_at K.tr e27) cal_X6_at cls4 u_2_90 g26 rfl ⟨by decide, by decide⟩ ⟨by decide, by decide⟩ rfl (Nat.le_of_ble_eq_true rfl) dX0_read_2 rfl rfl ?_
  refine Vw.bipush (pc := 5) (v := (115 : Int32)) K (by decide) dX0_read_5 ?_
  refine Vw.icmp_ne (pc := 7) (tgt := 14) K dX0_read_7 (by decide) (fun c29 => ?_) (fun c29 => ?_)
  · have h := wneg c29 h
    refine Vw.iconst (pc := 14) (v := (0 : Int32)) K (by decide) dX0_read_14 ?_
    exact Vw.loc rfl (s_X0_read_15 K E  h)
  · have h := wpos c29 h
    refine Vw.iconst (pc := 10) (v := (1 : Int32)) K (by decide) dX0_read_10 ?_
    refine Vw.goto (pc := 11) (tgt := 15) K dX0_read_11 (by decide) ?_
    exact Vw.loc rfl (s_X0_read_15 K E  h)
theorem cal_X0_read : wCalV RX0 yX0_read (.code yX0_read cX0_read 7 (some .int)) 1 := ⟨by decide +kernel, u_2_87, u_2_88, u_1_8, u_2_89⟩
def f_X0_become (A : Hp) (x0 : Nat) (x1 : Nat) : Option (Hp) := if (hsh A x0).1 = 1 then if (hsh A x1).1 = 1 then if (hsh A (hgR A 0 x0 0)).1 = 5 then ((f_X6_copy A (hgR A 0 x0 0) (hgR A 0 x1 0)).bind fun A5 => if (hsh A5 x0).1 = 1 then if (hsh A5 x1).1 = 1 then if (hsh A5 (hgR A5 1 x0 0)).1 = 5 then ((f_X6_copy A5 (hgR A5 1 x0 0) (hgR A5 1 x1 0)).bind fun A10 => if (hsh A10 x1).1 = 1 then if (hsh A10 x0).1 = 1 then if wZ (hgI A10 2 x1 0) then if wZ (hgI (hsI A10 2 x0 0 (hgI A10 2 x1 0)) 3 x1 0) then some (hsI (hsI A10 2 x0 0 (hgI A10 2 x1 0)) 3 x0 0 (hgI (hsI A10 2 x0 0 (hgI A10 2 x1 0)) 3 x1 0)) else none else none else none else none) else none else none else none) else none else none else none
set_option maxRecDepth 100000 in
theorem s_X0_become {l : Launch} {g : GT} (hl : l.stackTraces = false) {A : Hp} {x0 : Nat} {x1 : Nat} {B : Hp} (h : f_X0_become A x0 x1 = some B) : MetV l g yX0_become (.code yX0_become cX0_become 2 none) [.inr (.inr x0), .inr (.inr x1)] A (.inl none) B 3 69 0 0 := by
  refine MetV.ofV hl (by decide +kernel) (Nat.le_of_ble_eq_true rfl) (fun κ K E => ?_)
  have K : Cx κ cX0_become 2 RX0 3 69 0 0 := K
  have E : Ed κ none "become" (.inl none) B 0 0 := E
  unfold f_X0_become at h
  change Vw κ A 0 0 0 [(0, .inr (.inr x0)), (1, .inr (.inr x1))] []
  refine Vw.aload_n (pc := 0) (x := x0) K dX0_become_0 rfl ?_
  obtain ⟨g1, h⟩ := wgd h
  refine Vw.getR (pc := 1) (k := 0) (f := 0) K cls0 rfl rfl u_1_224 g1 dX0_become_1 ?_
  refine Vw.aload_n (pc := 4) (x := x1) K dX0_become_4 rfl ?_
  obtain ⟨g2, h⟩ := wgd h
  refine Vw.getR (pc := 5) (k := 0) (f := 0) K cls0 rfl rfl u_1_224 g2 dX0_become_5 ?_
  obtain ⟨g3, h⟩ := wgd h
  obtain ⟨A5, e4, h⟩ := wbd h
  refine Vw.cV0 (pc := 8) (c' := 0) (n' := 0) K (s_X6_copy K.tr e4) cal_X6_copy cls4 u_6_0 g3 rfl ⟨by decide, by decide⟩ ⟨by decide, by decide⟩ rfl (Nat.le_of_ble_eq_true rfl) dX0_become_8 rfl rfl ?_
  refine Vw.aload_n (pc := 11) (x := x0) K dX0_become_11 rfl ?_
  obtain ⟨g6, h⟩ := wgd h
  refine Vw.getR (pc := 12) (k := 1) (f := 1) K cls0 rfl rfl u_1_227 g6 dX0_become_12 ?_
  refine Vw.aload_n (pc := 15) (x := x1) K dX0_become_15 rfl ?_
  obtain ⟨g7, h⟩ := wgd h
  refine Vw.getR (pc := 16) (k := 1) (f := 1) K cls0 rfl rfl u_1_227 g7 dX0_become_16 ?_
  obtain ⟨g8, h⟩ := wgd h
  obtain ⟨A10, e9, h⟩ := wbd h
  refine Vw.cV0 (pc := 19) (c' := 0) (n' := 0) K (s_X6_copy K.tr e9) cal_X6_copy cls4 u_6_0 g8 rfl ⟨by decide, by decide⟩ ⟨by decide, by decide⟩ rfl (Nat.le_of_ble_eq_true rfl) dX0_become_19 rfl rfl ?_
  refine Vw.aload_n (pc := 22) (x := x0) K dX0_become_22 rfl ?_
  refine Vw.aload_n (pc := 23) (x := x1) K dX0_become_23 rfl ?_
  obtain ⟨g11, h⟩ := wgd h
  refine Vw.getI (pc := 24) (k := 2) (f := 2) K cls0 rfl rfl u_1_229 g11 dX0_become_24 ?_
  obtain ⟨g12, h⟩ := wgd h
  obtain ⟨g13, h⟩ := wgd h
  refine Vw.putI (pc := 27) (k := 2) (f := 2) K cls0 rfl rfl u_1_229 g12 (Or.inl rfl) (wZ_n g13) (wZ_f g13) dX0_become_27 ?_
  refine Vw.aload_n (pc := 30) (x := x0) K dX0_become_30 rfl ?_
  refine Vw.aload_n (pc := 31) (x := x1) K dX0_become_31 rfl ?_
  refine Vw.getI (pc := 32) (k := 3) (f := 3) K cls0 rfl rfl u_1_232 g11 dX0_become_32 ?_
  obtain ⟨g14, h⟩ := wgd h
  refine Vw.putI (pc := 35) (k := 3) (f := 3) K cls0 rfl rfl u_1_232 g12 (Or.inl rfl) (wZ_n g14) (wZ_f g14) dX0_become_35 ?_
  exact Vw.vretE (pc := 38) K (Option.some.inj h) E (by decide) (by decide) dX0_become_38
theorem cal_X0_become : wCalV RX0 yX0_become (.code yX0_become cX0_become 2 none) 1 := ⟨by decide +kernel, u_5_237, u_5_238, u_1_8, u_5_239⟩
