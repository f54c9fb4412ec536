def f_X0_init (A : Hp) (x0 : Nat) : Option (Hp) := if (hsh A x0).1 = 1 then if (hsh (hmk A 5 0) (hsz A)).1 = 5 then ((f_X6_init (hmk A 5 0) (hsz A) (30 : Int32)).bind fun A4 => if (hsh A4 x0).1 = 1 then if (hsh (hmk (hsR A4 0 x0 0 (hsz A)) 5 0) (hsz (hsR A4 0 x0 0 (hsz A)))).1 = 5 then ((f_X6_init (hmk (hsR A4 0 x0 0 (hsz A)) 5 0) (hsz (hsR A4 0 x0 0 (hsz A))) (40 : Int32)).bind fun A8 => if (hsh A8 x0).1 = 1 then some (hsI (hsI (hsR A8 1 x0 0 (hsz (hsR A4 0 x0 0 (hsz A)))) 2 x0 0 (0 : Int32)) 3 x0 0 (0 : Int32)) else none) else none else none) else none else none
set_option maxRecDepth 100000 in
theorem s_X0_init {l : Launch} {g : GT} (hl : l.stackTraces = false) {A : Hp} {x0 : Nat} {B : Hp} (h : f_X0_init A x0 = some B) : MetV l g yX0_init (.code yX0_init cX0_init 1 none) [.inr (.inr x0)] A (.inl none) B 2 44 4 74 := by
  refine MetV.ofV hl (by decide +kernel) (Nat.le_of_ble_eq_true rfl) (fun κ K E => ?_)
  have K : Cx κ cX0_init 1 RX0 2 44 4 74 := K
  have E : Ed κ none "<init>" (.inl none) B 4 74 := E
  unfold f_X0_init at h
  change Vw κ A 0 0 0 [(0, .inr (.inr x0))] []
  refine Vw.aload_n (pc := 0) (x := x0) K dX0_init_0 rfl ?_
  obtain ⟨g1, h⟩ := wgd h
  refine Vw.objInitK (pc := 1) K u_1_221 u_1_30 u_1_31 g1 (by decide) (Nat.le_of_ble_eq_true rfl) dX0_init_1 ?_
  refine Vw.aload_n (pc := 4) (x := x0) K dX0_init_4 rfl ?_
  refine Vw.newc (pc := 5) (c := 0) (n := 0) (c' := 1) (n' := 2) K cls4 clsd4 u_1_222 (by decide) (by decide) dX0_init_5 rfl rfl ?_
  refine Vw.dup (pc := 8) K rfl dX0_init_8 ?_
  refine Vw.bipush (pc := 9) (v := (30 : Int32)) K (by decide) dX0_init_9 ?_
  obtain ⟨g2, h⟩ := wgd h
  obtain ⟨A4, e3, h⟩ := wbd h
  refine Vw.cI0K (pc := 11) (c' := 2) (n' := 32) K (s_X6_init (ms := 30) (by decide) K.tr e3) cal_X6_init u_1_223 g2 rfl ⟨by decide, by decide⟩ ⟨by decide, by decide⟩ rfl (Nat.le_of_ble_eq_true rfl) dX0_init_11 rfl rfl ?_
  obtain ⟨g5, h⟩ := wgd h
  refine Vw.putR (pc := 14) (k := 0) (f := 0) K cls0 rfl rfl u_1_224 g5 (Or.inr ⟨rfl, E.2.2.1, rfl⟩) (wRn _ _) (wRf _ _) dX0_init_14 ?_
  refine Vw.aload_n (pc := 17) (x := x0) K dX0_init_17 rfl ?_
  refine Vw.newc (pc := 18) (c := 2) (n := 32) (c' := 3) (n' := 34) K cls4 clsd4 u_1_222 (by decide) (by decide) dX0_init_18 rfl rfl ?_
  refine Vw.dup (pc := 21) K rfl dX0_init_21 ?_
  refine Vw.bipush (pc := 22) (v := (40 : Int32)) K (by decide) dX0_init_22 ?_
  obtain ⟨g6, h⟩ := wgd h
  obtain ⟨A8, e7, h⟩ := wbd h
  refine Vw.cI0K (pc := 24) (c' := 4) (n' := 74) K (s_X6_init (ms := 40) (by decide) K.tr e7) cal_X6_init u_1_223 g6 rfl ⟨by decide, by decide⟩ ⟨by decide, by decide⟩ rfl (Nat.le_of_ble_eq_true rfl) dX0_init_24 rfl rfl ?_
  obtain ⟨g9, h⟩ := wgd h
  refine Vw.putR (pc := 27) (k := 1) (f := 1) K cls0 rfl rfl u_1_227 g9 (Or.inr ⟨rfl, E.2.2.1, rfl⟩) (wRn _ _) (wRf _ _) dX0_init_27 ?_
  refine Vw.aload_n (pc := 30) (x := x0) K dX0_init_30 rfl ?_
  refine Vw.iconst (pc := 31) (v := (0 : Int32)) K (by decide) dX0_init_31 ?_
  refine Vw.putI (pc := 32) (k := 2) (f := 2) K cls0 rfl rfl u_1_229 g9 (Or.inl rfl) (wZ_n (Or.inl rfl)) (wZ_f (Or.inl rfl)) dX0_init_32 ?_
  refine Vw.aload_n (pc := 35) (x := x0) K dX0_init_35 rfl ?_
  refine Vw.iconst (pc := 36) (v := (0 : Int32)) K (by decide) dX0_init_36 ?_
  refine Vw.putI (pc := 37) (k := 3) (f := 3) K cls0 rfl rfl u_1_232 g9 (Or.inl rfl) (wZ_n (Or.inl rfl)) (wZ_f (Or.inl rfl)) dX0_init_37 ?_
  exact Vw.vretE (pc := 40) K (Option.some.inj h) E (by decide) (by decide) dX0_init_40
theorem cal_X0_init : wCalI yX0_init (.code yX0_init cX0_init 1 none) 0 := ⟨by decide +kernel, u_1_219, u_1_8, u_1_220, rfl⟩
def k_X0_endsOrHas_17  (A : Hp)   : Option (Int32) := some (1 : Int32)
set_option maxRecDepth 100000 in
theorem s_X0_endsOrHas_17 {κ : KT} {r : Int32} {A : Hp}    (K : Cx κ cX0_endsOrHas 3 RX0 1 21 0 0) (E : Ed κ (some .boolean) "endsOrHas" (.inl (some (.inl r))) A 0 0)  (h : k_X0_endsOrHas_17  A   = some r) : Vw κ A 0 0 17 [] [] := by
  unfold k_X0_endsOrHas_17 at h
  refine Vw.iconst (pc := 17) (v := (1 : Int32)) K (by decide) dX0_endsOrHas_17 ?_
  refine Vw.goto (pc := 18) (tgt := 22) K dX0_endsOrHas_18 (by decide) ?_
  exact Vw.zretE (pc := 22) K (Or.inr rfl) (Option.some.inj h) rfl E (by decide) (by decide) dX0_endsOrHas_22
def f_X0_endsOrHas (A : Hp) (x0 : Nat) (x1 : Int32) (x2 : Int32) : Option (Int32) := if (hsh A x0).1 = 5 then (if (hgI A 257 x0 0) ≤ x1 then k_X0_endsOrHas_17 A else ((f_X6_at A x0 x1).bind fun v4 => (if v4 = x2 then k_X0_endsOrHas_17 A else some (0 : Int32)))) else none
set_option maxRecDepth 100000 in
theorem s_X0_endsOrHas {l : Launch} {g : GT} (hl : l.stackTraces = false) {A : Hp} {x0 : Nat} {x1 : Int32} {x2 : Int32} {r : Int32} (h : f_X0_endsOrHas A x0 x1 x2 = some r) : MetV l g yX0_endsOrHas (.code yX0_endsOrHas cX0_endsOrHas 3 (some .boolean)) [.inr (.inr x0), .inl x1, .inl x2] A (.inl (some (.inl r))) A 1 21 0 0 := by
  refine MetV.ofV hl (by decide +kernel) (Nat.le_of_ble_eq_true rfl) (fun κ K E => ?_)
  have K : Cx κ cX0_endsOrHas 3 RX0 1 21 0 0 := K
  have E : Ed κ (some .boolean) "endsOrHas" (.inl (some (.inl r))) A 0 0 := E
  unfold f_X0_endsOrHas at h
  change Vw κ A 0 0 0 [(0, .inr (.inr x0)), (1, .inl x1), (2, .inl x2)] []
  refine Vw.iload_n (pc := 0) (x := x1) K dX0_endsOrHas_0 rfl ?_
  refine Vw.aload_n (pc := 1) (x := x0) K dX0_endsOrHas_1 rfl ?_
  obtain ⟨g1, h⟩ := wgd h
  refine Vw.getI (pc := 2) (k := 1) (f := 257) K cls4 rfl rfl u_1_47 g1 dX0_endsOrHas_2 ?_
  refine Vw.icmp_ge (pc := 5) (tgt := 17) K dX0_endsOrHas_5 (by decide) (fun c2 => ?_) (fun c2 => ?_)
  · have h := wpos c2 h
    exact Vw.loc rfl (s_X0_endsOrHas_17 K E  h)
  · have h := wneg c2 h
    refine Vw.aload_n (pc := 8) (x := x0) K dX0_endsOrHas_8 rfl ?_
    refine Vw.iload_n (pc := 9) (x := x1) K dX0_endsOrHas_9 rfl ?_
    obtain ⟨v4, e3, h⟩ := wbd h
    refine Vw.cV1 (pc := 10) (v := .inl v4) (c' := 0) (n' := 0) K (s_X6_at K.tr e3) cal_X6_at cls4 u_2_90 g1 rfl ⟨by decide, by decide⟩ ⟨by decide, by decide⟩ rfl (Nat.le_of_ble_eq_true rfl) dX0_endsOrHas_10 rfl rfl ?_
    refine Vw.iload_n (pc := 13) (x := x2) K dX0_endsOrHas_13 rfl ?_
    refine Vw.icmp_ne (pc := 14) (tgt := 21) K dX0_endsOrHas_14 (by decide) (fun c5 => ?_) (fun c5 => ?_)
    · have h := wneg c5 h
      refine Vw.iconst (pc := 21) (v := (0 : Int32)) K (by decide) dX0_endsOrHas_21 ?_
      exact Vw.zretE (pc := 22) K (Or.inl rfl) (Option.some.inj h) rfl E (by decide) (by decide) dX0_endsOrHas_22
    · have h := wpos c5 h
      exact Vw.loc rfl (s_X0_endsOrHas_17 K E  h)
theorem cal_X0_endsOrHas : wCalS yX0_endsOrHas (.code yX0_endsOrHas cX0_endsOrHas 3 (some .boolean)) 3 := ⟨by decide +kernel, u_2_161, u_1_8, u_2_162⟩
def f_X0_endOfPath (A : Hp) (x0 : Nat) (x1 : Int32) : Option (Int32) := if (hsh A x0).1 = 5 then ((f_X6_at A x0 x1).bind fun v3 => (if v3 = (47 : Int32) then ((f_X6_find A x0 (63 : Int32) x1 (if (x1 + (40 : Int32)) < (hgI A 257 x0 0) then (x1 + (40 : Int32)) else (hgI A 257 x0 0))).bind fun v6 => some v6) else some x1)) else none
set_option maxRecDepth 100000 in
theorem s_X0_endOfPath {l : Launch} {g : GT} (hl : l.stackTraces = false) {A : Hp} {x0 : Nat} {x1 : Int32} {r : Int32} (h : f_X0_endOfPath A x0 x1 = some r) : MetV l g yX0_endOfPath (.code yX0_endOfPath cX0_endOfPath 2 (some .int)) [.inr (.inr x0), .inl x1] A (.inl (some (.inl r))) A 2 45 0 0 := by
  refine MetV.ofV hl (by decide +kernel) (Nat.le_of_ble_eq_true rfl) (fun κ K E => ?_)
  have K : Cx κ cX0_endOfPath 2 RX0 2 45 0 0 := K
  have E : Ed κ (some .int) "endOfPath" (.inl (some (.inl r))) A 0 0 := E
  unfold f_X0_endOfPath at h
  change Vw κ A 0 0 0 [(0, .inr (.inr x0)), (1, .inl x1)] []
  refine Vw.aload_n (pc := 0) (x := x0) K dX0_endOfPath_0 rfl ?_
  refine Vw.iload_n (pc := 1) (x := x1) K dX0_endOfPath_1 rfl ?_
  obtain ⟨g1, h⟩ := wgd h
  obtain ⟨v3, e2, h⟩ := wbd h
  refine Vw.cV1 (pc := 2) (v := .inl v3) (c' := 0) (n' := 0) K (s_X6_at K.tr e2) cal_X6_at cls4 u_2_90 g1 rfl ⟨by decide, by decide⟩ ⟨by decide, by decide⟩ rfl (Nat.le_of_ble_eq_true rfl) dX0_endOfPath_2 rfl rfl ?_
  refine Vw.bipush (pc := 5) (v := (47 : Int32)) K (by decide) dX0_endOfPath_5 ?_
  refine Vw.icmp_eq (pc := 7) (tgt := 12) K dX0_endOfPath_7 (by decide) (fun c4 => ?_) (fun c4 => ?_)
  · have h := wpos c4 h
    refine Vw.aload_n (pc := 12) (x := x0) K dX0_endOfPath_12 rfl ?_
    refine Vw.bipush (pc := 13) (v := (63 : Int32)) K (by decide) dX0_endOfPath_13 ?_
    refine Vw.iload_n (pc := 15) (x := x1) K dX0_endOfPath_15 rfl ?_
    refine Vw.aload_n (pc := 16) (x := x0) K dX0_endOfPath_16 rfl ?_
    refine Vw.getI (pc := 17) (k := 1) (f := 257) K cls4 rfl rfl u_1_47 g1 dX0_endOfPath_17 ?_
    refine Vw.iload_n (pc := 20) (x := x1) K dX0_endOfPath_20 rfl ?_
    refine Vw.bipush (pc := 21) (v := (40 : Int32)) K (by decide) dX0_endOfPath_21 ?_
    refine Vw.iadd (pc := 23) K dX0_endOfPath_23 ?_
    refine Vw.mmin (pc := 24) K u_2_169 u_2_170 u_1_3 u_2_171 (by decide) (Nat.le_of_ble_eq_true rfl) (by decide) (by decide) dX0_endOfPath_24 ?_
    obtain ⟨v6, e5, h⟩ := wbd h
    refine Vw.cV1 (pc := 27) (v := .inl v6) (c' := 0) (n' := 0) K (s_X6_find K.tr e5) cal_X6_find cls4 u_2_172 g1 rfl ⟨by decide, by decide⟩ ⟨by decide, by decide⟩ rfl (Nat.le_of_ble_eq_true rfl) dX0_endOfPath_27 rfl rfl ?_
    exact Vw.iretE (pc := 30) K (Option.some.inj h) rfl E (by decide) (by decide) dX0_endOfPath_30
  · have h := wneg c4 h
    refine Vw.iload_n (pc := 10) (x := x1) K dX0_endOfPath_10 rfl ?_
    exact Vw.iretE (pc := 11) K (Option.some.inj h) rfl E (by decide) (by decide) dX0_endOfPath_11
theorem cal_X0_endOfPath : wCalS yX0_endOfPath (.code yX0_endOfPath cX0_endOfPath 2 (some .int)) 2 := ⟨by decide +kernel, u_2_167, u_1_8, u_2_168⟩
def k_X0_fill_40  (A : Hp) (x0 : Nat)  : Option (Hp) := if (hsh A x0).1 = 1 then some (hsI A 2 x0 0 (1 : Int32)) else none
set_option maxRecDepth 100000 in
theorem s_X0_fill_40 {κ : KT} {B : Hp} {A : Hp} {x0 : Nat}   (K : Cx κ cX0_fill 5 RX0 2 48 0 0) (E : Ed κ none "fill" (.inl none) B 0 0)  (h : k_X0_fill_40  A x0  = some B) : Vw κ A 0 0 40 [(0, .inr (.inr x0))] [] := by
  unfold k_X0_fill_40 at h
  refine Vw.aload_n (pc := 40) (x := x0) K dX0_fill_40 rfl ?_
  refine Vw.iconst (pc := 41) (v := (1 : Int32)) K (by decide) dX0_fill_41 ?_
  obtain ⟨g1, h⟩ := wgd h
  refine Vw.putI (pc := 42) (k := 2) (f := 2) K cls0 rfl rfl u_1_229 g1 (Or.inl rfl) (wZ_n (Or.inr rfl)) (wZ_f (Or.inr rfl)) dX0_fill_42 ?_
  exact Vw.vretE (pc := 45) K (Option.some.inj h) E (by decide) (by decide) dX0_fill_45
def f_X0_fill (A : Hp) (x0 : Nat) (x1 : Nat) (x2 : Int32) (x3 : Int32) (x4 : Int32) : Option (Hp) := if (hsh A x0).1 = 1 then if (hsh A (hgR A 0 x0 0)).1 = 5 then ((f_X6_take A (hgR A 0 x0 0) x1 x2 x3).bind fun A5 => if (hsh A5 x0).1 = 1 then if (hsh A5 (hgR A5 1 x0 0)).1 = 5 then ((f_X6_take A5 (hgR A5 1 x0 0) x1 x3 x4).bind fun A9 => if (hsh A9 x0).1 = 1 then if (hsh A9 (hgR A9 1 x0 0)).1 = 5 then (if (hgI A9 257 (hgR A9 1 x0 0) 0) = (0 : Int32) then ((f_X6_add A9 (hgR A9 1 x0 0) (47 : Int32)).bind fun A14 => k_X0_fill_40 A14 x0) else k_X0_fill_40 A9 x0) else none else none) else none else none) else none else none
set_option maxRecDepth 100000 in
theorem s_X0_fill {l : Launch} {g : GT} (hl : l.stackTraces = false) {A : Hp} {x0 : Nat} {x1 : Nat} {x2 : Int32} {x3 : Int32} {x4 : Int32} {B : Hp} (h : f_X0_fill A x0 x1 x2 x3 x4 = some B) : MetV l g yX0_fill (.code yX0_fill cX0_fill 5 none) [.inr (.inr x0), .inr (.inr x1), .inl x2, .inl x3, .inl x4] A (.inl none) B 2 48 0 0 := by
  refine MetV.ofV hl (by decide +kernel) (Nat.le_of_ble_eq_true rfl) (fun κ K E => ?_)
  have K : Cx κ cX0_fill 5 RX0 2 48 0 0 := K
  have E : Ed κ none "fill" (.inl none) B 0 0 := E
  unfold f_X0_fill at h
  change Vw κ A 0 0 0 [(0, .inr (.inr x0)), (1, .inr (.inr x1)), (2, .inl x2), (3, .inl x3), (4, .inl x4)] []
  refine Vw.aload_n (pc := 0) (x := x0) K dX0_fill_0 rfl ?_
  obtain ⟨g2, h⟩ := wgd h
  refine Vw.getR (pc := 1) (k := 0) (f := 0) K cls0 rfl rfl u_1_224 g2 dX0_fill_1 ?_
  refine Vw.aload_n (pc := 4) (x := x1) K dX0_fill_4 rfl ?_
  refine Vw.iload_n (pc := 5) (x := x2) K dX0_fill_5 rfl ?_
  refine Vw.iload_n (pc := 6) (x := x3) K dX0_fill_6 rfl ?_
  obtain ⟨g3, h⟩ := wgd h
  obtain ⟨A5, e4, h⟩ := wbd h
  refine Vw.cV0 (pc := 7) (c' := 0) (n' := 0) K (s_X6_take K.tr e4) cal_X6_take cls4 u_2_180 g3 rfl ⟨by decide, by decide⟩ ⟨by decide, by decide⟩ rfl (Nat.le_of_ble_eq_true rfl) dX0_fill_7 rfl rfl ?_
  refine Vw.aload_n (pc := 10) (x := x0) K dX0_fill_10 rfl ?_
  obtain ⟨g6, h⟩ := wgd h
  refine Vw.getR (pc := 11) (k := 1) (f := 1) K cls0 rfl rfl u_1_227 g6 dX0_fill_11 ?_
  refine Vw.aload_n (pc := 14) (x := x1) K dX0_fill_14 rfl ?_
  refine Vw.iload_n (pc := 15) (x := x3) K dX0_fill_15 rfl ?_
  refine Vw.iload (pc := 16) (x := x4) K dX0_fill_16 rfl ?_
  obtain ⟨g7, h⟩ := wgd h
  obtain ⟨A9, e8, h⟩ := wbd h
  refine Vw.cV0 (pc := 18) (c' := 0) (n' := 0) K (s_X6_take K.tr e8) cal_X6_take cls4 u_2_180 g7 rfl ⟨by decide, by decide⟩ ⟨by decide, by decide⟩ rfl (Nat.le_of_ble_eq_true rfl) dX0_fill_18 rfl rfl ?_
  refine Vw.aload_n (pc := 21) (x := x0) K dX0_fill_21 rfl ?_
  obtain ⟨g10, h⟩ := wgd h
  refine Vw.getR (pc := 22) (k := 1) (f := 1) K cls0 rfl rfl u_1_227 g10 dX0_fill_22 ?_
  obtain ⟨g11, h⟩ := wgd h
  refine Vw.getI (pc := 25) (k := 1) (f := 257) K cls4 rfl rfl u_1_47 g11 dX0_fill_25 ?_
  refine Vw.if_ne (pc := 28) (tgt := 40) K dX0_fill_28 (by decide) (fun c12 => ?_) (fun c12 => ?_)
  · have h := wneg c12 h
    exact Vw.loc rfl (s_X0_fill_40 K E  h)
  · have h := wpos c12 h
    refine Vw.aload_n (pc := 31) (x := x0) K dX0_fill_31 rfl ?_
    refine Vw.getR (pc := 32) (k := 1) (f := 1) K cls0 rfl rfl u_1_227 g10 dX0_fill_32 ?_
    refine Vw.bipush (pc := 35) (v := (47 : Int32)) K (by decide) dX0_fill_35 ?_
    obtain ⟨A14, e13, h⟩ := wbd h
    refine Vw.cV0 (pc := 37) (c' := 0) (n' := 0) K (s_X6_add K.tr e13) cal_X6_add cls4 u_2_189 g11 rfl ⟨by decide, by decide⟩ ⟨by decide, by decide⟩ rfl (Nat.le_of_ble_eq_true rfl) dX0_fill_37 rfl rfl ?_
    exact Vw.loc rfl (s_X0_fill_40 K E  h)
theorem cal_X0_fill : wCalV RX0 yX0_fill (.code yX0_fill cX0_fill 5 none) 4 := ⟨by decide +kernel, u_2_178, us_1_1, u_1_8, u_2_179⟩
def k_X0_read_102  (A : Hp) (x5 : Int32)  : Option (Int32 × Hp) := some (((-1 : Int32) - x5), A)
set_option maxRecDepth 100000 in
theorem s_X0_read_102 {κ : KT} {r : Int32} {B : Hp} {A : Hp} {x5 : Int32}   (K : Cx κ cX0_read 8 RX0 5 107 0 0) (E : Ed κ (some .int) "read" (.inl (some (.inl r))) B 0 0)  (h : k_X0_read_102  A x5  = some (r, B)) : Vw κ A 0 0 102 [(5, .inl x5)] [] := by
  unfold k_X0_read_102 at h
  refine Vw.iconst (pc := 102) (v := (-1 : Int32)) K (by decide) dX0_read_102 ?_
  refine Vw.iload (pc := 103) (x := x5) K dX0_read_103 rfl ?_
  refine Vw.isub (pc := 105) K dX0_read_105 ?_
  exact Vw.iretH (pc := 106) K h E (by decide) (by decide) dX0_read_106
def k_X0_read_84  (A : Hp) (x0 : Nat) (x1 : Nat) (x2 : Int32) (x4 : Int32) (x5 : Int32) (t0 : Int32) : Option (Int32 × Hp) := (if t0 = (0 : Int32) then k_X0_read_102 A x5 else ((f_X3_isWhole A x1 x4 x5).bind fun v3 => (if v3 = (0 : Int32) then k_X0_read_102 A x5 else ((f_X0_endOfPath A x1 x5).bind fun v6 => ((f_X0_endsOrHas A x1 v6 (63 : Int32)).bind fun v8 => (if v8 = (0 : Int32) then some (((-1 : Int32) - v6), A) else if (hsh A x0).1 = 1 then ((f_X0_fill A x0 x1 x4 x5 v6).bind fun A12 => if (hsh A12 x0).1 = 1 then if wZ x2 then (if x2 = (0 : Int32) then some ((0 : Int32), (hsI A12 3 x0 0 x2)) else some ((1 : Int32), (hsI A12 3 x0 0 x2))) else none else none) else none))))))
set_option maxRecDepth 100000 in
theorem s_X0_read_84 {κ : KT} {r : Int32} {B : Hp} {A : Hp} {x0 : Nat} {x1 : Nat} {x2 : Int32} {x4 : Int32} {x5 : Int32} {t0 : Int32}  (K : Cx κ cX0_read 8 RX0 5 107 0 0) (E : Ed κ (some .int) "read" (.inl (some (.inl r))) B 0 0)  (h : k_X0_read_84  A x0 x1 x2 x4 x5 t0 = some (r, B)) : Vw κ A 0 0 84 [(0, .inr (.inr x0)), (1, .inr (.inr x1)), (2, .inl x2), (4, .inl x4), (5, .inl x5)] [.inl t0] := by
  unfold k_X0_read_84 at h
  refine Vw.istore (pc := 84) K dX0_read_84 (by decide) ?_
  refine Vw.iload (pc := 86) (x := t0) K dX0_read_86 rfl ?_
  refine Vw.if_eq (pc := 88) (tgt := 102) K dX0_read_88 (by decide) (fun c1 => ?_) (fun c1 => ?_)
  · have h := wpos c1 h
    exact Vw.loc rfl (s_X0_read_102 K E  h)
  · have h := wneg c1 h
    refine Vw.aload_n (pc := 91) (x := x1) K dX0_read_91 rfl ?_
    refine Vw.iload (pc := 92) (x := x4) K dX0_read_92 rfl ?_
    refine Vw.iload (pc := 94) (x := x5) K dX0_read_94 rfl ?_
    obtain ⟨v3, e2, h⟩ := wbd h
    refine Vw.cS1 (pc := 96) (v := .inl v3) (c' := 0) (n' := 0) K (s_X3_isWhole K.tr e2) cal_X3_isWhole u_2_163 rfl ⟨by decide, by decide⟩ ⟨by decide, by decide⟩ rfl (Nat.le_of_ble_eq_true rfl) dX0_read_96 rfl rfl ?_
    refine Vw.if_ne (pc := 99) (tgt := 107) K dX0_read_99 (by decide) (fun c4 => ?_) (fun c4 => ?_)
    · have h := wneg c4 h
      refine Vw.aload_n (pc := 107) (x := x1) K dX0_read_107 rfl ?_
      refine Vw.iload (pc := 108) (x := x5) K dX0_read_108 rfl ?_
      obtain ⟨v6, e5, h⟩ := wbd h
      refine Vw.cS1 (pc := 110) (v := .inl v6) (c' := 0) (n' := 0) K (s_X0_endOfPath K.tr e5) cal_X0_endOfPath u_2_166 rfl ⟨by decide, by decide⟩ ⟨by decide, by decide⟩ rfl (Nat.le_of_ble_eq_true rfl) dX0_read_110 rfl rfl ?_
      refine Vw.istore (pc := 113) K dX0_read_113 (by decide) ?_
      refine Vw.aload_n (pc := 115) (x := x1) K dX0_read_115 rfl ?_
      refine Vw.iload (pc := 116) (x := v6) K dX0_read_116 rfl ?_
      refine Vw.bipush (pc := 118) (v := (63 : Int32)) K (by decide) dX0_read_118 ?_
      obtain ⟨v8, e7, h⟩ := wbd h
      refine Vw.cS1 (pc := 120) (v := .inl v8) (c' := 0) (n' := 0) K (s_X0_endsOrHas K.tr e7) cal_X0_endsOrHas u_2_160 rfl ⟨by decide, by decide⟩ ⟨by decide, by decide⟩ rfl (Nat.le_of_ble_eq_true rfl) dX0_read_120 rfl rfl ?_
      refine Vw.if_ne (pc := 123) (tgt := 131) K dX0_read_123 (by decide) (fun c9 => ?_) (fun c9 => ?_)
      · have h := wneg c9 h
        refine Vw.aload_n (pc := 131) (x := x0) K dX0_read_131 rfl ?_
        refine Vw.aload_n (pc := 132) (x := x1) K dX0_read_132 rfl ?_
        refine Vw.iload (pc := 133) (x := x4) K dX0_read_133 rfl ?_
        refine Vw.iload (pc := 135) (x := x5) K dX0_read_135 rfl ?_
        refine Vw.iload (pc := 137) (x := v6) K dX0_read_137 rfl ?_
        obtain ⟨g10, h⟩ := wgd h
        obtain ⟨A12, e11, h⟩ := wbd h
        refine Vw.cV0 (pc := 139) (c' := 0) (n' := 0) K (s_X0_fill K.tr e11) cal_X0_fill cls0 u_2_176 g10 rfl ⟨by decide, by decide⟩ ⟨by decide, by decide⟩ rfl (Nat.le_of_ble_eq_true rfl) dX0_read_139 rfl rfl ?_
        refine Vw.aload_n (pc := 142) (x := x0) K dX0_read_142 rfl ?_
        refine Vw.iload_n (pc := 143) (x := x2) K dX0_read_143 rfl ?_
        obtain ⟨g13, h⟩ := wgd h
        obtain ⟨g14, h⟩ := wgd h
        refine Vw.putI (pc := 144) (k := 3) (f := 3) K cls0 rfl rfl u_1_232 g13 (Or.inl rfl) (wZ_n g14) (wZ_f g14) dX0_read_144 ?_
        refine Vw.iload_n (pc := 147) (x := x2) K dX0_read_147 rfl ?_
        refine Vw.if_eq (pc := 148) (tgt := 155) K dX0_read_148 (by decide) (fun c15 => ?_) (fun c15 => ?_)
        · have h := wpos c15 h
          refine Vw.iconst (pc := 155) (v := (0 : Int32)) K (by decide) dX0_read_155 ?_
          exact Vw.iretH (pc := 156) K h E (by decide) (by decide) dX0_read_156
        · have h := wneg c15 h
          refine Vw.iconst (pc := 151) (v := (1 : Int32)) K (by decide) dX0_read_151 ?_
          refine Vw.goto (pc := 152) (tgt := 156) K dX0_read_152 (by decide) ?_
          exact Vw.iretH (pc := 156) K h E (by decide) (by decide) dX0_read_156
      · have h := wpos c9 h
        refine Vw.iconst (pc := 126) (v := (-1 : Int32)) K (by decide) dX0_read_126 ?_
        refine Vw.iload (pc := 127) (x := v6) K dX0_read_127 rfl ?_
        refine Vw.isub (pc := 129) K dX0_read_129 ?_
        exact Vw.iretH (pc := 130) K h E (by decide) (by decide) dX0_read_130
    · have h := wpos c4 h
      exact Vw.loc rfl (s_X0_read_102 K E  h)
def k_X0_read_79  (A : Hp) (x0 : Nat) (x1 : Nat) (x2 : Int32) (x4 : Int32) (x5 : Int32)  : Option (Int32 × Hp) := k_X0_read_84 A x0 x1 x2 x4 x5 (1 : Int32)
set_option maxRecDepth 100000 in
theorem s_X0_read_79 {κ : KT} {r : Int32} {B : Hp} {A : Hp} {x0 : Nat} {x1 : Nat} {x2 : Int32} {x4 : Int32} {x5 : Int32}   (K : Cx κ cX0_read 8 RX0 5 107 0 0) (E : Ed κ (some .int) "read" (.inl (some (.inl r))) B 0 0)  (h : k_X0_read_79  A x0 x1 x2 x4 x5  = some (r, B)) : Vw κ A 0 0 79 [(0, .inr (.inr x0)), (1, .inr (.inr x1)), (2, .inl x2), (4, .inl x4), (5, .inl x5)] [] := by
  unfold k_X0_read_79 at h
  refine Vw.iconst (pc := 79) (v := (1 : Int32)) K (by decide) dX0_read_79 ?_
  refine Vw.goto (pc := 80) (tgt := 84) K dX0_read_80 (by decide) ?_
  exact Vw.loc rfl (s_X0_read_84 K E  h)
def k_X0_read_27  (A : Hp) (x0 : Nat) (x1 : Nat) (x2 : Int32) (t0 : Nat) : Option (Int32 × Hp) := if (hsh A x1).1 = 5 then ((f_X6_agreement A x1 t0).bind fun v18 => if wSn t0 then ((f_J0_length_8abf5 A t0).bind fun v21 => (if v21 ≤ v18 then ((f_X3_end A x1 v18).bind fun v24 => ((f_X0_endsOrHas A x1 v24 (47 : Int32)).bind fun v26 => (if v26 = (0 : Int32) then ((f_X0_endsOrHas A x1 v24 (63 : Int32)).bind fun v29 => (if v29 = (0 : Int32) then k_X0_read_84 A x0 x1 x2 v18 v24 (0 : Int32) else k_X0_read_79 A x0 x1 x2 v18 v24)) else k_X0_read_79 A x0 x1 x2 v18 v24))) else some (((-1 : Int32) - v18), A))) else none) else none
set_option maxRecDepth 100000 in
theorem s_X0_read_27 {κ : KT} {r : Int32} {B : Hp} {A : Hp} {x0 : Nat} {x1 : Nat} {x2 : Int32} {t0 : Nat}  (K : Cx κ cX0_read 8 RX0 5 107 0 0) (E : Ed κ (some .int) "read" (.inl (some (.inl r))) B 0 0)  (h : k_X0_read_27  A x0 x1 x2 t0 = some (r, B)) : Vw κ A 0 0 27 [(0, .inr (.inr x0)), (1, .inr (.inr x1)), (2, .inl x2)] [.inr (.inr t0)] := by
  unfold k_X0_read_27 at h
  refine Vw.astore_n (pc := 27) K dX0_read_27 (by decide) ?_
  refine Vw.aload_n (pc := 28) (x := x1) K dX0_read_28 rfl ?_
  refine Vw.aload_n (pc := 29) (x := t0) K dX0_read_29 rfl ?_
  obtain ⟨g16, h⟩ := wgd h
  obtain ⟨v18, e17, h⟩ := wbd h
  refine Vw.cV1 (pc := 30) (v := .inl v18) (c' := 0) (n' := 0) K (s_X6_agreement K.tr e17) cal_X6_agreement cls4 u_2_96 g16 rfl ⟨by decide, by decide⟩ ⟨by decide, by decide⟩ rfl (Nat.le_of_ble_eq_true rfl) dX0_read_30 rfl rfl ?_
  refine Vw.istore (pc := 33) K dX0_read_33 (by decide) ?_
  refine Vw.iload (pc := 35) (x := v18) K dX0_read_35 rfl ?_
  refine Vw.aload_n (pc := 37) (x := t0) K dX0_read_37 rfl ?_
  obtain ⟨g19, h⟩ := wgd h
  obtain ⟨v21, e20, h⟩ := wbd h
  refine Vw.cStr (pc := 38) (v := .inl v21) K (s_J0_length_8abf5 K.tr e20) cal_J0_length_8abf5 u_2_149 g19 rfl ⟨by decide, by decide⟩ ⟨by decide, by decide⟩ rfl (Nat.le_of_ble_eq_true rfl) dX0_read_38 ?_
  refine Vw.icmp_ge (pc := 41) (tgt := 49) K dX0_read_41 (by decide) (fun c22 => ?_) (fun c22 => ?_)
  · have h := wpos c22 h
    refine Vw.aload_n (pc := 49) (x := x1) K dX0_read_49 rfl ?_
    refine Vw.iload (pc := 50) (x := v18) K dX0_read_50 rfl ?_
    obtain ⟨v24, e23, h⟩ := wbd h
    refine Vw.cS1 (pc := 52) (v := .inl v24) (c' := 0) (n' := 0) K (s_X3_end K.tr e23) cal_X3_end u_2_150 rfl ⟨by decide, by decide⟩ ⟨by decide, by decide⟩ rfl (Nat.le_of_ble_eq_true rfl) dX0_read_52 rfl rfl ?_
    refine Vw.istore (pc := 55) K dX0_read_55 (by decide) ?_
    refine Vw.aload_n (pc := 57) (x := x1) K dX0_read_57 rfl ?_
    refine Vw.iload (pc := 58) (x := v24) K dX0_read_58 rfl ?_
    refine Vw.bipush (pc := 60) (v := (47 : Int32)) K (by decide) dX0_read_60 ?_
    obtain ⟨v26, e25, h⟩ := wbd h
    refine Vw.cS1 (pc := 62) (v := .inl v26) (c' := 0) (n' := 0) K (s_X0_endsOrHas K.tr e25) cal_X0_endsOrHas u_2_160 rfl ⟨by decide, by decide⟩ ⟨by decide, by decide⟩ rfl (Nat.le_of_ble_eq_true rfl) dX0_read_62 rfl rfl ?_
    refine Vw.if_ne (pc := 65) (tgt := 79) K dX0_read_65 (by decide) (fun c27 => ?_) (fun c27 => ?_)
    · have h := wneg c27 h
      exact Vw.loc rfl (s_X0_read_79 K E  h)
    · have h := wpos c27 h
      refine Vw.aload_n (pc := 68) (x := x1) K dX0_read_68 rfl ?_
      refine Vw.iload (pc := 69) (x := v24) K dX0_read_69 rfl ?_
      refine Vw.bipush (pc := 71) (v := (63 : Int32)) K (by decide) dX0_read_71 ?_
      obtain ⟨v29, e28, h⟩ := wbd h
      refine Vw.cS1 (pc := 73) (v := .inl v29) (c' := 0) (n' := 0) K (s_X0_endsOrHas K.tr e28) cal_X0_endsOrHas u_2_160 rfl ⟨by decide, by decide⟩ ⟨by decide, by decide⟩ rfl (Nat.le_of_ble_eq_true rfl) dX0_read_73 rfl rfl ?_
      refine Vw.if_eq (pc := 76) (tgt := 83) K dX0_read_76 (by decide) (fun c30 => ?_) (fun c30 => ?_)
      · have h := wpos c30 h
        refine Vw.iconst (pc := 83) (v := (0 : Int32)) K (by decide) dX0_read_83 ?_
        exact Vw.loc rfl (s_X0_read_84 K E  h)
      · have h := wneg c30 h
        exact Vw.loc rfl (s_X0_read_79 K E  h)
  · have h := wneg c22 h
    refine Vw.iconst (pc := 44) (v := (-1 : Int32)) K (by decide) dX0_read_44 ?_
    refine Vw.iload (pc := 45) (x := v18) K dX0_read_45 rfl ?_
    refine Vw.isub (pc := 47) K dX0_read_47 ?_
    exact Vw.iretH (pc := 48) K h E (by decide) (by decide) dX0_read_48
def k_X0_read_15  (A : Hp) (x0 : Nat) (x1 : Nat) (t0 : Int32) : Option (Int32 × Hp) := (if t0 = (0 : Int32) then k_X0_read_27 A x0 x1 t0 2 else k_X0_read_27 A x0 x1 t0 1)
set_option maxRecDepth 100000 in
theorem s_X0_read_15 {κ : KT} {r : Int32} {B : Hp} {A : Hp} {x0 : Nat} {x1 : Nat} {t0 : Int32}  (K : Cx κ cX0_read 8 RX0 5 107 0 0) (E : Ed κ (some .int) "read" (.inl (some (.inl r))) B 0 0)  (h : k_X0_read_15  A x0 x1 t0 = some (r, B)) : Vw κ A 0 0 15 [(0, .inr (.inr x0)), (1, .inr (.inr x1))] [.inl t0] := by
  unfold k_X0_read_15 at h
  refine Vw.istore_n (pc := 15) K dX0_read_15 (by decide) ?_
  refine Vw.iload_n (pc := 16) (x := t0) K dX0_read_16 rfl ?_
  refine Vw.if_eq (pc := 17) (tgt := 25) K dX0_read_17 (by decide) (fun c31 => ?_) (fun c31 => ?_)
  · have h := wpos c31 h
    refine Vw.ldcS (pc := 25) (k := 1) K rfl (by decide) dX0_read_25 ?_
    exact Vw.loc rfl (s_X0_read_27 K E  h)
  · have h := wneg c31 h
    refine Vw.ldcS (pc := 20) (k := 0) K rfl (by decide) dX0_read_20 ?_
    refine Vw.goto (pc := 22) (tgt := 27) K dX0_read_22 (by decide) ?_
    exact Vw.loc rfl (s_X0_read_27 K E  h)
def f_X0_read (A : Hp) (x0 : Nat) (x1 : Nat) : Option (Int32 × Hp) := if (hsh A x1).1 = 5 then ((f_X6_at A x1 (4 : Int32)).bind fun v34 => (if v34 = (115 : Int32) then k_X0_read_15 A x0 x1 (1 : Int32) else k_X0_read_15 A x0 x1 (0 : Int32))) else none
set_option maxRecDepth 100000 in
theorem s_X0_read {l : Launch} {g : GT} (hl : l.stackTraces = false) {A : Hp} {x0 : Nat} {x1 : Nat} {r : Int32} {B : Hp} (h : f_X0_read A x0 x1 = some (r, B)) : MetV l g yX0_read (.code yX0_read cX0_read 8 (some .int)) [.inr (.inr x0), .inr (.inr x1)] A (.inl (some (.inl r))) B 5 107 0 0 := by
  refine MetV.ofV hl (by decide +kernel) (Nat.le_of_ble_eq_true rfl) (fun κ K E => ?_)
  have K : Cx κ cX0_read 8 RX0 5 107 0 0 := K
  have E : Ed κ (some .int) "read" (.inl (some (.inl r))) B 0 0 := E
  unfold f_X0_read at h
  change Vw κ A 0 0 0 [(0, .inr (.inr x0)), (1, .inr (.inr x1))] []
  refine Vw.aload_n (pc := 0) (x := x1) K dX0_read_0 rfl ?_
  refine Vw.iconst (pc := 1) (v := (4 : Int32)) K (by decide) dX0_read_1 ?_
  obtain ⟨g32, h⟩ := wgd h
  obtain ⟨v34, e33, h⟩ := wbd h
  refine Vw.cV1 (pc := 2) (v := .inl v34) (c' := 0) (n' := 0) K (s_X6_at K.tr e33) cal_X6_at cls4 u_2_90 g32 rfl ⟨by decide, by decide⟩ ⟨by decide, by decide⟩ rfl (Nat.le_of_ble_eq_true rfl) dX0_read_2 rfl rfl ?_
  refine Vw.bipush (pc := 5) (v := (115 : Int32)) K (by decide) dX0_read_5 ?_
  refine Vw.icmp_ne (pc := 7) (tgt := 14) K dX0_read_7 (by decide) (fun c35 => ?_) (fun c35 => ?_)
  · have h := wneg c35 h
    refine Vw.iconst (pc := 14) (v := (0 : Int32)) K (by decide) dX0_read_14 ?_
    exact Vw.loc rfl (s_X0_read_15 K E  h)
  · have h := wpos c35 h
    refine Vw.iconst (pc := 10) (v := (1 : Int32)) K (by decide) dX0_read_10 ?_
    refine Vw.goto (pc := 11) (tgt := 15) K dX0_read_11 (by decide) ?_
    exact Vw.loc rfl (s_X0_read_15 K E  h)
theorem cal_X0_read : wCalV RX0 yX0_read (.code yX0_read cX0_read 8 (some .int)) 1 := ⟨by decide +kernel, u_2_87, u_2_88, u_1_8, u_2_89⟩
def f_X0_become (A : Hp) (x0 : Nat) (x1 : Nat) : Option (Hp) := if (hsh A x0).1 = 1 then if (hsh A x1).1 = 1 then if (hsh A (hgR A 0 x0 0)).1 = 5 then ((f_X6_copy A (hgR A 0 x0 0) (hgR A 0 x1 0)).bind fun A5 => if (hsh A5 x0).1 = 1 then if (hsh A5 x1).1 = 1 then if (hsh A5 (hgR A5 1 x0 0)).1 = 5 then ((f_X6_copy A5 (hgR A5 1 x0 0) (hgR A5 1 x1 0)).bind fun A10 => if (hsh A10 x1).1 = 1 then if (hsh A10 x0).1 = 1 then if wZ (hgI A10 2 x1 0) then if wZ (hgI (hsI A10 2 x0 0 (hgI A10 2 x1 0)) 3 x1 0) then some (hsI (hsI A10 2 x0 0 (hgI A10 2 x1 0)) 3 x0 0 (hgI (hsI A10 2 x0 0 (hgI A10 2 x1 0)) 3 x1 0)) else none else none else none else none) else none else none else none) else none else none else none
set_option maxRecDepth 100000 in
theorem s_X0_become {l : Launch} {g : GT} (hl : l.stackTraces = false) {A : Hp} {x0 : Nat} {x1 : Nat} {B : Hp} (h : f_X0_become A x0 x1 = some B) : MetV l g yX0_become (.code yX0_become cX0_become 2 none) [.inr (.inr x0), .inr (.inr x1)] A (.inl none) B 3 69 0 0 := by
  refine MetV.ofV hl (by decide +kernel) (Nat.le_of_ble_eq_true rfl) (fun κ K E => ?_)
  have K : Cx κ cX0_become 2 RX0 3 69 0 0 := K
  have E : Ed κ none "become" (.inl none) B 0 0 := E
  unfold f_X0_become at h
  change Vw κ A 0 0 0 [(0, .inr (.inr x0)), (1, .inr (.inr x1))] []
  refine Vw.aload_n (pc := 0) (x := x0) K dX0_become_0 rfl ?_
  obtain ⟨g1, h⟩ := wgd h
  refine Vw.getR (pc := 1) (k := 0) (f := 0) K cls0 rfl rfl u_1_224 g1 dX0_become_1 ?_
  refine Vw.aload_n (pc := 4) (x := x1) K dX0_become_4 rfl ?_
  obtain ⟨g2, h⟩ := wgd h
  refine Vw.getR (pc := 5) (k := 0) (f := 0) K cls0 rfl rfl u_1_224 g2 dX0_become_5 ?_
  obtain ⟨g3, h⟩ := wgd h
  obtain ⟨A5, e4, h⟩ := wbd h
  refine Vw.cV0 (pc := 8) (c' := 0) (n' := 0) K (s_X6_copy K.tr e4) cal_X6_copy cls4 u_6_5 g3 rfl ⟨by decide, by decide⟩ ⟨by decide, by decide⟩ rfl (Nat.le_of_ble_eq_true rfl) dX0_become_8 rfl rfl ?_
  refine Vw.aload_n (pc := 11) (x := x0) K dX0_become_11 rfl ?_
  obtain ⟨g6, h⟩ := wgd h
  refine Vw.getR (pc := 12) (k := 1) (f := 1) K cls0 rfl rfl u_1_227 g6 dX0_become_12 ?_
  refine Vw.aload_n (pc := 15) (x := x1) K dX0_become_15 rfl ?_
  obtain ⟨g7, h⟩ := wgd h
  refine Vw.getR (pc := 16) (k := 1) (f := 1) K cls0 rfl rfl u_1_227 g7 dX0_become_16 ?_
  obtain ⟨g8, h⟩ := wgd h
  obtain ⟨A10, e9, h⟩ := wbd h
  refine Vw.cV0 (pc := 19) (c' := 0) (n' := 0) K (s_X6_copy K.tr e9) cal_X6_copy cls4 u_6_5 g8 rfl ⟨by decide, by decide⟩ ⟨by decide, by decide⟩ rfl (Nat.le_of_ble_eq_true rfl) dX0_become_19 rfl rfl ?_
  refine Vw.aload_n (pc := 22) (x := x0) K dX0_become_22 rfl ?_
  refine Vw.aload_n (pc := 23) (x := x1) K dX0_become_23 rfl ?_
  obtain ⟨g11, h⟩ := wgd h
  refine Vw.getI (pc := 24) (k := 2) (f := 2) K cls0 rfl rfl u_1_229 g11 dX0_become_24 ?_
  obtain ⟨g12, h⟩ := wgd h
  obtain ⟨g13, h⟩ := wgd h
  refine Vw.putI (pc := 27) (k := 2) (f := 2) K cls0 rfl rfl u_1_229 g12 (Or.inl rfl) (wZ_n g13) (wZ_f g13) dX0_become_27 ?_
  refine Vw.aload_n (pc := 30) (x := x0) K dX0_become_30 rfl ?_
  refine Vw.aload_n (pc := 31) (x := x1) K dX0_become_31 rfl ?_
  refine Vw.getI (pc := 32) (k := 3) (f := 3) K cls0 rfl rfl u_1_232 g11 dX0_become_32 ?_
  obtain ⟨g14, h⟩ := wgd h
  refine Vw.putI (pc := 35) (k := 3) (f := 3) K cls0 rfl rfl u_1_232 g12 (Or.inl rfl) (wZ_n g14) (wZ_f g14) dX0_become_35 ?_
  exact Vw.vretE (pc := 38) K (Option.some.inj h) E (by decide) (by decide) dX0_become_38
theorem cal_X0_become : wCalV RX0 yX0_become (.code yX0_become cX0_become 2 none) 1 := ⟨by decide +kernel, u_6_2, u_6_3, u_1_8, u_6_4⟩
