def k_X9_send_63 (rec42 : Hp → Int32 → Int32 → Option (Int32 × Hp)) (A : Hp) (x0 : Nat) (x1 : Int32) (x2 : Int32) (x3 : Int32) (x4 : Int32)  : Option (Int32 × Hp) := ((f_X9_cookie A x4).bind fun v2 => if (hsh A x0).1 = 8 then if (hsh A (hgR A 448 x0 0)).1 = 11 then if wix v2 (hsh A (hgR A 448 x0 0)).2 then ((f_X9_writes A x0 (v2 + (14 : Int32)) ((hgL A 1035 (hgR A 448 x0 0) v2.toNatClampNeg).toInt32)).bind fun A7 => if (hsh A7 x0).1 = 8 then ((f_X9_writesSign A7 x0 (61 : Int32)).bind fun A10 => if (hsh A10 x0).1 = 8 then if (hsh A10 (hgR A10 448 x0 0)).1 = 11 then if wix (v2 + (1 : Int32)) (hsh A10 (hgR A10 448 x0 0)).2 then ((f_X9_writes A10 x0 (v2 + (30 : Int32)) ((hgL A10 1035 (hgR A10 448 x0 0) (v2 + (1 : Int32)).toNatClampNeg).toInt32)).bind fun A15 => if (hsh A15 x0).1 = 8 then if (hsh A15 (hgR A15 448 x0 0)).1 = 11 then if wix (0 : Int32) (hsh A15 (hgR A15 448 x0 0)).2 then if wix (v2 + (6 : Int32)) (hsh A15 (hgR A15 448 x0 0)).2 then ((f_X9_sentBehind (hsL A15 1035 (hgR A15 448 x0 0) (v2 + (6 : Int32)).toNatClampNeg (hgL A15 1035 (hgR A15 448 x0 0) (0 : Int32).toNatClampNeg)) x0 x4 x1 x2).bind fun v21 => rec42 (hsL A15 1035 (hgR A15 448 x0 0) (v2 + (6 : Int32)).toNatClampNeg (hgL A15 1035 (hgR A15 448 x0 0) (0 : Int32).toNatClampNeg)) (x3 + (1 : Int32)) v21) else none else none else none else none) else none else none else none) else none) else none else none else none)
set_option maxRecDepth 100000 in
theorem s_X9_send_63 {κ : KT} {r : Int32} {B : Hp} {A : Hp} {x0 : Nat} {x1 : Int32} {x2 : Int32} {x3 : Int32} {x4 : Int32}  {rec42 : Hp → Int32 → Int32 → Option (Int32 × Hp)} (K : Cx κ cX9_send 6 RX9 8 201 0 0) (E : Ed κ (some .int) "send" (.inl (some (.inl r))) B 0 0) (hr42 : ∀ (A : Hp) (x3 : Int32) (x4 : Int32), rec42 A x3 x4 = some (r, B) → Vw κ A 0 0 42 [(0, .inr (.inr x0)), (1, .inl x1), (2, .inl x2), (3, .inl x3), (4, .inl x4)] []) (h : k_X9_send_63 rec42 A x0 x1 x2 x3 x4  = some (r, B)) : Vw κ A 0 0 63 [(0, .inr (.inr x0)), (1, .inl x1), (2, .inl x2), (3, .inl x3), (4, .inl x4)] [] := by
  unfold k_X9_send_63 at h
  refine Vw.iload (pc := 63) (x := x4) K dX9_send_63 rfl ?_
  obtain ⟨v2, e1, h⟩ := wbd h
  refine Vw.cS1 (pc := 65) (v := .inl v2) (c' := 0) (n' := 0) K (s_X9_cookie K.tr e1) cal_X9_cookie u_7_102 rfl ⟨by decide, by decide⟩ ⟨by decide, by decide⟩ rfl (Nat.le_of_ble_eq_true rfl) dX9_send_65 rfl rfl ?_
  refine Vw.istore (pc := 68) K dX9_send_68 (by decide) ?_
  refine Vw.aload_n (pc := 70) (x := x0) K dX9_send_70 rfl ?_
  refine Vw.iload (pc := 71) (x := v2) K dX9_send_71 rfl ?_
  refine Vw.bipush (pc := 73) (v := (14 : Int32)) K (by decide) dX9_send_73 ?_
  refine Vw.iadd (pc := 75) K dX9_send_75 ?_
  refine Vw.aload_n (pc := 76) (x := x0) K dX9_send_76 rfl ?_
  obtain ⟨g3, h⟩ := wgd h
  refine Vw.getR (pc := 77) (k := 0) (f := 448) K cls7 rfl rfl u_6_17 g3 dX9_send_77 ?_
  refine Vw.iload (pc := 80) (x := v2) K dX9_send_80 rfl ?_
  obtain ⟨g4, h⟩ := wgd h
  obtain ⟨g5, h⟩ := wgd h
  refine Vw.laload (pc := 82) K g4 g5 dX9_send_82 ?_
  refine Vw.l2i (pc := 83) K dX9_send_83 ?_
  obtain ⟨A7, e6, h⟩ := wbd h
  refine Vw.cV0 (pc := 84) (c' := 0) (n' := 0) K (s_X9_writes K.tr e6) cal_X9_writes cls7 u_7_191 g3 rfl ⟨by decide, by decide⟩ ⟨by decide, by decide⟩ rfl (Nat.le_of_ble_eq_true rfl) dX9_send_84 rfl rfl ?_
  refine Vw.aload_n (pc := 87) (x := x0) K dX9_send_87 rfl ?_
  refine Vw.bipush (pc := 88) (v := (61 : Int32)) K (by decide) dX9_send_88 ?_
  obtain ⟨g8, h⟩ := wgd h
  obtain ⟨A10, e9, h⟩ := wbd h
  refine Vw.cV0 (pc := 90) (c' := 0) (n' := 0) K (s_X9_writesSign K.tr e9) cal_X9_writesSign cls7 u_7_187 g8 rfl ⟨by decide, by decide⟩ ⟨by decide, by decide⟩ rfl (Nat.le_of_ble_eq_true rfl) dX9_send_90 rfl rfl ?_
  refine Vw.aload_n (pc := 93) (x := x0) K dX9_send_93 rfl ?_
  refine Vw.iload (pc := 94) (x := v2) K dX9_send_94 rfl ?_
  refine Vw.bipush (pc := 96) (v := (30 : Int32)) K (by decide) dX9_send_96 ?_
  refine Vw.iadd (pc := 98) K dX9_send_98 ?_
  refine Vw.aload_n (pc := 99) (x := x0) K dX9_send_99 rfl ?_
  obtain ⟨g11, h⟩ := wgd h
  refine Vw.getR (pc := 100) (k := 0) (f := 448) K cls7 rfl rfl u_6_17 g11 dX9_send_100 ?_
  refine Vw.iload (pc := 103) (x := v2) K dX9_send_103 rfl ?_
  refine Vw.iconst (pc := 105) (v := (1 : Int32)) K (by decide) dX9_send_105 ?_
  refine Vw.iadd (pc := 106) K dX9_send_106 ?_
  obtain ⟨g12, h⟩ := wgd h
  obtain ⟨g13, h⟩ := wgd h
  refine Vw.laload (pc := 107) K g12 g13 dX9_send_107 ?_
  refine Vw.l2i (pc := 108) K dX9_send_108 ?_
  obtain ⟨A15, e14, h⟩ := wbd h
  refine Vw.cV0 (pc := 109) (c' := 0) (n' := 0) K (s_X9_writes K.tr e14) cal_X9_writes cls7 u_7_191 g11 rfl ⟨by decide, by decide⟩ ⟨by decide, by decide⟩ rfl (Nat.le_of_ble_eq_true rfl) dX9_send_109 rfl rfl ?_
  refine Vw.aload_n (pc := 112) (x := x0) K dX9_send_112 rfl ?_
  obtain ⟨g16, h⟩ := wgd h
  refine Vw.getR (pc := 113) (k := 0) (f := 448) K cls7 rfl rfl u_6_17 g16 dX9_send_113 ?_
  refine Vw.iload (pc := 116) (x := v2) K dX9_send_116 rfl ?_
  refine Vw.bipush (pc := 118) (v := (6 : Int32)) K (by decide) dX9_send_118 ?_
  refine Vw.iadd (pc := 120) K dX9_send_120 ?_
  refine Vw.aload_n (pc := 121) (x := x0) K dX9_send_121 rfl ?_
  refine Vw.getR (pc := 122) (k := 0) (f := 448) K cls7 rfl rfl u_6_17 g16 dX9_send_122 ?_
  refine Vw.iconst (pc := 125) (v := (0 : Int32)) K (by decide) dX9_send_125 ?_
  obtain ⟨g17, h⟩ := wgd h
  obtain ⟨g18, h⟩ := wgd h
  refine Vw.laload (pc := 126) K g17 g18 dX9_send_126 ?_
  obtain ⟨g19, h⟩ := wgd h
  refine Vw.lastore (pc := 127) K g17 g19 dX9_send_127 ?_
  refine Vw.iinc (pc := 128) (x := x3) (v := (1 : Int32)) K dX9_send_128 rfl (by decide) (by decide) ?_
  refine Vw.aload_n (pc := 131) (x := x0) K dX9_send_131 rfl ?_
  refine Vw.iload (pc := 132) (x := x4) K dX9_send_132 rfl ?_
  refine Vw.iload_n (pc := 134) (x := x1) K dX9_send_134 rfl ?_
  refine Vw.iload_n (pc := 135) (x := x2) K dX9_send_135 rfl ?_
  obtain ⟨v21, e20, h⟩ := wbd h
  refine Vw.cV1 (pc := 136) (v := .inl v21) (c' := 0) (n' := 0) K (s_X9_sentBehind K.tr e20) cal_X9_sentBehind cls7 u_7_175 g16 rfl ⟨by decide, by decide⟩ ⟨by decide, by decide⟩ rfl (Nat.le_of_ble_eq_true rfl) dX9_send_136 rfl rfl ?_
  refine Vw.istore (pc := 139) K dX9_send_139 (by decide) ?_
  refine Vw.goto (pc := 141) (tgt := 42) K dX9_send_141 (by decide) ?_
  exact Vw.loc rfl (hr42 _ _ _ h)
def k_X9_send_42s  (x0 : Nat) (x1 : Int32) (x2 : Int32)  (rec42 : Hp → Int32 → Int32 → Option (Int32 × Hp)) (A : Hp) (x3 : Int32) (x4 : Int32) : Option (Int32 × Hp) := (if x4 < (0 : Int32) then some (x3, A) else (if x3 ≤ (0 : Int32) then k_X9_send_63 rec42 A x0 x1 x2 x3 x4 else if (hsh A x0).1 = 8 then ((f_X9_writesSign A x0 (59 : Int32)).bind fun A26 => if (hsh A26 x0).1 = 8 then ((f_X9_writesSign A26 x0 (32 : Int32)).bind fun A29 => k_X9_send_63 rec42 A29 x0 x1 x2 x3 x4) else none) else none))
def k_X9_send_42  (x0 : Nat) (x1 : Int32) (x2 : Int32)  : Nat → Hp → Int32 → Int32 → Option (Int32 × Hp)
  | 0 => fun _ _ _ => none
  | fu + 1 => k_X9_send_42s x0 x1 x2  (k_X9_send_42 x0 x1 x2  fu)
set_option maxRecDepth 100000 in
theorem s_X9_send_42 {κ : KT} {r : Int32} {B : Hp}  {x0 : Nat} {x1 : Int32} {x2 : Int32}  (K : Cx κ cX9_send 6 RX9 8 201 0 0) (E : Ed κ (some .int) "send" (.inl (some (.inl r))) B 0 0)  : ∀ (fu : Nat) (A : Hp) (x3 : Int32) (x4 : Int32),  k_X9_send_42 x0 x1 x2  fu A x3 x4 = some (r, B) → Vw κ A 0 0 42 [(0, .inr (.inr x0)), (1, .inl x1), (2, .inl x2), (3, .inl x3), (4, .inl x4)] [] := by
  intro fu
  induction fu with
  | zero => intro A x3 x4 h; cases h
  | succ fu hr42 =>
    intro A x3 x4 h
    have h : k_X9_send_42s x0 x1 x2  (k_X9_send_42 x0 x1 x2  fu) A x3 x4 = some (r, B) := h
    unfold k_X9_send_42s at h
    refine Vw.iload (pc := 42) (x := x4) K dX9_send_42 rfl ?_
    refine Vw.if_lt (pc := 44) (tgt := 144) K dX9_send_44 (by decide) (fun c22 => ?_) (fun c22 => ?_)
    · have h := wpos c22 h
      refine Vw.iload_n (pc := 144) (x := x3) K dX9_send_144 rfl ?_
      exact Vw.iretH (pc := 145) K h E (by decide) (by decide) dX9_send_145
    · have h := wneg c22 h
      refine Vw.iload_n (pc := 47) (x := x3) K dX9_send_47 rfl ?_
      refine Vw.if_le (pc := 48) (tgt := 63) K dX9_send_48 (by decide) (fun c23 => ?_) (fun c23 => ?_)
      · have h := wpos c23 h
        exact Vw.loc rfl (s_X9_send_63 K E hr42 h)
      · have h := wneg c23 h
        refine Vw.aload_n (pc := 51) (x := x0) K dX9_send_51 rfl ?_
        refine Vw.bipush (pc := 52) (v := (59 : Int32)) K (by decide) dX9_send_52 ?_
        obtain ⟨g24, h⟩ := wgd h
        obtain ⟨A26, e25, h⟩ := wbd h
        refine Vw.cV0 (pc := 54) (c' := 0) (n' := 0) K (s_X9_writesSign K.tr e25) cal_X9_writesSign cls7 u_7_187 g24 rfl ⟨by decide, by decide⟩ ⟨by decide, by decide⟩ rfl (Nat.le_of_ble_eq_true rfl) dX9_send_54 rfl rfl ?_
        refine Vw.aload_n (pc := 57) (x := x0) K dX9_send_57 rfl ?_
        refine Vw.bipush (pc := 58) (v := (32 : Int32)) K (by decide) dX9_send_58 ?_
        obtain ⟨g27, h⟩ := wgd h
        obtain ⟨A29, e28, h⟩ := wbd h
        refine Vw.cV0 (pc := 60) (c' := 0) (n' := 0) K (s_X9_writesSign K.tr e28) cal_X9_writesSign cls7 u_7_187 g27 rfl ⟨by decide, by decide⟩ ⟨by decide, by decide⟩ rfl (Nat.le_of_ble_eq_true rfl) dX9_send_60 rfl rfl ?_
        exact Vw.loc rfl (s_X9_send_63 K E hr42 h)
def f_X9_send (A : Hp) (x0 : Nat) (x1 : Int32) (x2 : Int32) : Option (Int32 × Hp) := if (hsh A x0).1 = 8 then if (hsh (hsI A 452 x0 0 (0 : Int32)) (hgR (hsI A 452 x0 0 (0 : Int32)) 448 x0 0)).1 = 11 then if wix (100 : Int32) (hsh (hsI A 452 x0 0 (0 : Int32)) (hgR (hsI A 452 x0 0 (0 : Int32)) 448 x0 0)).2 then (if (hgL (hsI A 452 x0 0 (0 : Int32)) 1035 (hgR (hsI A 452 x0 0 (0 : Int32)) 448 x0 0) (100 : Int32).toNatClampNeg) = (0 : Int64) then ((f_X9_fails (hsI A 452 x0 0 (0 : Int32)) x0 (1 : Int32)).bind fun p38 => some (p38.1, p38.2)) else if wix (8 : Int32) (hsh (hsI A 452 x0 0 (0 : Int32)) (hgR (hsI A 452 x0 0 (0 : Int32)) 448 x0 0)).2 then ((f_X9_sentBehind (hsL (hsI A 452 x0 0 (0 : Int32)) 1035 (hgR (hsI A 452 x0 0 (0 : Int32)) 448 x0 0) (8 : Int32).toNatClampNeg (0 : Int64)) x0 (-1 : Int32) x1 x2).bind fun v36 => k_X9_send_42 x0 x1 x2 FU (hsL (hsI A 452 x0 0 (0 : Int32)) 1035 (hgR (hsI A 452 x0 0 (0 : Int32)) 448 x0 0) (8 : Int32).toNatClampNeg (0 : Int64)) (0 : Int32) v36) else none) else none else none else none
set_option maxRecDepth 100000 in
theorem s_X9_send {l : Launch} {g : GT} (hl : l.stackTraces = false) {A : Hp} {x0 : Nat} {x1 : Int32} {x2 : Int32} {r : Int32} {B : Hp} (h : f_X9_send A x0 x1 x2 = some (r, B)) : MetV l g yX9_send (.code yX9_send cX9_send 6 (some .int)) [.inr (.inr x0), .inl x1, .inl x2] A (.inl (some (.inl r))) B 8 201 0 0 := by
  refine MetV.ofV hl (by decide +kernel) (Nat.le_of_ble_eq_true rfl) (fun κ K E => ?_)
  have K : Cx κ cX9_send 6 RX9 8 201 0 0 := K
  have E : Ed κ (some .int) "send" (.inl (some (.inl r))) B 0 0 := E
  unfold f_X9_send at h
  change Vw κ A 0 0 0 [(0, .inr (.inr x0)), (1, .inl x1), (2, .inl x2)] []
  refine Vw.aload_n (pc := 0) (x := x0) K dX9_send_0 rfl ?_
  refine Vw.iconst (pc := 1) (v := (0 : Int32)) K (by decide) dX9_send_1 ?_
  obtain ⟨g30, h⟩ := wgd h
  refine Vw.putI (pc := 2) (k := 4) (f := 452) K cls7 rfl rfl u_6_21 g30 (Or.inl rfl) rfl rfl dX9_send_2 ?_
  refine Vw.aload_n (pc := 5) (x := x0) K dX9_send_5 rfl ?_
  refine Vw.getR (pc := 6) (k := 0) (f := 448) K cls7 rfl rfl u_6_17 g30 dX9_send_6 ?_
  refine Vw.bipush (pc := 9) (v := (100 : Int32)) K (by decide) dX9_send_9 ?_
  obtain ⟨g31, h⟩ := wgd h
  obtain ⟨g32, h⟩ := wgd h
  refine Vw.laload (pc := 11) K g31 g32 dX9_send_11 ?_
  refine Vw.lconst (pc := 12) (v := (0 : Int64)) K (by decide) dX9_send_12 ?_
  refine Vw.lcmp_ne (pc := 13) (tgt := 23) K dX9_send_13 dX9_send_14 (by decide) (fun c33 => ?_) (fun c33 => ?_)
  · have h := wneg c33 h
    refine Vw.aload_n (pc := 23) (x := x0) K dX9_send_23 rfl ?_
    refine Vw.getR (pc := 24) (k := 0) (f := 448) K cls7 rfl rfl u_6_17 g30 dX9_send_24 ?_
    refine Vw.bipush (pc := 27) (v := (8 : Int32)) K (by decide) dX9_send_27 ?_
    refine Vw.lconst (pc := 29) (v := (0 : Int64)) K (by decide) dX9_send_29 ?_
    obtain ⟨g34, h⟩ := wgd h
    refine Vw.lastore (pc := 30) K g31 g34 dX9_send_30 ?_
    refine Vw.iconst (pc := 31) (v := (0 : Int32)) K (by decide) dX9_send_31 ?_
    refine Vw.istore_n (pc := 32) K dX9_send_32 (by decide) ?_
    refine Vw.aload_n (pc := 33) (x := x0) K dX9_send_33 rfl ?_
    refine Vw.iconst (pc := 34) (v := (-1 : Int32)) K (by decide) dX9_send_34 ?_
    refine Vw.iload_n (pc := 35) (x := x1) K dX9_send_35 rfl ?_
    refine Vw.iload_n (pc := 36) (x := x2) K dX9_send_36 rfl ?_
    obtain ⟨v36, e35, h⟩ := wbd h
    refine Vw.cV1 (pc := 37) (v := .inl v36) (c' := 0) (n' := 0) K (s_X9_sentBehind K.tr e35) cal_X9_sentBehind cls7 u_7_175 g30 rfl ⟨by decide, by decide⟩ ⟨by decide, by decide⟩ rfl (Nat.le_of_ble_eq_true rfl) dX9_send_37 rfl rfl ?_
    refine Vw.istore (pc := 40) K dX9_send_40 (by decide) ?_
    exact Vw.loc rfl (s_X9_send_42 K E  _ _ _ _ h)
  · have h := wpos c33 h
    refine Vw.aload_n (pc := 17) (x := x0) K dX9_send_17 rfl ?_
    refine Vw.iconst (pc := 18) (v := (1 : Int32)) K (by decide) dX9_send_18 ?_
    obtain ⟨p38, e37, h⟩ := wbd h
    refine Vw.cV1 (pc := 19) (v := .inl p38.1) (c' := 0) (n' := 0) K (s_X9_fails K.tr e37) cal_X9_fails cls7 u_6_214 g30 rfl ⟨by decide, by decide⟩ ⟨by decide, by decide⟩ rfl (Nat.le_of_ble_eq_true rfl) dX9_send_19 rfl rfl ?_
    exact Vw.iretH (pc := 22) K h E (by decide) (by decide) dX9_send_22
theorem cal_X9_send : wCalV RX9 yX9_send (.code yX9_send cX9_send 6 (some .int)) 2 := ⟨by decide +kernel, u_7_172, u_7_173, u_1_9, u_7_174⟩
def f_X9_headerChar (A : Hp) (x0 : Nat) (x1 : Int32) : Option (Int32 × Hp) := if (hsh A x0).1 = 8 then (if (0 : Int32) ≤ x1 then if (hsh (hsI A 452 x0 0 (0 : Int32)) (hgR (hsI A 452 x0 0 (0 : Int32)) 448 x0 0)).1 = 11 then if wix (8 : Int32) (hsh (hsI A 452 x0 0 (0 : Int32)) (hgR (hsI A 452 x0 0 (0 : Int32)) 448 x0 0)).2 then (if (hgL (hsI A 452 x0 0 (0 : Int32)) 1035 (hgR (hsI A 452 x0 0 (0 : Int32)) 448 x0 0) (8 : Int32).toNatClampNeg) ≤ x1.toInt64 then some ((-1 : Int32), (hsI A 452 x0 0 (0 : Int32))) else if wix ((380 : Int32) + x1) (hsh (hsI A 452 x0 0 (0 : Int32)) (hgR (hsI A 452 x0 0 (0 : Int32)) 448 x0 0)).2 then some ((hgL (hsI A 452 x0 0 (0 : Int32)) 1035 (hgR (hsI A 452 x0 0 (0 : Int32)) 448 x0 0) ((380 : Int32) + x1).toNatClampNeg).toInt32, (hsI A 452 x0 0 (0 : Int32))) else none) else none else none else ((f_X9_fails (hsI A 452 x0 0 (0 : Int32)) x0 (1 : Int32)).bind fun p8 => some (p8.1, p8.2))) else none
set_option maxRecDepth 100000 in
theorem s_X9_headerChar {l : Launch} {g : GT} (hl : l.stackTraces = false) {A : Hp} {x0 : Nat} {x1 : Int32} {r : Int32} {B : Hp} (h : f_X9_headerChar A x0 x1 = some (r, B)) : MetV l g yX9_headerChar (.code yX9_headerChar cX9_headerChar 2 (some .int)) [.inr (.inr x0), .inl x1] A (.inl (some (.inl r))) B 1 21 0 0 := by
  refine MetV.ofV hl (by decide +kernel) (Nat.le_of_ble_eq_true rfl) (fun κ K E => ?_)
  have K : Cx κ cX9_headerChar 2 RX9 1 21 0 0 := K
  have E : Ed κ (some .int) "headerChar" (.inl (some (.inl r))) B 0 0 := E
  unfold f_X9_headerChar at h
  change Vw κ A 0 0 0 [(0, .inr (.inr x0)), (1, .inl x1)] []
  refine Vw.aload_n (pc := 0) (x := x0) K dX9_headerChar_0 rfl ?_
  refine Vw.iconst (pc := 1) (v := (0 : Int32)) K (by decide) dX9_headerChar_1 ?_
  obtain ⟨g1, h⟩ := wgd h
  refine Vw.putI (pc := 2) (k := 4) (f := 452) K cls7 rfl rfl u_6_21 g1 (Or.inl rfl) rfl rfl dX9_headerChar_2 ?_
  refine Vw.iload_n (pc := 5) (x := x1) K dX9_headerChar_5 rfl ?_
  refine Vw.if_ge (pc := 6) (tgt := 15) K dX9_headerChar_6 (by decide) (fun c2 => ?_) (fun c2 => ?_)
  · have h := wpos c2 h
    refine Vw.iload_n (pc := 15) (x := x1) K dX9_headerChar_15 rfl ?_
    refine Vw.i2l (pc := 16) K dX9_headerChar_16 ?_
    refine Vw.aload_n (pc := 17) (x := x0) K dX9_headerChar_17 rfl ?_
    refine Vw.getR (pc := 18) (k := 0) (f := 448) K cls7 rfl rfl u_6_17 g1 dX9_headerChar_18 ?_
    refine Vw.bipush (pc := 21) (v := (8 : Int32)) K (by decide) dX9_headerChar_21 ?_
    obtain ⟨g3, h⟩ := wgd h
    obtain ⟨g4, h⟩ := wgd h
    refine Vw.laload (pc := 23) K g3 g4 dX9_headerChar_23 ?_
    refine Vw.lcmp_ge (pc := 24) (tgt := 42) K dX9_headerChar_24 dX9_headerChar_25 (by decide) (fun c5 => ?_) (fun c5 => ?_)
    · have h := wpos c5 h
      refine Vw.iconst (pc := 42) (v := (-1 : Int32)) K (by decide) dX9_headerChar_42 ?_
      exact Vw.iretH (pc := 43) K h E (by decide) (by decide) dX9_headerChar_43
    · have h := wneg c5 h
      refine Vw.aload_n (pc := 28) (x := x0) K dX9_headerChar_28 rfl ?_
      refine Vw.getR (pc := 29) (k := 0) (f := 448) K cls7 rfl rfl u_6_17 g1 dX9_headerChar_29 ?_
      refine Vw.sipush (pc := 32) (v := (380 : Int32)) K (by decide) dX9_headerChar_32 ?_
      refine Vw.iload_n (pc := 35) (x := x1) K dX9_headerChar_35 rfl ?_
      refine Vw.iadd (pc := 36) K dX9_headerChar_36 ?_
      obtain ⟨g6, h⟩ := wgd h
      refine Vw.laload (pc := 37) K g3 g6 dX9_headerChar_37 ?_
      refine Vw.l2i (pc := 38) K dX9_headerChar_38 ?_
      refine Vw.goto (pc := 39) (tgt := 43) K dX9_headerChar_39 (by decide) ?_
      exact Vw.iretH (pc := 43) K h E (by decide) (by decide) dX9_headerChar_43
  · have h := wneg c2 h
    refine Vw.aload_n (pc := 9) (x := x0) K dX9_headerChar_9 rfl ?_
    refine Vw.iconst (pc := 10) (v := (1 : Int32)) K (by decide) dX9_headerChar_10 ?_
    obtain ⟨p8, e7, h⟩ := wbd h
    refine Vw.cV1 (pc := 11) (v := .inl p8.1) (c' := 0) (n' := 0) K (s_X9_fails K.tr e7) cal_X9_fails cls7 u_6_214 g1 rfl ⟨by decide, by decide⟩ ⟨by decide, by decide⟩ rfl (Nat.le_of_ble_eq_true rfl) dX9_headerChar_11 rfl rfl ?_
    exact Vw.iretH (pc := 14) K h E (by decide) (by decide) dX9_headerChar_14
theorem cal_X9_headerChar : wCalV RX9 yX9_headerChar (.code yX9_headerChar cX9_headerChar 2 (some .int)) 1 := ⟨by decide +kernel, u_7_196, u_7_197, u_1_9, u_7_198⟩
def k_X9_isAhead_135  (A : Hp)   : Option (Int32) := some (1 : Int32)
set_option maxRecDepth 100000 in
theorem s_X9_isAhead_135 {κ : KT} {r : Int32} {A : Hp}    (K : Cx κ cX9_isAhead 4 RX9 2 55 0 0) (E : Ed κ (some .boolean) "isAhead" (.inl (some (.inl r))) A 0 0)  (h : k_X9_isAhead_135  A   = some r) : Vw κ A 0 0 135 [] [] := by
  unfold k_X9_isAhead_135 at h
  refine Vw.iconst (pc := 135) (v := (1 : Int32)) K (by decide) dX9_isAhead_135 ?_
  refine Vw.goto (pc := 136) (tgt := 140) K dX9_isAhead_136 (by decide) ?_
  exact Vw.zretE (pc := 140) K (Or.inr rfl) (Option.some.inj h) rfl E (by decide) (by decide) dX9_isAhead_140
def k_X9_isAhead_104  (A : Hp) (x0 : Nat) (x1 : Int32) (x2 : Int32) (t0 : Int32) : Option (Int32) := (if t0 < (0 : Int32) then k_X9_isAhead_135 A else (if t0 = (0 : Int32) then if (hsh A x0).1 = 8 then if (hsh A (hgR A 448 x0 0)).1 = 11 then if wix (x1 + (8 : Int32)) (hsh A (hgR A 448 x0 0)).2 then if wix (x2 + (8 : Int32)) (hsh A (hgR A 448 x0 0)).2 then (if (hgL A 1035 (hgR A 448 x0 0) (x2 + (8 : Int32)).toNatClampNeg) ≤ (hgL A 1035 (hgR A 448 x0 0) (x1 + (8 : Int32)).toNatClampNeg) then some (0 : Int32) else k_X9_isAhead_135 A) else none else none else none else none else some (0 : Int32)))
set_option maxRecDepth 100000 in
theorem s_X9_isAhead_104 {κ : KT} {r : Int32} {A : Hp} {x0 : Nat} {x1 : Int32} {x2 : Int32} {t0 : Int32}  (K : Cx κ cX9_isAhead 4 RX9 2 55 0 0) (E : Ed κ (some .boolean) "isAhead" (.inl (some (.inl r))) A 0 0)  (h : k_X9_isAhead_104  A x0 x1 x2 t0 = some r) : Vw κ A 0 0 104 [(0, .inr (.inr x0)), (1, .inl x1), (2, .inl x2)] [.inl t0] := by
  unfold k_X9_isAhead_104 at h
  refine Vw.istore_n (pc := 104) K dX9_isAhead_104 (by decide) ?_
  refine Vw.iload_n (pc := 105) (x := t0) K dX9_isAhead_105 rfl ?_
  refine Vw.if_lt (pc := 106) (tgt := 135) K dX9_isAhead_106 (by decide) (fun c1 => ?_) (fun c1 => ?_)
  · have h := wpos c1 h
    exact Vw.loc rfl (s_X9_isAhead_135 K E  h)
  · have h := wneg c1 h
    refine Vw.iload_n (pc := 109) (x := t0) K dX9_isAhead_109 rfl ?_
    refine Vw.if_ne (pc := 110) (tgt := 139) K dX9_isAhead_110 (by decide) (fun c2 => ?_) (fun c2 => ?_)
    · have h := wneg c2 h
      refine Vw.iconst (pc := 139) (v := (0 : Int32)) K (by decide) dX9_isAhead_139 ?_
      exact Vw.zretE (pc := 140) K (Or.inl rfl) (Option.some.inj h) rfl E (by decide) (by decide) dX9_isAhead_140
    · have h := wpos c2 h
      refine Vw.aload_n (pc := 113) (x := x0) K dX9_isAhead_113 rfl ?_
      obtain ⟨g3, h⟩ := wgd h
      refine Vw.getR (pc := 114) (k := 0) (f := 448) K cls7 rfl rfl u_6_17 g3 dX9_isAhead_114 ?_
      refine Vw.iload_n (pc := 117) (x := x1) K dX9_isAhead_117 rfl ?_
      refine Vw.bipush (pc := 118) (v := (8 : Int32)) K (by decide) dX9_isAhead_118 ?_
      refine Vw.iadd (pc := 120) K dX9_isAhead_120 ?_
      obtain ⟨g4, h⟩ := wgd h
      obtain ⟨g5, h⟩ := wgd h
      refine Vw.laload (pc := 121) K g4 g5 dX9_isAhead_121 ?_
      refine Vw.aload_n (pc := 122) (x := x0) K dX9_isAhead_122 rfl ?_
      refine Vw.getR (pc := 123) (k := 0) (f := 448) K cls7 rfl rfl u_6_17 g3 dX9_isAhead_123 ?_
      refine Vw.iload_n (pc := 126) (x := x2) K dX9_isAhead_126 rfl ?_
      refine Vw.bipush (pc := 127) (v := (8 : Int32)) K (by decide) dX9_isAhead_127 ?_
      refine Vw.iadd (pc := 129) K dX9_isAhead_129 ?_
      obtain ⟨g6, h⟩ := wgd h
      refine Vw.laload (pc := 130) K g4 g6 dX9_isAhead_130 ?_
      refine Vw.lcmp_ge (pc := 131) (tgt := 139) K dX9_isAhead_131 dX9_isAhead_132 (by decide) (fun c7 => ?_) (fun c7 => ?_)
      · have h := wpos c7 h
        refine Vw.iconst (pc := 139) (v := (0 : Int32)) K (by decide) dX9_isAhead_139 ?_
        exact Vw.zretE (pc := 140) K (Or.inl rfl) (Option.some.inj h) rfl E (by decide) (by decide) dX9_isAhead_140
      · have h := wneg c7 h
        exact Vw.loc rfl (s_X9_isAhead_135 K E  h)
def k_X9_isAhead_69  (A : Hp) (x0 : Nat) (x1 : Int32) (x2 : Int32) (t0 : Int32) : Option (Int32) := (if t0 = (0 : Int32) then if (hsh A x0).1 = 8 then if (hsh A (hgR A 448 x0 0)).1 = 11 then if wix x1 (hsh A (hgR A 448 x0 0)).2 then if wix x2 (hsh A (hgR A 448 x0 0)).2 then ((f_X9_ordered A x0 (x1 + (14 : Int32)) ((hgL A 1035 (hgR A 448 x0 0) x1.toNatClampNeg).toInt32) (x2 + (14 : Int32)) ((hgL A 1035 (hgR A 448 x0 0) x2.toNatClampNeg).toInt32)).bind fun v14 => k_X9_isAhead_104 A x0 x1 x2 v14) else none else none else none else none else k_X9_isAhead_104 A x0 x1 x2 t0)
set_option maxRecDepth 100000 in
theorem s_X9_isAhead_69 {κ : KT} {r : Int32} {A : Hp} {x0 : Nat} {x1 : Int32} {x2 : Int32} {t0 : Int32}  (K : Cx κ cX9_isAhead 4 RX9 2 55 0 0) (E : Ed κ (some .boolean) "isAhead" (.inl (some (.inl r))) A 0 0)  (h : k_X9_isAhead_69  A x0 x1 x2 t0 = some r) : Vw κ A 0 0 69 [(0, .inr (.inr x0)), (1, .inl x1), (2, .inl x2)] [.inl t0] := by
  unfold k_X9_isAhead_69 at h
  refine Vw.istore_n (pc := 69) K dX9_isAhead_69 (by decide) ?_
  refine Vw.iload_n (pc := 70) (x := t0) K dX9_isAhead_70 rfl ?_
  refine Vw.if_eq (pc := 71) (tgt := 78) K dX9_isAhead_71 (by decide) (fun c8 => ?_) (fun c8 => ?_)
  · have h := wpos c8 h
    refine Vw.aload_n (pc := 78) (x := x0) K dX9_isAhead_78 rfl ?_
    refine Vw.iload_n (pc := 79) (x := x1) K dX9_isAhead_79 rfl ?_
    refine Vw.bipush (pc := 80) (v := (14 : Int32)) K (by decide) dX9_isAhead_80 ?_
    refine Vw.iadd (pc := 82) K dX9_isAhead_82 ?_
    refine Vw.aload_n (pc := 83) (x := x0) K dX9_isAhead_83 rfl ?_
    obtain ⟨g9, h⟩ := wgd h
    refine Vw.getR (pc := 84) (k := 0) (f := 448) K cls7 rfl rfl u_6_17 g9 dX9_isAhead_84 ?_
    refine Vw.iload_n (pc := 87) (x := x1) K dX9_isAhead_87 rfl ?_
    obtain ⟨g10, h⟩ := wgd h
    obtain ⟨g11, h⟩ := wgd h
    refine Vw.laload (pc := 88) K g10 g11 dX9_isAhead_88 ?_
    refine Vw.l2i (pc := 89) K dX9_isAhead_89 ?_
    refine Vw.iload_n (pc := 90) (x := x2) K dX9_isAhead_90 rfl ?_
    refine Vw.bipush (pc := 91) (v := (14 : Int32)) K (by decide) dX9_isAhead_91 ?_
    refine Vw.iadd (pc := 93) K dX9_isAhead_93 ?_
    refine Vw.aload_n (pc := 94) (x := x0) K dX9_isAhead_94 rfl ?_
    refine Vw.getR (pc := 95) (k := 0) (f := 448) K cls7 rfl rfl u_6_17 g9 dX9_isAhead_95 ?_
    refine Vw.iload_n (pc := 98) (x := x2) K dX9_isAhead_98 rfl ?_
    obtain ⟨g12, h⟩ := wgd h
    refine Vw.laload (pc := 99) K g10 g12 dX9_isAhead_99 ?_
    refine Vw.l2i (pc := 100) K dX9_isAhead_100 ?_
    obtain ⟨v14, e13, h⟩ := wbd h
    refine Vw.cV1 (pc := 101) (v := .inl v14) (c' := 0) (n' := 0) K (s_X9_ordered K.tr e13) cal_X9_ordered cls7 u_7_219 g9 rfl ⟨by decide, by decide⟩ ⟨by decide, by decide⟩ rfl (Nat.le_of_ble_eq_true rfl) dX9_isAhead_101 rfl rfl ?_
    exact Vw.loc rfl (s_X9_isAhead_104 K E  h)
  · have h := wneg c8 h
    refine Vw.iload_n (pc := 74) (x := t0) K dX9_isAhead_74 rfl ?_
    refine Vw.goto (pc := 75) (tgt := 104) K dX9_isAhead_75 (by decide) ?_
    exact Vw.loc rfl (s_X9_isAhead_104 K E  h)
def f_X9_isAhead (A : Hp) (x0 : Nat) (x1 : Int32) (x2 : Int32) : Option (Int32) := if (hsh A x0).1 = 8 then if (hsh A (hgR A 448 x0 0)).1 = 11 then if wix (x1 + (2 : Int32)) (hsh A (hgR A 448 x0 0)).2 then if wix (x2 + (2 : Int32)) (hsh A (hgR A 448 x0 0)).2 then ((f_X9_orderedDomains A x0 (x1 + (62 : Int32)) ((hgL A 1035 (hgR A 448 x0 0) (x1 + (2 : Int32)).toNatClampNeg).toInt32) (x2 + (62 : Int32)) ((hgL A 1035 (hgR A 448 x0 0) (x2 + (2 : Int32)).toNatClampNeg).toInt32)).bind fun v20 => (if v20 = (0 : Int32) then if wix (x1 + (3 : Int32)) (hsh A (hgR A 448 x0 0)).2 then if wix (x2 + (3 : Int32)) (hsh A (hgR A 448 x0 0)).2 then ((f_X9_ordered A x0 (x1 + (92 : Int32)) ((hgL A 1035 (hgR A 448 x0 0) (x1 + (3 : Int32)).toNatClampNeg).toInt32) (x2 + (92 : Int32)) ((hgL A 1035 (hgR A 448 x0 0) (x2 + (3 : Int32)).toNatClampNeg).toInt32)).bind fun v25 => k_X9_isAhead_69 A x0 x1 x2 v25) else none else none else k_X9_isAhead_69 A x0 x1 x2 v20)) else none else none else none else none
set_option maxRecDepth 100000 in
theorem s_X9_isAhead {l : Launch} {g : GT} (hl : l.stackTraces = false) {A : Hp} {x0 : Nat} {x1 : Int32} {x2 : Int32} {r : Int32} (h : f_X9_isAhead A x0 x1 x2 = some r) : MetV l g yX9_isAhead (.code yX9_isAhead cX9_isAhead 4 (some .boolean)) [.inr (.inr x0), .inl x1, .inl x2] A (.inl (some (.inl r))) A 2 55 0 0 := by
  refine MetV.ofV hl (by decide +kernel) (Nat.le_of_ble_eq_true rfl) (fun κ K E => ?_)
  have K : Cx κ cX9_isAhead 4 RX9 2 55 0 0 := K
  have E : Ed κ (some .boolean) "isAhead" (.inl (some (.inl r))) A 0 0 := E
  unfold f_X9_isAhead at h
  change Vw κ A 0 0 0 [(0, .inr (.inr x0)), (1, .inl x1), (2, .inl x2)] []
  refine Vw.aload_n (pc := 0) (x := x0) K dX9_isAhead_0 rfl ?_
  refine Vw.iload_n (pc := 1) (x := x1) K dX9_isAhead_1 rfl ?_
  refine Vw.bipush (pc := 2) (v := (62 : Int32)) K (by decide) dX9_isAhead_2 ?_
  refine Vw.iadd (pc := 4) K dX9_isAhead_4 ?_
  refine Vw.aload_n (pc := 5) (x := x0) K dX9_isAhead_5 rfl ?_
  obtain ⟨g15, h⟩ := wgd h
  refine Vw.getR (pc := 6) (k := 0) (f := 448) K cls7 rfl rfl u_6_17 g15 dX9_isAhead_6 ?_
  refine Vw.iload_n (pc := 9) (x := x1) K dX9_isAhead_9 rfl ?_
  refine Vw.iconst (pc := 10) (v := (2 : Int32)) K (by decide) dX9_isAhead_10 ?_
  refine Vw.iadd (pc := 11) K dX9_isAhead_11 ?_
  obtain ⟨g16, h⟩ := wgd h
  obtain ⟨g17, h⟩ := wgd h
  refine Vw.laload (pc := 12) K g16 g17 dX9_isAhead_12 ?_
  refine Vw.l2i (pc := 13) K dX9_isAhead_13 ?_
  refine Vw.iload_n (pc := 14) (x := x2) K dX9_isAhead_14 rfl ?_
  refine Vw.bipush (pc := 15) (v := (62 : Int32)) K (by decide) dX9_isAhead_15 ?_
  refine Vw.iadd (pc := 17) K dX9_isAhead_17 ?_
  refine Vw.aload_n (pc := 18) (x := x0) K dX9_isAhead_18 rfl ?_
  refine Vw.getR (pc := 19) (k := 0) (f := 448) K cls7 rfl rfl u_6_17 g15 dX9_isAhead_19 ?_
  refine Vw.iload_n (pc := 22) (x := x2) K dX9_isAhead_22 rfl ?_
  refine Vw.iconst (pc := 23) (v := (2 : Int32)) K (by decide) dX9_isAhead_23 ?_
  refine Vw.iadd (pc := 24) K dX9_isAhead_24 ?_
  obtain ⟨g18, h⟩ := wgd h
  refine Vw.laload (pc := 25) K g16 g18 dX9_isAhead_25 ?_
  refine Vw.l2i (pc := 26) K dX9_isAhead_26 ?_
  obtain ⟨v20, e19, h⟩ := wbd h
  refine Vw.cV1 (pc := 27) (v := .inl v20) (c' := 0) (n' := 0) K (s_X9_orderedDomains K.tr e19) cal_X9_orderedDomains cls7 u_7_215 g15 rfl ⟨by decide, by decide⟩ ⟨by decide, by decide⟩ rfl (Nat.le_of_ble_eq_true rfl) dX9_isAhead_27 rfl rfl ?_
  refine Vw.istore_n (pc := 30) K dX9_isAhead_30 (by decide) ?_
  refine Vw.iload_n (pc := 31) (x := v20) K dX9_isAhead_31 rfl ?_
  refine Vw.if_eq (pc := 32) (tgt := 39) K dX9_isAhead_32 (by decide) (fun c21 => ?_) (fun c21 => ?_)
  · have h := wpos c21 h
    refine Vw.aload_n (pc := 39) (x := x0) K dX9_isAhead_39 rfl ?_
    refine Vw.iload_n (pc := 40) (x := x1) K dX9_isAhead_40 rfl ?_
    refine Vw.bipush (pc := 41) (v := (92 : Int32)) K (by decide) dX9_isAhead_41 ?_
    refine Vw.iadd (pc := 43) K dX9_isAhead_43 ?_
    refine Vw.aload_n (pc := 44) (x := x0) K dX9_isAhead_44 rfl ?_
    refine Vw.getR (pc := 45) (k := 0) (f := 448) K cls7 rfl rfl u_6_17 g15 dX9_isAhead_45 ?_
    refine Vw.iload_n (pc := 48) (x := x1) K dX9_isAhead_48 rfl ?_
    refine Vw.iconst (pc := 49) (v := (3 : Int32)) K (by decide) dX9_isAhead_49 ?_
    refine Vw.iadd (pc := 50) K dX9_isAhead_50 ?_
    obtain ⟨g22, h⟩ := wgd h
    refine Vw.laload (pc := 51) K g16 g22 dX9_isAhead_51 ?_
    refine Vw.l2i (pc := 52) K dX9_isAhead_52 ?_
    refine Vw.iload_n (pc := 53) (x := x2) K dX9_isAhead_53 rfl ?_
    refine Vw.bipush (pc := 54) (v := (92 : Int32)) K (by decide) dX9_isAhead_54 ?_
    refine Vw.iadd (pc := 56) K dX9_isAhead_56 ?_
    refine Vw.aload_n (pc := 57) (x := x0) K dX9_isAhead_57 rfl ?_
    refine Vw.getR (pc := 58) (k := 0) (f := 448) K cls7 rfl rfl u_6_17 g15 dX9_isAhead_58 ?_
    refine Vw.iload_n (pc := 61) (x := x2) K dX9_isAhead_61 rfl ?_
    refine Vw.iconst (pc := 62) (v := (3 : Int32)) K (by decide) dX9_isAhead_62 ?_
    refine Vw.iadd (pc := 63) K dX9_isAhead_63 ?_
    obtain ⟨g23, h⟩ := wgd h
    refine Vw.laload (pc := 64) K g16 g23 dX9_isAhead_64 ?_
    refine Vw.l2i (pc := 65) K dX9_isAhead_65 ?_
    obtain ⟨v25, e24, h⟩ := wbd h
    refine Vw.cV1 (pc := 66) (v := .inl v25) (c' := 0) (n' := 0) K (s_X9_ordered K.tr e24) cal_X9_ordered cls7 u_7_219 g15 rfl ⟨by decide, by decide⟩ ⟨by decide, by decide⟩ rfl (Nat.le_of_ble_eq_true rfl) dX9_isAhead_66 rfl rfl ?_
    exact Vw.loc rfl (s_X9_isAhead_69 K E  h)
  · have h := wneg c21 h
    refine Vw.iload_n (pc := 35) (x := v20) K dX9_isAhead_35 rfl ?_
    refine Vw.goto (pc := 36) (tgt := 69) K dX9_isAhead_36 (by decide) ?_
    exact Vw.loc rfl (s_X9_isAhead_69 K E  h)
theorem cal_X9_isAhead : wCalV RX9 yX9_isAhead (.code yX9_isAhead cX9_isAhead 4 (some .boolean)) 2 := ⟨by decide +kernel, u_7_213, us_6_8, u_1_9, u_7_214⟩
def k_X9_indexOf_42 (rec4 : Int32 → Int32 → Option (Int32)) (A : Hp) (x0 : Nat) (x1 : Int32) (x3 : Int32) (t0 : Int32) (t1 : Int32) : Option (Int32) := rec4 (t0 + t1) (x3 + (1 : Int32))
set_option maxRecDepth 100000 in
theorem s_X9_indexOf_42 {κ : KT} {r : Int32} {A : Hp} {x0 : Nat} {x1 : Int32} {x3 : Int32} {t0 : Int32} {t1 : Int32} {rec4 : Int32 → Int32 → Option (Int32)} (K : Cx κ cX9_indexOf 4 RX9 3 78 0 0) (E : Ed κ (some .int) "indexOf" (.inl (some (.inl r))) A 0 0) (hr4 : ∀ (x2 : Int32) (x3 : Int32), rec4 x2 x3 = some r → Vw κ A 0 0 4 [(0, .inr (.inr x0)), (1, .inl x1), (2, .inl x2), (3, .inl x3)] []) (h : k_X9_indexOf_42 rec4 A x0 x1 x3 t0 t1 = some r) : Vw κ A 0 0 42 [(0, .inr (.inr x0)), (1, .inl x1), (3, .inl x3)] [.inl t1, .inl t0] := by
  unfold k_X9_indexOf_42 at h
  refine Vw.iadd (pc := 42) K dX9_indexOf_42 ?_
  refine Vw.istore_n (pc := 43) K dX9_indexOf_43 (by decide) ?_
  refine Vw.iinc (pc := 44) (x := x3) (v := (1 : Int32)) K dX9_indexOf_44 rfl (by decide) (by decide) ?_
  refine Vw.goto (pc := 47) (tgt := 4) K dX9_indexOf_47 (by decide) ?_
  exact Vw.loc rfl (hr4 _ _ h)
def k_X9_indexOf_41 (rec4 : Int32 → Int32 → Option (Int32)) (A : Hp) (x0 : Nat) (x1 : Int32) (x3 : Int32) (t0 : Int32) : Option (Int32) := k_X9_indexOf_42 rec4 A x0 x1 x3 t0 (0 : Int32)
set_option maxRecDepth 100000 in
theorem s_X9_indexOf_41 {κ : KT} {r : Int32} {A : Hp} {x0 : Nat} {x1 : Int32} {x3 : Int32} {t0 : Int32} {rec4 : Int32 → Int32 → Option (Int32)} (K : Cx κ cX9_indexOf 4 RX9 3 78 0 0) (E : Ed κ (some .int) "indexOf" (.inl (some (.inl r))) A 0 0) (hr4 : ∀ (x2 : Int32) (x3 : Int32), rec4 x2 x3 = some r → Vw κ A 0 0 4 [(0, .inr (.inr x0)), (1, .inl x1), (2, .inl x2), (3, .inl x3)] []) (h : k_X9_indexOf_41 rec4 A x0 x1 x3 t0 = some r) : Vw κ A 0 0 41 [(0, .inr (.inr x0)), (1, .inl x1), (3, .inl x3)] [.inl t0] := by
  unfold k_X9_indexOf_41 at h
  refine Vw.iconst (pc := 41) (v := (0 : Int32)) K (by decide) dX9_indexOf_41 ?_
  exact Vw.loc rfl (s_X9_indexOf_42 K E hr4 h)
def k_X9_indexOf_4s (A : Hp) (x0 : Nat) (x1 : Int32)  (rec4 : Int32 → Int32 → Option (Int32))  (x2 : Int32) (x3 : Int32) : Option (Int32) := if (hsh A x0).1 = 8 then if (hsh A (hgR A 448 x0 0)).1 = 11 then if wix (5 : Int32) (hsh A (hgR A 448 x0 0)).2 then (if (hgL A 1035 (hgR A 448 x0 0) (5 : Int32).toNatClampNeg) ≤ x3.toInt64 then some x2 else (if x3 = x1 then k_X9_indexOf_41 rec4 A x0 x1 x3 x2 else ((f_X9_cookie A x3).bind fun v7 => ((f_X9_cookie A x1).bind fun v9 => ((f_X9_isAhead A x0 v7 v9).bind fun v11 => (if v11 = (0 : Int32) then k_X9_indexOf_41 rec4 A x0 x1 x3 x2 else k_X9_indexOf_42 rec4 A x0 x1 x3 x2 (1 : Int32))))))) else none else none else none
def k_X9_indexOf_4 (A : Hp) (x0 : Nat) (x1 : Int32)  : Nat → Int32 → Int32 → Option (Int32)
  | 0 => fun _ _ => none
  | fu + 1 => k_X9_indexOf_4s A x0 x1  (k_X9_indexOf_4 A x0 x1  fu)
set_option maxRecDepth 100000 in
theorem s_X9_indexOf_4 {κ : KT} {r : Int32} {A : Hp} {x0 : Nat} {x1 : Int32}  (K : Cx κ cX9_indexOf 4 RX9 3 78 0 0) (E : Ed κ (some .int) "indexOf" (.inl (some (.inl r))) A 0 0)  : ∀ (fu : Nat)  (x2 : Int32) (x3 : Int32),  k_X9_indexOf_4 A x0 x1  fu x2 x3 = some r → Vw κ A 0 0 4 [(0, .inr (.inr x0)), (1, .inl x1), (2, .inl x2), (3, .inl x3)] [] := by
  intro fu
  induction fu with
  | zero => intro x2 x3 h; cases h
  | succ fu hr4 =>
    intro x2 x3 h
    have h : k_X9_indexOf_4s A x0 x1  (k_X9_indexOf_4 A x0 x1  fu) x2 x3 = some r := h
    unfold k_X9_indexOf_4s at h
    refine Vw.iload_n (pc := 4) (x := x3) K dX9_indexOf_4 rfl ?_
    refine Vw.i2l (pc := 5) K dX9_indexOf_5 ?_
    refine Vw.aload_n (pc := 6) (x := x0) K dX9_indexOf_6 rfl ?_
    obtain ⟨g1, h⟩ := wgd h
    refine Vw.getR (pc := 7) (k := 0) (f := 448) K cls7 rfl rfl u_6_17 g1 dX9_indexOf_7 ?_
    refine Vw.iconst (pc := 10) (v := (5 : Int32)) K (by decide) dX9_indexOf_10 ?_
    obtain ⟨g2, h⟩ := wgd h
    obtain ⟨g3, h⟩ := wgd h
    refine Vw.laload (pc := 11) K g2 g3 dX9_indexOf_11 ?_
    refine Vw.lcmp_ge (pc := 12) (tgt := 50) K dX9_indexOf_12 dX9_indexOf_13 (by decide) (fun c4 => ?_) (fun c4 => ?_)
    · have h := wpos c4 h
      refine Vw.iload_n (pc := 50) (x := x2) K dX9_indexOf_50 rfl ?_
      exact Vw.iretE (pc := 51) K (Option.some.inj h) rfl E (by decide) (by decide) dX9_indexOf_51
    · have h := wneg c4 h
      refine Vw.iload_n (pc := 16) (x := x2) K dX9_indexOf_16 rfl ?_
      refine Vw.iload_n (pc := 17) (x := x3) K dX9_indexOf_17 rfl ?_
      refine Vw.iload_n (pc := 18) (x := x1) K dX9_indexOf_18 rfl ?_
      refine Vw.icmp_eq (pc := 19) (tgt := 41) K dX9_indexOf_19 (by decide) (fun c5 => ?_) (fun c5 => ?_)
      · have h := wpos c5 h
        exact Vw.loc rfl (s_X9_indexOf_41 K E hr4 h)
      · have h := wneg c5 h
        refine Vw.aload_n (pc := 22) (x := x0) K dX9_indexOf_22 rfl ?_
        refine Vw.iload_n (pc := 23) (x := x3) K dX9_indexOf_23 rfl ?_
        obtain ⟨v7, e6, h⟩ := wbd h
        refine Vw.cS1 (pc := 24) (v := .inl v7) (c' := 0) (n' := 0) K (s_X9_cookie K.tr e6) cal_X9_cookie u_7_102 rfl ⟨by decide, by decide⟩ ⟨by decide, by decide⟩ rfl (Nat.le_of_ble_eq_true rfl) dX9_indexOf_24 rfl rfl ?_
        refine Vw.iload_n (pc := 27) (x := x1) K dX9_indexOf_27 rfl ?_
        obtain ⟨v9, e8, h⟩ := wbd h
        refine Vw.cS1 (pc := 28) (v := .inl v9) (c' := 0) (n' := 0) K (s_X9_cookie K.tr e8) cal_X9_cookie u_7_102 rfl ⟨by decide, by decide⟩ ⟨by decide, by decide⟩ rfl (Nat.le_of_ble_eq_true rfl) dX9_indexOf_28 rfl rfl ?_
        obtain ⟨v11, e10, h⟩ := wbd h
        refine Vw.cV1 (pc := 31) (v := .inl v11) (c' := 0) (n' := 0) K (s_X9_isAhead K.tr e10) cal_X9_isAhead cls7 u_7_211 g1 rfl ⟨by decide, by decide⟩ ⟨by decide, by decide⟩ rfl (Nat.le_of_ble_eq_true rfl) dX9_indexOf_31 rfl rfl ?_
        refine Vw.if_eq (pc := 34) (tgt := 41) K dX9_indexOf_34 (by decide) (fun c12 => ?_) (fun c12 => ?_)
        · have h := wpos c12 h
          exact Vw.loc rfl (s_X9_indexOf_41 K E hr4 h)
        · have h := wneg c12 h
          refine Vw.iconst (pc := 37) (v := (1 : Int32)) K (by decide) dX9_indexOf_37 ?_
          refine Vw.goto (pc := 38) (tgt := 42) K dX9_indexOf_38 (by decide) ?_
          exact Vw.loc rfl (s_X9_indexOf_42 K E hr4 h)
def f_X9_indexOf (A : Hp) (x0 : Nat) (x1 : Int32) : Option (Int32) := k_X9_indexOf_4 A x0 x1 FU (0 : Int32) (0 : Int32)
set_option maxRecDepth 100000 in
theorem s_X9_indexOf {l : Launch} {g : GT} (hl : l.stackTraces = false) {A : Hp} {x0 : Nat} {x1 : Int32} {r : Int32} (h : f_X9_indexOf A x0 x1 = some r) : MetV l g yX9_indexOf (.code yX9_indexOf cX9_indexOf 4 (some .int)) [.inr (.inr x0), .inl x1] A (.inl (some (.inl r))) A 3 78 0 0 := by
  refine MetV.ofV hl (by decide +kernel) (Nat.le_of_ble_eq_true rfl) (fun κ K E => ?_)
  have K : Cx κ cX9_indexOf 4 RX9 3 78 0 0 := K
  have E : Ed κ (some .int) "indexOf" (.inl (some (.inl r))) A 0 0 := E
  unfold f_X9_indexOf at h
  change Vw κ A 0 0 0 [(0, .inr (.inr x0)), (1, .inl x1)] []
  refine Vw.iconst (pc := 0) (v := (0 : Int32)) K (by decide) dX9_indexOf_0 ?_
  refine Vw.istore_n (pc := 1) K dX9_indexOf_1 (by decide) ?_
  refine Vw.iconst (pc := 2) (v := (0 : Int32)) K (by decide) dX9_indexOf_2 ?_
  refine Vw.istore_n (pc := 3) K dX9_indexOf_3 (by decide) ?_
  exact Vw.loc rfl (s_X9_indexOf_4 K E  _ _ _ h)
theorem cal_X9_indexOf : wCalV RX9 yX9_indexOf (.code yX9_indexOf cX9_indexOf 4 (some .int)) 1 := ⟨by decide +kernel, u_7_209, us_6_7, u_1_9, u_7_210⟩
def k_X9_placeOf_2s (A : Hp) (x0 : Nat) (x1 : Int32)  (rec2 : Int32 → Option (Int32))  (x2 : Int32) : Option (Int32) := if (hsh A x0).1 = 8 then if (hsh A (hgR A 448 x0 0)).1 = 11 then if wix (5 : Int32) (hsh A (hgR A 448 x0 0)).2 then (if (hgL A 1035 (hgR A 448 x0 0) (5 : Int32).toNatClampNeg) ≤ x2.toInt64 then some (-1 : Int32) else ((f_X9_indexOf A x0 x2).bind fun v6 => (if v6 = x1 then some x2 else rec2 (x2 + (1 : Int32))))) else none else none else none
def k_X9_placeOf_2 (A : Hp) (x0 : Nat) (x1 : Int32)  : Nat → Int32 → Option (Int32)
  | 0 => fun _ => none
  | fu + 1 => k_X9_placeOf_2s A x0 x1  (k_X9_placeOf_2 A x0 x1  fu)
set_option maxRecDepth 100000 in
theorem s_X9_placeOf_2 {κ : KT} {r : Int32} {A : Hp} {x0 : Nat} {x1 : Int32}  (K : Cx κ cX9_placeOf 3 RX9 4 101 0 0) (E : Ed κ (some .int) "placeOf" (.inl (some (.inl r))) A 0 0)  : ∀ (fu : Nat)  (x2 : Int32),  k_X9_placeOf_2 A x0 x1  fu x2 = some r → Vw κ A 0 0 2 [(0, .inr (.inr x0)), (1, .inl x1), (2, .inl x2)] [] := by
  intro fu
  induction fu with
  | zero => intro x2 h; cases h
  | succ fu hr2 =>
    intro x2 h
    have h : k_X9_placeOf_2s A x0 x1  (k_X9_placeOf_2 A x0 x1  fu) x2 = some r := h
    unfold k_X9_placeOf_2s at h
    refine Vw.iload_n (pc := 2) (x := x2) K dX9_placeOf_2 rfl ?_
    refine Vw.i2l (pc := 3) K dX9_placeOf_3 ?_
    refine Vw.aload_n (pc := 4) (x := x0) K dX9_placeOf_4 rfl ?_
    obtain ⟨g1, h⟩ := wgd h
    refine Vw.getR (pc := 5) (k := 0) (f := 448) K cls7 rfl rfl u_6_17 g1 dX9_placeOf_5 ?_
    refine Vw.iconst (pc := 8) (v := (5 : Int32)) K (by decide) dX9_placeOf_8 ?_
    obtain ⟨g2, h⟩ := wgd h
    obtain ⟨g3, h⟩ := wgd h
    refine Vw.laload (pc := 9) K g2 g3 dX9_placeOf_9 ?_
    refine Vw.lcmp_ge (pc := 10) (tgt := 31) K dX9_placeOf_10 dX9_placeOf_11 (by decide) (fun c4 => ?_) (fun c4 => ?_)
    · have h := wpos c4 h
      refine Vw.iconst (pc := 31) (v := (-1 : Int32)) K (by decide) dX9_placeOf_31 ?_
      exact Vw.iretE (pc := 32) K (Option.some.inj h) rfl E (by decide) (by decide) dX9_placeOf_32
    · have h := wneg c4 h
      refine Vw.aload_n (pc := 14) (x := x0) K dX9_placeOf_14 rfl ?_
      refine Vw.iload_n (pc := 15) (x := x2) K dX9_placeOf_15 rfl ?_
      obtain ⟨v6, e5, h⟩ := wbd h
      refine Vw.cV1 (pc := 16) (v := .inl v6) (c' := 0) (n' := 0) K (s_X9_indexOf K.tr e5) cal_X9_indexOf cls7 u_7_207 g1 rfl ⟨by decide, by decide⟩ ⟨by decide, by decide⟩ rfl (Nat.le_of_ble_eq_true rfl) dX9_placeOf_16 rfl rfl ?_
      refine Vw.iload_n (pc := 19) (x := x1) K dX9_placeOf_19 rfl ?_
      refine Vw.icmp_ne (pc := 20) (tgt := 25) K dX9_placeOf_20 (by decide) (fun c7 => ?_) (fun c7 => ?_)
      · have h := wneg c7 h
        refine Vw.iinc (pc := 25) (x := x2) (v := (1 : Int32)) K dX9_placeOf_25 rfl (by decide) (by decide) ?_
        refine Vw.goto (pc := 28) (tgt := 2) K dX9_placeOf_28 (by decide) ?_
        exact Vw.loc rfl (hr2 _ h)
      · have h := wpos c7 h
        refine Vw.iload_n (pc := 23) (x := x2) K dX9_placeOf_23 rfl ?_
        exact Vw.iretE (pc := 24) K (Option.some.inj h) rfl E (by decide) (by decide) dX9_placeOf_24
def f_X9_placeOf (A : Hp) (x0 : Nat) (x1 : Int32) : Option (Int32) := k_X9_placeOf_2 A x0 x1 FU (0 : Int32)
set_option maxRecDepth 100000 in
theorem s_X9_placeOf {l : Launch} {g : GT} (hl : l.stackTraces = false) {A : Hp} {x0 : Nat} {x1 : Int32} {r : Int32} (h : f_X9_placeOf A x0 x1 = some r) : MetV l g yX9_placeOf (.code yX9_placeOf cX9_placeOf 3 (some .int)) [.inr (.inr x0), .inl x1] A (.inl (some (.inl r))) A 4 101 0 0 := by
  refine MetV.ofV hl (by decide +kernel) (Nat.le_of_ble_eq_true rfl) (fun κ K E => ?_)
  have K : Cx κ cX9_placeOf 3 RX9 4 101 0 0 := K
  have E : Ed κ (some .int) "placeOf" (.inl (some (.inl r))) A 0 0 := E
  unfold f_X9_placeOf at h
  change Vw κ A 0 0 0 [(0, .inr (.inr x0)), (1, .inl x1)] []
  refine Vw.iconst (pc := 0) (v := (0 : Int32)) K (by decide) dX9_placeOf_0 ?_
  refine Vw.istore_n (pc := 1) K dX9_placeOf_1 (by decide) ?_
  exact Vw.loc rfl (s_X9_placeOf_2 K E  _ _ h)
theorem cal_X9_placeOf : wCalV RX9 yX9_placeOf (.code yX9_placeOf cX9_placeOf 3 (some .int)) 1 := ⟨by decide +kernel, u_7_205, us_6_6, u_1_9, u_7_206⟩
def k_X9_lacks_23  (A : Hp) (x0 : Nat) (t0 : Nat) (t1 : Int32) : Option (Int32 × Hp) := if (hsh A t0).1 = 8 then if (hsh (hsI A 452 t0 0 t1) x0).1 = 8 then (if (hgI (hsI A 452 t0 0 t1) 452 x0 0) = (1 : Int32) then some ((1 : Int32), (hsI A 452 t0 0 t1)) else some ((0 : Int32), (hsI A 452 t0 0 t1))) else none else none
set_option maxRecDepth 100000 in
theorem s_X9_lacks_23 {κ : KT} {r : Int32} {B : Hp} {A : Hp} {x0 : Nat} {t0 : Nat} {t1 : Int32}  (K : Cx κ cX9_lacks 2 RX9 1 25 0 0) (E : Ed κ (some .boolean) "lacks" (.inl (some (.inl r))) B 0 0)  (h : k_X9_lacks_23  A x0 t0 t1 = some (r, B)) : Vw κ A 0 0 23 [(0, .inr (.inr x0))] [.inl t1, .inr (.inr t0)] := by
  unfold k_X9_lacks_23 at h
  obtain ⟨g1, h⟩ := wgd h
  refine Vw.putI (pc := 23) (k := 4) (f := 452) K cls7 rfl rfl u_6_21 g1 (Or.inl rfl) rfl rfl dX9_lacks_23 ?_
  refine Vw.aload_n (pc := 26) (x := x0) K dX9_lacks_26 rfl ?_
  obtain ⟨g2, h⟩ := wgd h
  refine Vw.getI (pc := 27) (k := 4) (f := 452) K cls7 rfl rfl u_6_21 g2 dX9_lacks_27 ?_
  refine Vw.iconst (pc := 30) (v := (1 : Int32)) K (by decide) dX9_lacks_30 ?_
  refine Vw.icmp_ne (pc := 31) (tgt := 38) K dX9_lacks_31 (by decide) (fun c3 => ?_) (fun c3 => ?_)
  · have h := wneg c3 h
    refine Vw.iconst (pc := 38) (v := (0 : Int32)) K (by decide) dX9_lacks_38 ?_
    exact Vw.zretH (pc := 39) K (Or.inl rfl) h E (by decide) (by decide) dX9_lacks_39
  · have h := wpos c3 h
    refine Vw.iconst (pc := 34) (v := (1 : Int32)) K (by decide) dX9_lacks_34 ?_
    refine Vw.goto (pc := 35) (tgt := 39) K dX9_lacks_35 (by decide) ?_
    exact Vw.zretH (pc := 39) K (Or.inr rfl) h E (by decide) (by decide) dX9_lacks_39
def f_X9_lacks (A : Hp) (x0 : Nat) (x1 : Int32) : Option (Int32 × Hp) := if (hsh A x0).1 = 8 then if (hsh A (hgR A 448 x0 0)).1 = 11 then if wix (5 : Int32) (hsh A (hgR A 448 x0 0)).2 then ((f_X9_in A x1.toInt64 (0 : Int64) ((hgL A 1035 (hgR A 448 x0 0) (5 : Int32).toNatClampNeg) - (1 : Int64))).bind fun v8 => (if v8 = (0 : Int32) then k_X9_lacks_23 A x0 x0 (1 : Int32) else k_X9_lacks_23 A x0 x0 (0 : Int32))) else none else none else none
set_option maxRecDepth 100000 in
theorem s_X9_lacks {l : Launch} {g : GT} (hl : l.stackTraces = false) {A : Hp} {x0 : Nat} {x1 : Int32} {r : Int32} {B : Hp} (h : f_X9_lacks A x0 x1 = some (r, B)) : MetV l g yX9_lacks (.code yX9_lacks cX9_lacks 2 (some .boolean)) [.inr (.inr x0), .inl x1] A (.inl (some (.inl r))) B 1 25 0 0 := by
  refine MetV.ofV hl (by decide +kernel) (Nat.le_of_ble_eq_true rfl) (fun κ K E => ?_)
  have K : Cx κ cX9_lacks 2 RX9 1 25 0 0 := K
  have E : Ed κ (some .boolean) "lacks" (.inl (some (.inl r))) B 0 0 := E
  unfold f_X9_lacks at h
  change Vw κ A 0 0 0 [(0, .inr (.inr x0)), (1, .inl x1)] []
  refine Vw.aload_n (pc := 0) (x := x0) K dX9_lacks_0 rfl ?_
  refine Vw.iload_n (pc := 1) (x := x1) K dX9_lacks_1 rfl ?_
  refine Vw.i2l (pc := 2) K dX9_lacks_2 ?_
  refine Vw.lconst (pc := 3) (v := (0 : Int64)) K (by decide) dX9_lacks_3 ?_
  refine Vw.aload_n (pc := 4) (x := x0) K dX9_lacks_4 rfl ?_
  obtain ⟨g4, h⟩ := wgd h
  refine Vw.getR (pc := 5) (k := 0) (f := 448) K cls7 rfl rfl u_6_17 g4 dX9_lacks_5 ?_
  refine Vw.iconst (pc := 8) (v := (5 : Int32)) K (by decide) dX9_lacks_8 ?_
  obtain ⟨g5, h⟩ := wgd h
  obtain ⟨g6, h⟩ := wgd h
  refine Vw.laload (pc := 9) K g5 g6 dX9_lacks_9 ?_
  refine Vw.lconst (pc := 10) (v := (1 : Int64)) K (by decide) dX9_lacks_10 ?_
  refine Vw.lsub (pc := 11) K dX9_lacks_11 ?_
  obtain ⟨v8, e7, h⟩ := wbd h
  refine Vw.cS1 (pc := 12) (v := .inl v8) (c' := 0) (n' := 0) K (s_X9_in K.tr e7) cal_X9_in u_6_161 rfl ⟨by decide, by decide⟩ ⟨by decide, by decide⟩ rfl (Nat.le_of_ble_eq_true rfl) dX9_lacks_12 rfl rfl ?_
  refine Vw.if_eq (pc := 15) (tgt := 22) K dX9_lacks_15 (by decide) (fun c9 => ?_) (fun c9 => ?_)
  · have h := wpos c9 h
    refine Vw.iconst (pc := 22) (v := (1 : Int32)) K (by decide) dX9_lacks_22 ?_
    exact Vw.loc rfl (s_X9_lacks_23 K E  h)
  · have h := wneg c9 h
    refine Vw.iconst (pc := 18) (v := (0 : Int32)) K (by decide) dX9_lacks_18 ?_
    refine Vw.goto (pc := 19) (tgt := 23) K dX9_lacks_19 (by decide) ?_
    exact Vw.loc rfl (s_X9_lacks_23 K E  h)
theorem cal_X9_lacks : wCalV RX9 yX9_lacks (.code yX9_lacks cX9_lacks 2 (some .boolean)) 1 := ⟨by decide +kernel, u_7_237, us_6_12, u_1_9, u_7_238⟩
def k_X9_wouldSend_39  (A : Hp) (x0 : Nat) (x1 : Int32) (x2 : Int32) (x3 : Int32) (t0 : Nat) (t1 : Int32) : Option (Int32 × Hp) := if (hsh A t0).1 = 8 then if (hsh (hsI A 452 t0 0 t1) x0).1 = 8 then (if (hgI (hsI A 452 t0 0 t1) 452 x0 0) = (0 : Int32) then ((f_X9_placeOf (hsI A 452 t0 0 t1) x0 x1).bind fun v5 => ((f_X9_cookie (hsI A 452 t0 0 t1) v5).bind fun v7 => ((f_X9_isSent (hsI A 452 t0 0 t1) x0 v7 x2 x3).bind fun v9 => (if v9 = (0 : Int32) then some ((0 : Int32), (hsI A 452 t0 0 t1)) else some ((1 : Int32), (hsI A 452 t0 0 t1)))))) else some ((0 : Int32), (hsI A 452 t0 0 t1))) else none else none
set_option maxRecDepth 100000 in
theorem s_X9_wouldSend_39 {κ : KT} {r : Int32} {B : Hp} {A : Hp} {x0 : Nat} {x1 : Int32} {x2 : Int32} {x3 : Int32} {t0 : Nat} {t1 : Int32}  (K : Cx κ cX9_wouldSend 4 RX9 7 175 0 0) (E : Ed κ (some .boolean) "wouldSend" (.inl (some (.inl r))) B 0 0)  (h : k_X9_wouldSend_39  A x0 x1 x2 x3 t0 t1 = some (r, B)) : Vw κ A 0 0 39 [(0, .inr (.inr x0)), (1, .inl x1), (2, .inl x2), (3, .inl x3)] [.inl t1, .inr (.inr t0)] := by
  unfold k_X9_wouldSend_39 at h
  obtain ⟨g1, h⟩ := wgd h
  refine Vw.putI (pc := 39) (k := 4) (f := 452) K cls7 rfl rfl u_6_21 g1 (Or.inl rfl) rfl rfl dX9_wouldSend_39 ?_
  refine Vw.aload_n (pc := 42) (x := x0) K dX9_wouldSend_42 rfl ?_
  obtain ⟨g2, h⟩ := wgd h
  refine Vw.getI (pc := 43) (k := 4) (f := 452) K cls7 rfl rfl u_6_21 g2 dX9_wouldSend_43 ?_
  refine Vw.if_ne (pc := 46) (tgt := 70) K dX9_wouldSend_46 (by decide) (fun c3 => ?_) (fun c3 => ?_)
  · have h := wneg c3 h
    refine Vw.iconst (pc := 70) (v := (0 : Int32)) K (by decide) dX9_wouldSend_70 ?_
    exact Vw.zretH (pc := 71) K (Or.inl rfl) h E (by decide) (by decide) dX9_wouldSend_71
  · have h := wpos c3 h
    refine Vw.aload_n (pc := 49) (x := x0) K dX9_wouldSend_49 rfl ?_
    refine Vw.aload_n (pc := 50) (x := x0) K dX9_wouldSend_50 rfl ?_
    refine Vw.iload_n (pc := 51) (x := x1) K dX9_wouldSend_51 rfl ?_
    obtain ⟨v5, e4, h⟩ := wbd h
    refine Vw.cV1 (pc := 52) (v := .inl v5) (c' := 0) (n' := 0) K (s_X9_placeOf K.tr e4) cal_X9_placeOf cls7 u_7_203 g2 rfl ⟨by decide, by decide⟩ ⟨by decide, by decide⟩ rfl (Nat.le_of_ble_eq_true rfl) dX9_wouldSend_52 rfl rfl ?_
    obtain ⟨v7, e6, h⟩ := wbd h
    refine Vw.cS1 (pc := 55) (v := .inl v7) (c' := 0) (n' := 0) K (s_X9_cookie K.tr e6) cal_X9_cookie u_7_102 rfl ⟨by decide, by decide⟩ ⟨by decide, by decide⟩ rfl (Nat.le_of_ble_eq_true rfl) dX9_wouldSend_55 rfl rfl ?_
    refine Vw.iload_n (pc := 58) (x := x2) K dX9_wouldSend_58 rfl ?_
    refine Vw.iload_n (pc := 59) (x := x3) K dX9_wouldSend_59 rfl ?_
    obtain ⟨v9, e8, h⟩ := wbd h
    refine Vw.cV1 (pc := 60) (v := .inl v9) (c' := 0) (n' := 0) K (s_X9_isSent K.tr e8) cal_X9_isSent cls7 u_7_179 g2 rfl ⟨by decide, by decide⟩ ⟨by decide, by decide⟩ rfl (Nat.le_of_ble_eq_true rfl) dX9_wouldSend_60 rfl rfl ?_
    refine Vw.if_eq (pc := 63) (tgt := 70) K dX9_wouldSend_63 (by decide) (fun c10 => ?_) (fun c10 => ?_)
    · have h := wpos c10 h
      refine Vw.iconst (pc := 70) (v := (0 : Int32)) K (by decide) dX9_wouldSend_70 ?_
      exact Vw.zretH (pc := 71) K (Or.inl rfl) h E (by decide) (by decide) dX9_wouldSend_71
    · have h := wneg c10 h
      refine Vw.iconst (pc := 66) (v := (1 : Int32)) K (by decide) dX9_wouldSend_66 ?_
      refine Vw.goto (pc := 67) (tgt := 71) K dX9_wouldSend_67 (by decide) ?_
      exact Vw.zretH (pc := 71) K (Or.inr rfl) h E (by decide) (by decide) dX9_wouldSend_71
def f_X9_wouldSend (A : Hp) (x0 : Nat) (x1 : Int32) (x2 : Int32) (x3 : Int32) : Option (Int32 × Hp) := if (hsh A x0).1 = 8 then if (hsh A (hgR A 448 x0 0)).1 = 11 then if wix (100 : Int32) (hsh A (hgR A 448 x0 0)).2 then (if (hgL A 1035 (hgR A 448 x0 0) (100 : Int32).toNatClampNeg) = (0 : Int64) then k_X9_wouldSend_39 A x0 x1 x2 x3 x0 (1 : Int32) else if wix (5 : Int32) (hsh A (hgR A 448 x0 0)).2 then ((f_X9_in A x1.toInt64 (0 : Int64) ((hgL A 1035 (hgR A 448 x0 0) (5 : Int32).toNatClampNeg) - (1 : Int64))).bind fun v17 => (if v17 = (0 : Int32) then k_X9_wouldSend_39 A x0 x1 x2 x3 x0 (2 : Int32) else k_X9_wouldSend_39 A x0 x1 x2 x3 x0 (0 : Int32))) else none) else none else none else none
set_option maxRecDepth 100000 in
theorem s_X9_wouldSend {l : Launch} {g : GT} (hl : l.stackTraces = false) {A : Hp} {x0 : Nat} {x1 : Int32} {x2 : Int32} {x3 : Int32} {r : Int32} {B : Hp} (h : f_X9_wouldSend A x0 x1 x2 x3 = some (r, B)) : MetV l g yX9_wouldSend (.code yX9_wouldSend cX9_wouldSend 4 (some .boolean)) [.inr (.inr x0), .inl x1, .inl x2, .inl x3] A (.inl (some (.inl r))) B 7 175 0 0 := by
  refine MetV.ofV hl (by decide +kernel) (Nat.le_of_ble_eq_true rfl) (fun κ K E => ?_)
  have K : Cx κ cX9_wouldSend 4 RX9 7 175 0 0 := K
  have E : Ed κ (some .boolean) "wouldSend" (.inl (some (.inl r))) B 0 0 := E
  unfold f_X9_wouldSend at h
  change Vw κ A 0 0 0 [(0, .inr (.inr x0)), (1, .inl x1), (2, .inl x2), (3, .inl x3)] []
  refine Vw.aload_n (pc := 0) (x := x0) K dX9_wouldSend_0 rfl ?_
  refine Vw.aload_n (pc := 1) (x := x0) K dX9_wouldSend_1 rfl ?_
  obtain ⟨g11, h⟩ := wgd h
  refine Vw.getR (pc := 2) (k := 0) (f := 448) K cls7 rfl rfl u_6_17 g11 dX9_wouldSend_2 ?_
  refine Vw.bipush (pc := 5) (v := (100 : Int32)) K (by decide) dX9_wouldSend_5 ?_
  obtain ⟨g12, h⟩ := wgd h
  obtain ⟨g13, h⟩ := wgd h
  refine Vw.laload (pc := 7) K g12 g13 dX9_wouldSend_7 ?_
  refine Vw.lconst (pc := 8) (v := (0 : Int64)) K (by decide) dX9_wouldSend_8 ?_
  refine Vw.lcmp_ne (pc := 9) (tgt := 17) K dX9_wouldSend_9 dX9_wouldSend_10 (by decide) (fun c14 => ?_) (fun c14 => ?_)
  · have h := wneg c14 h
    refine Vw.iload_n (pc := 17) (x := x1) K dX9_wouldSend_17 rfl ?_
    refine Vw.i2l (pc := 18) K dX9_wouldSend_18 ?_
    refine Vw.lconst (pc := 19) (v := (0 : Int64)) K (by decide) dX9_wouldSend_19 ?_
    refine Vw.aload_n (pc := 20) (x := x0) K dX9_wouldSend_20 rfl ?_
    refine Vw.getR (pc := 21) (k := 0) (f := 448) K cls7 rfl rfl u_6_17 g11 dX9_wouldSend_21 ?_
    refine Vw.iconst (pc := 24) (v := (5 : Int32)) K (by decide) dX9_wouldSend_24 ?_
    obtain ⟨g15, h⟩ := wgd h
    refine Vw.laload (pc := 25) K g12 g15 dX9_wouldSend_25 ?_
    refine Vw.lconst (pc := 26) (v := (1 : Int64)) K (by decide) dX9_wouldSend_26 ?_
    refine Vw.lsub (pc := 27) K dX9_wouldSend_27 ?_
    obtain ⟨v17, e16, h⟩ := wbd h
    refine Vw.cS1 (pc := 28) (v := .inl v17) (c' := 0) (n' := 0) K (s_X9_in K.tr e16) cal_X9_in u_6_161 rfl ⟨by decide, by decide⟩ ⟨by decide, by decide⟩ rfl (Nat.le_of_ble_eq_true rfl) dX9_wouldSend_28 rfl rfl ?_
    refine Vw.if_eq (pc := 31) (tgt := 38) K dX9_wouldSend_31 (by decide) (fun c18 => ?_) (fun c18 => ?_)
    · have h := wpos c18 h
      refine Vw.iconst (pc := 38) (v := (2 : Int32)) K (by decide) dX9_wouldSend_38 ?_
      exact Vw.loc rfl (s_X9_wouldSend_39 K E  h)
    · have h := wneg c18 h
      refine Vw.iconst (pc := 34) (v := (0 : Int32)) K (by decide) dX9_wouldSend_34 ?_
      refine Vw.goto (pc := 35) (tgt := 39) K dX9_wouldSend_35 (by decide) ?_
      exact Vw.loc rfl (s_X9_wouldSend_39 K E  h)
  · have h := wpos c14 h
    refine Vw.iconst (pc := 13) (v := (1 : Int32)) K (by decide) dX9_wouldSend_13 ?_
    refine Vw.goto (pc := 14) (tgt := 39) K dX9_wouldSend_14 (by decide) ?_
    exact Vw.loc rfl (s_X9_wouldSend_39 K E  h)
theorem cal_X9_wouldSend : wCalV RX9 yX9_wouldSend (.code yX9_wouldSend cX9_wouldSend 4 (some .boolean)) 3 := ⟨by decide +kernel, u_7_200, u_7_201, u_1_9, u_7_202⟩
def f_X9_cookies (A : Hp) (x0 : Nat) : Option (Int32 × Hp) := if (hsh A x0).1 = 8 then if (hsh (hsI A 452 x0 0 (0 : Int32)) (hgR (hsI A 452 x0 0 (0 : Int32)) 448 x0 0)).1 = 11 then if wix (5 : Int32) (hsh (hsI A 452 x0 0 (0 : Int32)) (hgR (hsI A 452 x0 0 (0 : Int32)) 448 x0 0)).2 then some ((hgL (hsI A 452 x0 0 (0 : Int32)) 1035 (hgR (hsI A 452 x0 0 (0 : Int32)) 448 x0 0) (5 : Int32).toNatClampNeg).toInt32, (hsI A 452 x0 0 (0 : Int32))) else none else none else none
set_option maxRecDepth 100000 in
theorem s_X9_cookies {l : Launch} {g : GT} (hl : l.stackTraces = false) {A : Hp} {x0 : Nat} {r : Int32} {B : Hp} (h : f_X9_cookies A x0 = some (r, B)) : MetV l g yX9_cookies (.code yX9_cookies cX9_cookies 1 (some .int)) [.inr (.inr x0)] A (.inl (some (.inl r))) B 0 0 0 0 := by
  refine MetV.ofV hl (by decide +kernel) (Nat.le_of_ble_eq_true rfl) (fun κ K E => ?_)
  have K : Cx κ cX9_cookies 1 RX9 0 0 0 0 := K
  have E : Ed κ (some .int) "cookies" (.inl (some (.inl r))) B 0 0 := E
  unfold f_X9_cookies at h
  change Vw κ A 0 0 0 [(0, .inr (.inr x0))] []
  refine Vw.aload_n (pc := 0) (x := x0) K dX9_cookies_0 rfl ?_
  refine Vw.iconst (pc := 1) (v := (0 : Int32)) K (by decide) dX9_cookies_1 ?_
  obtain ⟨g1, h⟩ := wgd h
  refine Vw.putI (pc := 2) (k := 4) (f := 452) K cls7 rfl rfl u_6_21 g1 (Or.inl rfl) rfl rfl dX9_cookies_2 ?_
  refine Vw.aload_n (pc := 5) (x := x0) K dX9_cookies_5 rfl ?_
  refine Vw.getR (pc := 6) (k := 0) (f := 448) K cls7 rfl rfl u_6_17 g1 dX9_cookies_6 ?_
  refine Vw.iconst (pc := 9) (v := (5 : Int32)) K (by decide) dX9_cookies_9 ?_
  obtain ⟨g2, h⟩ := wgd h
  obtain ⟨g3, h⟩ := wgd h
  refine Vw.laload (pc := 10) K g2 g3 dX9_cookies_10 ?_
  refine Vw.l2i (pc := 11) K dX9_cookies_11 ?_
  exact Vw.iretH (pc := 12) K h E (by decide) (by decide) dX9_cookies_12
theorem cal_X9_cookies : wCalV RX9 yX9_cookies (.code yX9_cookies cX9_cookies 1 (some .int)) 0 := ⟨by decide +kernel, u_7_224, u_7_225, u_1_9, u_7_226⟩
def k_X9_signOf_12  (A : Hp) (x0 : Nat)  : Option (Int32 × Hp) := if (hsh A x0).1 = 8 then ((f_X9_fails A x0 (1 : Int32)).bind fun p3 => some (p3.1, p3.2)) else none
set_option maxRecDepth 100000 in
theorem s_X9_signOf_12 {κ : KT} {r : Int32} {B : Hp} {A : Hp} {x0 : Nat}   (K : Cx κ cX9_signOf 6 RX9 5 123 0 0) (E : Ed κ (some .int) "signOf" (.inl (some (.inl r))) B 0 0)  (h : k_X9_signOf_12  A x0  = some (r, B)) : Vw κ A 0 0 12 [(0, .inr (.inr x0))] [] := by
  unfold k_X9_signOf_12 at h
  refine Vw.aload_n (pc := 12) (x := x0) K dX9_signOf_12 rfl ?_
  refine Vw.iconst (pc := 13) (v := (1 : Int32)) K (by decide) dX9_signOf_13 ?_
  obtain ⟨g1, h⟩ := wgd h
  obtain ⟨p3, e2, h⟩ := wbd h
  refine Vw.cV1 (pc := 14) (v := .inl p3.1) (c' := 0) (n' := 0) K (s_X9_fails K.tr e2) cal_X9_fails cls7 u_6_214 g1 rfl ⟨by decide, by decide⟩ ⟨by decide, by decide⟩ rfl (Nat.le_of_ble_eq_true rfl) dX9_signOf_14 rfl rfl ?_
  exact Vw.iretH (pc := 17) K h E (by decide) (by decide) dX9_signOf_17
def f_X9_signOf (A : Hp) (x0 : Nat) (x1 : Int32) (x2 : Int32) (x3 : Int32) (x4 : Int32) : Option (Int32 × Hp) := if (hsh A x0).1 = 8 then ((f_X9_lacks A x0 x1).bind fun p6 => (if p6.1 = (0 : Int32) then (if (0 : Int32) ≤ x2 then if (hsh p6.2 x0).1 = 8 then ((f_X9_placeOf p6.2 x0 x1).bind fun v11 => ((f_X9_cookie p6.2 v11).bind fun v13 => if (hsh p6.2 (hgR p6.2 448 x0 0)).1 = 11 then if wix (v13 + x3) (hsh p6.2 (hgR p6.2 448 x0 0)).2 then (if (hgL p6.2 1035 (hgR p6.2 448 x0 0) (v13 + x3).toNatClampNeg) ≤ x2.toInt64 then some ((-1 : Int32), p6.2) else if wix ((v13 + x4) + x2) (hsh p6.2 (hgR p6.2 448 x0 0)).2 then some ((hgL p6.2 1035 (hgR p6.2 448 x0 0) ((v13 + x4) + x2).toNatClampNeg).toInt32, p6.2) else none) else none else none)) else none else k_X9_signOf_12 p6.2 x0) else k_X9_signOf_12 p6.2 x0)) else none
set_option maxRecDepth 100000 in
theorem s_X9_signOf {l : Launch} {g : GT} (hl : l.stackTraces = false) {A : Hp} {x0 : Nat} {x1 : Int32} {x2 : Int32} {x3 : Int32} {x4 : Int32} {r : Int32} {B : Hp} (h : f_X9_signOf A x0 x1 x2 x3 x4 = some (r, B)) : MetV l g yX9_signOf (.code yX9_signOf cX9_signOf 6 (some .int)) [.inr (.inr x0), .inl x1, .inl x2, .inl x3, .inl x4] A (.inl (some (.inl r))) B 5 123 0 0 := by
  refine MetV.ofV hl (by decide +kernel) (Nat.le_of_ble_eq_true rfl) (fun κ K E => ?_)
  have K : Cx κ cX9_signOf 6 RX9 5 123 0 0 := K
  have E : Ed κ (some .int) "signOf" (.inl (some (.inl r))) B 0 0 := E
  unfold f_X9_signOf at h
  change Vw κ A 0 0 0 [(0, .inr (.inr x0)), (1, .inl x1), (2, .inl x2), (3, .inl x3), (4, .inl x4)] []
  refine Vw.aload_n (pc := 0) (x := x0) K dX9_signOf_0 rfl ?_
  refine Vw.iload_n (pc := 1) (x := x1) K dX9_signOf_1 rfl ?_
  obtain ⟨g4, h⟩ := wgd h
  obtain ⟨p6, e5, h⟩ := wbd h
  refine Vw.cV1 (pc := 2) (v := .inl p6.1) (c' := 0) (n' := 0) K (s_X9_lacks K.tr e5) cal_X9_lacks cls7 u_7_235 g4 rfl ⟨by decide, by decide⟩ ⟨by decide, by decide⟩ rfl (Nat.le_of_ble_eq_true rfl) dX9_signOf_2 rfl rfl ?_
  refine Vw.if_ne (pc := 5) (tgt := 12) K dX9_signOf_5 (by decide) (fun c7 => ?_) (fun c7 => ?_)
  · have h := wneg c7 h
    exact Vw.loc rfl (s_X9_signOf_12 K E  h)
  · have h := wpos c7 h
    refine Vw.iload_n (pc := 8) (x := x2) K dX9_signOf_8 rfl ?_
    refine Vw.if_ge (pc := 9) (tgt := 18) K dX9_signOf_9 (by decide) (fun c8 => ?_) (fun c8 => ?_)
    · have h := wpos c8 h
      refine Vw.aload_n (pc := 18) (x := x0) K dX9_signOf_18 rfl ?_
      refine Vw.iload_n (pc := 19) (x := x1) K dX9_signOf_19 rfl ?_
      obtain ⟨g9, h⟩ := wgd h
      obtain ⟨v11, e10, h⟩ := wbd h
      refine Vw.cV1 (pc := 20) (v := .inl v11) (c' := 0) (n' := 0) K (s_X9_placeOf K.tr e10) cal_X9_placeOf cls7 u_7_203 g9 rfl ⟨by decide, by decide⟩ ⟨by decide, by decide⟩ rfl (Nat.le_of_ble_eq_true rfl) dX9_signOf_20 rfl rfl ?_
      obtain ⟨v13, e12, h⟩ := wbd h
      refine Vw.cS1 (pc := 23) (v := .inl v13) (c' := 0) (n' := 0) K (s_X9_cookie K.tr e12) cal_X9_cookie u_7_102 rfl ⟨by decide, by decide⟩ ⟨by decide, by decide⟩ rfl (Nat.le_of_ble_eq_true rfl) dX9_signOf_23 rfl rfl ?_
      refine Vw.istore (pc := 26) K dX9_signOf_26 (by decide) ?_
      refine Vw.iload_n (pc := 28) (x := x2) K dX9_signOf_28 rfl ?_
      refine Vw.i2l (pc := 29) K dX9_signOf_29 ?_
      refine Vw.aload_n (pc := 30) (x := x0) K dX9_signOf_30 rfl ?_
      refine Vw.getR (pc := 31) (k := 0) (f := 448) K cls7 rfl rfl u_6_17 g9 dX9_signOf_31 ?_
      refine Vw.iload (pc := 34) (x := v13) K dX9_signOf_34 rfl ?_
      refine Vw.iload_n (pc := 36) (x := x3) K dX9_signOf_36 rfl ?_
      refine Vw.iadd (pc := 37) K dX9_signOf_37 ?_
      obtain ⟨g14, h⟩ := wgd h
      obtain ⟨g15, h⟩ := wgd h
      refine Vw.laload (pc := 38) K g14 g15 dX9_signOf_38 ?_
      refine Vw.lcmp_ge (pc := 39) (tgt := 59) K dX9_signOf_39 dX9_signOf_40 (by decide) (fun c16 => ?_) (fun c16 => ?_)
      · have h := wpos c16 h
        refine Vw.iconst (pc := 59) (v := (-1 : Int32)) K (by decide) dX9_signOf_59 ?_
        exact Vw.iretH (pc := 60) K h E (by decide) (by decide) dX9_signOf_60
      · have h := wneg c16 h
        refine Vw.aload_n (pc := 43) (x := x0) K dX9_signOf_43 rfl ?_
        refine Vw.getR (pc := 44) (k := 0) (f := 448) K cls7 rfl rfl u_6_17 g9 dX9_signOf_44 ?_
        refine Vw.iload (pc := 47) (x := v13) K dX9_signOf_47 rfl ?_
        refine Vw.iload (pc := 49) (x := x4) K dX9_signOf_49 rfl ?_
        refine Vw.iadd (pc := 51) K dX9_signOf_51 ?_
        refine Vw.iload_n (pc := 52) (x := x2) K dX9_signOf_52 rfl ?_
        refine Vw.iadd (pc := 53) K dX9_signOf_53 ?_
        obtain ⟨g17, h⟩ := wgd h
        refine Vw.laload (pc := 54) K g14 g17 dX9_signOf_54 ?_
        refine Vw.l2i (pc := 55) K dX9_signOf_55 ?_
        refine Vw.goto (pc := 56) (tgt := 60) K dX9_signOf_56 (by decide) ?_
        exact Vw.iretH (pc := 60) K h E (by decide) (by decide) dX9_signOf_60
    · have h := wneg c8 h
      exact Vw.loc rfl (s_X9_signOf_12 K E  h)
theorem cal_X9_signOf : wCalV RX9 yX9_signOf (.code yX9_signOf cX9_signOf 6 (some .int)) 4 := ⟨by decide +kernel, u_7_233, us_6_11, u_1_9, u_7_234⟩
def f_X9_nameChar (A : Hp) (x0 : Nat) (x1 : Int32) (x2 : Int32) : Option (Int32 × Hp) := if (hsh A x0).1 = 8 then ((f_X9_signOf A x0 x1 x2 (0 : Int32) (14 : Int32)).bind fun p3 => some (p3.1, p3.2)) else none
set_option maxRecDepth 100000 in
theorem s_X9_nameChar {l : Launch} {g : GT} (hl : l.stackTraces = false) {A : Hp} {x0 : Nat} {x1 : Int32} {x2 : Int32} {r : Int32} {B : Hp} (h : f_X9_nameChar A x0 x1 x2 = some (r, B)) : MetV l g yX9_nameChar (.code yX9_nameChar cX9_nameChar 3 (some .int)) [.inr (.inr x0), .inl x1, .inl x2] A (.inl (some (.inl r))) B 6 148 0 0 := by
  refine MetV.ofV hl (by decide +kernel) (Nat.le_of_ble_eq_true rfl) (fun κ K E => ?_)
  have K : Cx κ cX9_nameChar 3 RX9 6 148 0 0 := K
  have E : Ed κ (some .int) "nameChar" (.inl (some (.inl r))) B 0 0 := E
  unfold f_X9_nameChar at h
  change Vw κ A 0 0 0 [(0, .inr (.inr x0)), (1, .inl x1), (2, .inl x2)] []
  refine Vw.aload_n (pc := 0) (x := x0) K dX9_nameChar_0 rfl ?_
  refine Vw.iload_n (pc := 1) (x := x1) K dX9_nameChar_1 rfl ?_
  refine Vw.iload_n (pc := 2) (x := x2) K dX9_nameChar_2 rfl ?_
  refine Vw.iconst (pc := 3) (v := (0 : Int32)) K (by decide) dX9_nameChar_3 ?_
  refine Vw.bipush (pc := 4) (v := (14 : Int32)) K (by decide) dX9_nameChar_4 ?_
  obtain ⟨g1, h⟩ := wgd h
  obtain ⟨p3, e2, h⟩ := wbd h
  refine Vw.cV1 (pc := 6) (v := .inl p3.1) (c' := 0) (n' := 0) K (s_X9_signOf K.tr e2) cal_X9_signOf cls7 u_7_231 g1 rfl ⟨by decide, by decide⟩ ⟨by decide, by decide⟩ rfl (Nat.le_of_ble_eq_true rfl) dX9_nameChar_6 rfl rfl ?_
  exact Vw.iretH (pc := 9) K h E (by decide) (by decide) dX9_nameChar_9
theorem cal_X9_nameChar : wCalV RX9 yX9_nameChar (.code yX9_nameChar cX9_nameChar 3 (some .int)) 2 := ⟨by decide +kernel, u_7_228, u_7_229, u_1_9, u_7_230⟩
def f_X9_valueChar (A : Hp) (x0 : Nat) (x1 : Int32) (x2 : Int32) : Option (Int32 × Hp) := if (hsh A x0).1 = 8 then ((f_X9_signOf A x0 x1 x2 (1 : Int32) (30 : Int32)).bind fun p3 => some (p3.1, p3.2)) else none
set_option maxRecDepth 100000 in
theorem s_X9_valueChar {l : Launch} {g : GT} (hl : l.stackTraces = false) {A : Hp} {x0 : Nat} {x1 : Int32} {x2 : Int32} {r : Int32} {B : Hp} (h : f_X9_valueChar A x0 x1 x2 = some (r, B)) : MetV l g yX9_valueChar (.code yX9_valueChar cX9_valueChar 3 (some .int)) [.inr (.inr x0), .inl x1, .inl x2] A (.inl (some (.inl r))) B 6 148 0 0 := by
  refine MetV.ofV hl (by decide +kernel) (Nat.le_of_ble_eq_true rfl) (fun κ K E => ?_)
  have K : Cx κ cX9_valueChar 3 RX9 6 148 0 0 := K
  have E : Ed κ (some .int) "valueChar" (.inl (some (.inl r))) B 0 0 := E
  unfold f_X9_valueChar at h
  change Vw κ A 0 0 0 [(0, .inr (.inr x0)), (1, .inl x1), (2, .inl x2)] []
  refine Vw.aload_n (pc := 0) (x := x0) K dX9_valueChar_0 rfl ?_
  refine Vw.iload_n (pc := 1) (x := x1) K dX9_valueChar_1 rfl ?_
  refine Vw.iload_n (pc := 2) (x := x2) K dX9_valueChar_2 rfl ?_
  refine Vw.iconst (pc := 3) (v := (1 : Int32)) K (by decide) dX9_valueChar_3 ?_
  refine Vw.bipush (pc := 4) (v := (30 : Int32)) K (by decide) dX9_valueChar_4 ?_
  obtain ⟨g1, h⟩ := wgd h
  obtain ⟨p3, e2, h⟩ := wbd h
  refine Vw.cV1 (pc := 6) (v := .inl p3.1) (c' := 0) (n' := 0) K (s_X9_signOf K.tr e2) cal_X9_signOf cls7 u_7_231 g1 rfl ⟨by decide, by decide⟩ ⟨by decide, by decide⟩ rfl (Nat.le_of_ble_eq_true rfl) dX9_valueChar_6 rfl rfl ?_
  exact Vw.iretH (pc := 9) K h E (by decide) (by decide) dX9_valueChar_9
theorem cal_X9_valueChar : wCalV RX9 yX9_valueChar (.code yX9_valueChar cX9_valueChar 3 (some .int)) 2 := ⟨by decide +kernel, u_8_0, u_8_1, u_1_9, u_8_2⟩
def f_X9_domainChar (A : Hp) (x0 : Nat) (x1 : Int32) (x2 : Int32) : Option (Int32 × Hp) := if (hsh A x0).1 = 8 then ((f_X9_signOf A x0 x1 x2 (2 : Int32) (62 : Int32)).bind fun p3 => some (p3.1, p3.2)) else none
set_option maxRecDepth 100000 in
theorem s_X9_domainChar {l : Launch} {g : GT} (hl : l.stackTraces = false) {A : Hp} {x0 : Nat} {x1 : Int32} {x2 : Int32} {r : Int32} {B : Hp} (h : f_X9_domainChar A x0 x1 x2 = some (r, B)) : MetV l g yX9_domainChar (.code yX9_domainChar cX9_domainChar 3 (some .int)) [.inr (.inr x0), .inl x1, .inl x2] A (.inl (some (.inl r))) B 6 148 0 0 := by
  refine MetV.ofV hl (by decide +kernel) (Nat.le_of_ble_eq_true rfl) (fun κ K E => ?_)
  have K : Cx κ cX9_domainChar 3 RX9 6 148 0 0 := K
  have E : Ed κ (some .int) "domainChar" (.inl (some (.inl r))) B 0 0 := E
  unfold f_X9_domainChar at h
  change Vw κ A 0 0 0 [(0, .inr (.inr x0)), (1, .inl x1), (2, .inl x2)] []
  refine Vw.aload_n (pc := 0) (x := x0) K dX9_domainChar_0 rfl ?_
  refine Vw.iload_n (pc := 1) (x := x1) K dX9_domainChar_1 rfl ?_
  refine Vw.iload_n (pc := 2) (x := x2) K dX9_domainChar_2 rfl ?_
  refine Vw.iconst (pc := 3) (v := (2 : Int32)) K (by decide) dX9_domainChar_3 ?_
  refine Vw.bipush (pc := 4) (v := (62 : Int32)) K (by decide) dX9_domainChar_4 ?_
  obtain ⟨g1, h⟩ := wgd h
  obtain ⟨p3, e2, h⟩ := wbd h
  refine Vw.cV1 (pc := 6) (v := .inl p3.1) (c' := 0) (n' := 0) K (s_X9_signOf K.tr e2) cal_X9_signOf cls7 u_7_231 g1 rfl ⟨by decide, by decide⟩ ⟨by decide, by decide⟩ rfl (Nat.le_of_ble_eq_true rfl) dX9_domainChar_6 rfl rfl ?_
  exact Vw.iretH (pc := 9) K h E (by decide) (by decide) dX9_domainChar_9
theorem cal_X9_domainChar : wCalV RX9 yX9_domainChar (.code yX9_domainChar cX9_domainChar 3 (some .int)) 2 := ⟨by decide +kernel, u_8_4, u_8_5, u_1_9, u_8_6⟩
def f_X9_pathChar (A : Hp) (x0 : Nat) (x1 : Int32) (x2 : Int32) : Option (Int32 × Hp) := if (hsh A x0).1 = 8 then ((f_X9_signOf A x0 x1 x2 (3 : Int32) (92 : Int32)).bind fun p3 => some (p3.1, p3.2)) else none
set_option maxRecDepth 100000 in
theorem s_X9_pathChar {l : Launch} {g : GT} (hl : l.stackTraces = false) {A : Hp} {x0 : Nat} {x1 : Int32} {x2 : Int32} {r : Int32} {B : Hp} (h : f_X9_pathChar A x0 x1 x2 = some (r, B)) : MetV l g yX9_pathChar (.code yX9_pathChar cX9_pathChar 3 (some .int)) [.inr (.inr x0), .inl x1, .inl x2] A (.inl (some (.inl r))) B 6 148 0 0 := by
  refine MetV.ofV hl (by decide +kernel) (Nat.le_of_ble_eq_true rfl) (fun κ K E => ?_)
  have K : Cx κ cX9_pathChar 3 RX9 6 148 0 0 := K
  have E : Ed κ (some .int) "pathChar" (.inl (some (.inl r))) B 0 0 := E
  unfold f_X9_pathChar at h
  change Vw κ A 0 0 0 [(0, .inr (.inr x0)), (1, .inl x1), (2, .inl x2)] []
  refine Vw.aload_n (pc := 0) (x := x0) K dX9_pathChar_0 rfl ?_
  refine Vw.iload_n (pc := 1) (x := x1) K dX9_pathChar_1 rfl ?_
  refine Vw.iload_n (pc := 2) (x := x2) K dX9_pathChar_2 rfl ?_
  refine Vw.iconst (pc := 3) (v := (3 : Int32)) K (by decide) dX9_pathChar_3 ?_
  refine Vw.bipush (pc := 4) (v := (92 : Int32)) K (by decide) dX9_pathChar_4 ?_
  obtain ⟨g1, h⟩ := wgd h
  obtain ⟨p3, e2, h⟩ := wbd h
  refine Vw.cV1 (pc := 6) (v := .inl p3.1) (c' := 0) (n' := 0) K (s_X9_signOf K.tr e2) cal_X9_signOf cls7 u_7_231 g1 rfl ⟨by decide, by decide⟩ ⟨by decide, by decide⟩ rfl (Nat.le_of_ble_eq_true rfl) dX9_pathChar_6 rfl rfl ?_
  exact Vw.iretH (pc := 9) K h E (by decide) (by decide) dX9_pathChar_9
theorem cal_X9_pathChar : wCalV RX9 yX9_pathChar (.code yX9_pathChar cX9_pathChar 3 (some .int)) 2 := ⟨by decide +kernel, u_8_8, u_8_9, u_1_9, u_8_10⟩
def f_X9_told (A : Hp) (x0 : Nat) (x1 : Int32) (x2 : Int32) : Option (Int64 × Hp) := if (hsh A x0).1 = 8 then ((f_X9_lacks A x0 x1).bind fun p3 => (if p3.1 = (0 : Int32) then if (hsh p3.2 x0).1 = 8 then ((f_X9_placeOf p3.2 x0 x1).bind fun v7 => ((f_X9_cookie p3.2 v7).bind fun v9 => if (hsh p3.2 (hgR p3.2 448 x0 0)).1 = 11 then if wix (v9 + x2) (hsh p3.2 (hgR p3.2 448 x0 0)).2 then some ((hgL p3.2 1035 (hgR p3.2 448 x0 0) (v9 + x2).toNatClampNeg), p3.2) else none else none)) else none else some ((0 : Int64), p3.2))) else none
set_option maxRecDepth 100000 in
theorem s_X9_told {l : Launch} {g : GT} (hl : l.stackTraces = false) {A : Hp} {x0 : Nat} {x1 : Int32} {x2 : Int32} {r : Int64} {B : Hp} (h : f_X9_told A x0 x1 x2 = some (r, B)) : MetV l g yX9_told (.code yX9_told cX9_told 3 (some .long)) [.inr (.inr x0), .inl x1, .inl x2] A (.inl (some (.inr (.inl r)))) B 5 123 0 0 := by
  refine MetV.ofV hl (by decide +kernel) (Nat.le_of_ble_eq_true rfl) (fun κ K E => ?_)
  have K : Cx κ cX9_told 3 RX9 5 123 0 0 := K
  have E : Ed κ (some .long) "told" (.inl (some (.inr (.inl r)))) B 0 0 := E
  unfold f_X9_told at h
  change Vw κ A 0 0 0 [(0, .inr (.inr x0)), (1, .inl x1), (2, .inl x2)] []
  refine Vw.aload_n (pc := 0) (x := x0) K dX9_told_0 rfl ?_
  refine Vw.iload_n (pc := 1) (x := x1) K dX9_told_1 rfl ?_
  obtain ⟨g1, h⟩ := wgd h
  obtain ⟨p3, e2, h⟩ := wbd h
  refine Vw.cV1 (pc := 2) (v := .inl p3.1) (c' := 0) (n' := 0) K (s_X9_lacks K.tr e2) cal_X9_lacks cls7 u_7_235 g1 rfl ⟨by decide, by decide⟩ ⟨by decide, by decide⟩ rfl (Nat.le_of_ble_eq_true rfl) dX9_told_2 rfl rfl ?_
  refine Vw.if_eq (pc := 5) (tgt := 12) K dX9_told_5 (by decide) (fun c4 => ?_) (fun c4 => ?_)
  · have h := wpos c4 h
    refine Vw.aload_n (pc := 12) (x := x0) K dX9_told_12 rfl ?_
    obtain ⟨g5, h⟩ := wgd h
    refine Vw.getR (pc := 13) (k := 0) (f := 448) K cls7 rfl rfl u_6_17 g5 dX9_told_13 ?_
    refine Vw.aload_n (pc := 16) (x := x0) K dX9_told_16 rfl ?_
    refine Vw.iload_n (pc := 17) (x := x1) K dX9_told_17 rfl ?_
    obtain ⟨v7, e6, h⟩ := wbd h
    refine Vw.cV1 (pc := 18) (v := .inl v7) (c' := 0) (n' := 0) K (s_X9_placeOf K.tr e6) cal_X9_placeOf cls7 u_7_203 g5 rfl ⟨by decide, by decide⟩ ⟨by decide, by decide⟩ rfl (Nat.le_of_ble_eq_true rfl) dX9_told_18 rfl rfl ?_
    obtain ⟨v9, e8, h⟩ := wbd h
    refine Vw.cS1 (pc := 21) (v := .inl v9) (c' := 0) (n' := 0) K (s_X9_cookie K.tr e8) cal_X9_cookie u_7_102 rfl ⟨by decide, by decide⟩ ⟨by decide, by decide⟩ rfl (Nat.le_of_ble_eq_true rfl) dX9_told_21 rfl rfl ?_
    refine Vw.iload_n (pc := 24) (x := x2) K dX9_told_24 rfl ?_
    refine Vw.iadd (pc := 25) K dX9_told_25 ?_
    obtain ⟨g10, h⟩ := wgd h
    obtain ⟨g11, h⟩ := wgd h
    refine Vw.laload (pc := 26) K g10 g11 dX9_told_26 ?_
    exact Vw.lretH (pc := 27) K h E (by decide) (by decide) dX9_told_27
  · have h := wneg c4 h
    refine Vw.lconst (pc := 8) (v := (0 : Int64)) K (by decide) dX9_told_8 ?_
    refine Vw.goto (pc := 9) (tgt := 27) K dX9_told_9 (by decide) ?_
    exact Vw.lretH (pc := 27) K h E (by decide) (by decide) dX9_told_27
theorem cal_X9_told : wCalV RX9 yX9_told (.code yX9_told cX9_told 3 (some .long)) 2 := ⟨by decide +kernel, u_8_17, us_6_13, u_1_9, u_8_18⟩
def f_X9_expiry (A : Hp) (x0 : Nat) (x1 : Int32) : Option (Int64 × Hp) := if (hsh A x0).1 = 8 then ((f_X9_told A x0 x1 (4 : Int32)).bind fun p3 => some (p3.1, p3.2)) else none
set_option maxRecDepth 100000 in
theorem s_X9_expiry {l : Launch} {g : GT} (hl : l.stackTraces = false) {A : Hp} {x0 : Nat} {x1 : Int32} {r : Int64} {B : Hp} (h : f_X9_expiry A x0 x1 = some (r, B)) : MetV l g yX9_expiry (.code yX9_expiry cX9_expiry 2 (some .long)) [.inr (.inr x0), .inl x1] A (.inl (some (.inr (.inl r)))) B 6 145 0 0 := by
  refine MetV.ofV hl (by decide +kernel) (Nat.le_of_ble_eq_true rfl) (fun κ K E => ?_)
  have K : Cx κ cX9_expiry 2 RX9 6 145 0 0 := K
  have E : Ed κ (some .long) "expiry" (.inl (some (.inr (.inl r)))) B 0 0 := E
  unfold f_X9_expiry at h
  change Vw κ A 0 0 0 [(0, .inr (.inr x0)), (1, .inl x1)] []
  refine Vw.aload_n (pc := 0) (x := x0) K dX9_expiry_0 rfl ?_
  refine Vw.iload_n (pc := 1) (x := x1) K dX9_expiry_1 rfl ?_
  refine Vw.iconst (pc := 2) (v := (4 : Int32)) K (by decide) dX9_expiry_2 ?_
  obtain ⟨g1, h⟩ := wgd h
  obtain ⟨p3, e2, h⟩ := wbd h
  refine Vw.cV1 (pc := 3) (v := .inr (.inl p3.1)) (c' := 0) (n' := 0) K (s_X9_told K.tr e2) cal_X9_told cls7 u_8_15 g1 rfl ⟨by decide, by decide⟩ ⟨by decide, by decide⟩ rfl (Nat.le_of_ble_eq_true rfl) dX9_expiry_3 rfl rfl ?_
  exact Vw.lretH (pc := 6) K h E (by decide) (by decide) dX9_expiry_6
theorem cal_X9_expiry : wCalV RX9 yX9_expiry (.code yX9_expiry cX9_expiry 2 (some .long)) 1 := ⟨by decide +kernel, u_8_12, u_8_13, u_1_9, u_8_14⟩
def f_X9_created (A : Hp) (x0 : Nat) (x1 : Int32) : Option (Int64 × Hp) := if (hsh A x0).1 = 8 then ((f_X9_told A x0 x1 (5 : Int32)).bind fun p3 => some (p3.1, p3.2)) else none
set_option maxRecDepth 100000 in
theorem s_X9_created {l : Launch} {g : GT} (hl : l.stackTraces = false) {A : Hp} {x0 : Nat} {x1 : Int32} {r : Int64} {B : Hp} (h : f_X9_created A x0 x1 = some (r, B)) : MetV l g yX9_created (.code yX9_created cX9_created 2 (some .long)) [.inr (.inr x0), .inl x1] A (.inl (some (.inr (.inl r)))) B 6 145 0 0 := by
  refine MetV.ofV hl (by decide +kernel) (Nat.le_of_ble_eq_true rfl) (fun κ K E => ?_)
  have K : Cx κ cX9_created 2 RX9 6 145 0 0 := K
  have E : Ed κ (some .long) "created" (.inl (some (.inr (.inl r)))) B 0 0 := E
  unfold f_X9_created at h
  change Vw κ A 0 0 0 [(0, .inr (.inr x0)), (1, .inl x1)] []
  refine Vw.aload_n (pc := 0) (x := x0) K dX9_created_0 rfl ?_
  refine Vw.iload_n (pc := 1) (x := x1) K dX9_created_1 rfl ?_
  refine Vw.iconst (pc := 2) (v := (5 : Int32)) K (by decide) dX9_created_2 ?_
  obtain ⟨g1, h⟩ := wgd h
  obtain ⟨p3, e2, h⟩ := wbd h
  refine Vw.cV1 (pc := 3) (v := .inr (.inl p3.1)) (c' := 0) (n' := 0) K (s_X9_told K.tr e2) cal_X9_told cls7 u_8_15 g1 rfl ⟨by decide, by decide⟩ ⟨by decide, by decide⟩ rfl (Nat.le_of_ble_eq_true rfl) dX9_created_3 rfl rfl ?_
  exact Vw.lretH (pc := 6) K h E (by decide) (by decide) dX9_created_6
theorem cal_X9_created : wCalV RX9 yX9_created (.code yX9_created cX9_created 2 (some .long)) 1 := ⟨by decide +kernel, u_8_20, u_8_21, u_1_9, u_8_22⟩
def f_X9_accessed (A : Hp) (x0 : Nat) (x1 : Int32) : Option (Int64 × Hp) := if (hsh A x0).1 = 8 then ((f_X9_told A x0 x1 (6 : Int32)).bind fun p3 => some (p3.1, p3.2)) else none
set_option maxRecDepth 100000 in
theorem s_X9_accessed {l : Launch} {g : GT} (hl : l.stackTraces = false) {A : Hp} {x0 : Nat} {x1 : Int32} {r : Int64} {B : Hp} (h : f_X9_accessed A x0 x1 = some (r, B)) : MetV l g yX9_accessed (.code yX9_accessed cX9_accessed 2 (some .long)) [.inr (.inr x0), .inl x1] A (.inl (some (.inr (.inl r)))) B 6 145 0 0 := by
  refine MetV.ofV hl (by decide +kernel) (Nat.le_of_ble_eq_true rfl) (fun κ K E => ?_)
  have K : Cx κ cX9_accessed 2 RX9 6 145 0 0 := K
  have E : Ed κ (some .long) "accessed" (.inl (some (.inr (.inl r)))) B 0 0 := E
  unfold f_X9_accessed at h
  change Vw κ A 0 0 0 [(0, .inr (.inr x0)), (1, .inl x1)] []
  refine Vw.aload_n (pc := 0) (x := x0) K dX9_accessed_0 rfl ?_
  refine Vw.iload_n (pc := 1) (x := x1) K dX9_accessed_1 rfl ?_
  refine Vw.bipush (pc := 2) (v := (6 : Int32)) K (by decide) dX9_accessed_2 ?_
  obtain ⟨g1, h⟩ := wgd h
  obtain ⟨p3, e2, h⟩ := wbd h
  refine Vw.cV1 (pc := 4) (v := .inr (.inl p3.1)) (c' := 0) (n' := 0) K (s_X9_told K.tr e2) cal_X9_told cls7 u_8_15 g1 rfl ⟨by decide, by decide⟩ ⟨by decide, by decide⟩ rfl (Nat.le_of_ble_eq_true rfl) dX9_accessed_4 rfl rfl ?_
  exact Vw.lretH (pc := 7) K h E (by decide) (by decide) dX9_accessed_7
theorem cal_X9_accessed : wCalV RX9 yX9_accessed (.code yX9_accessed cX9_accessed 2 (some .long)) 1 := ⟨by decide +kernel, u_8_24, u_8_25, u_1_9, u_8_26⟩
def f_X9_serial (A : Hp) (x0 : Nat) (x1 : Int32) : Option (Int32 × Hp) := if (hsh A x0).1 = 8 then ((f_X9_told A x0 x1 (7 : Int32)).bind fun p3 => some (p3.1.toInt32, p3.2)) else none
set_option maxRecDepth 100000 in
theorem s_X9_serial {l : Launch} {g : GT} (hl : l.stackTraces = false) {A : Hp} {x0 : Nat} {x1 : Int32} {r : Int32} {B : Hp} (h : f_X9_serial A x0 x1 = some (r, B)) : MetV l g yX9_serial (.code yX9_serial cX9_serial 2 (some .int)) [.inr (.inr x0), .inl x1] A (.inl (some (.inl r))) B 6 145 0 0 := by
  refine MetV.ofV hl (by decide +kernel) (Nat.le_of_ble_eq_true rfl) (fun κ K E => ?_)
  have K : Cx κ cX9_serial 2 RX9 6 145 0 0 := K
  have E : Ed κ (some .int) "serial" (.inl (some (.inl r))) B 0 0 := E
  unfold f_X9_serial at h
  change Vw κ A 0 0 0 [(0, .inr (.inr x0)), (1, .inl x1)] []
  refine Vw.aload_n (pc := 0) (x := x0) K dX9_serial_0 rfl ?_
  refine Vw.iload_n (pc := 1) (x := x1) K dX9_serial_1 rfl ?_
  refine Vw.bipush (pc := 2) (v := (7 : Int32)) K (by decide) dX9_serial_2 ?_
  obtain ⟨g1, h⟩ := wgd h
  obtain ⟨p3, e2, h⟩ := wbd h
  refine Vw.cV1 (pc := 4) (v := .inr (.inl p3.1)) (c' := 0) (n' := 0) K (s_X9_told K.tr e2) cal_X9_told cls7 u_8_15 g1 rfl ⟨by decide, by decide⟩ ⟨by decide, by decide⟩ rfl (Nat.le_of_ble_eq_true rfl) dX9_serial_4 rfl rfl ?_
  refine Vw.l2i (pc := 7) K dX9_serial_7 ?_
  exact Vw.iretH (pc := 8) K h E (by decide) (by decide) dX9_serial_8
theorem cal_X9_serial : wCalV RX9 yX9_serial (.code yX9_serial cX9_serial 2 (some .int)) 1 := ⟨by decide +kernel, u_8_28, u_8_29, u_1_9, u_8_30⟩
def f_X9_isHostOnly (A : Hp) (x0 : Nat) (x1 : Int32) : Option (Int32 × Hp) := if (hsh A x0).1 = 8 then ((f_X9_told A x0 x1 (8 : Int32)).bind fun p3 => (if p3.1 = (1 : Int64) then some ((1 : Int32), p3.2) else some ((0 : Int32), p3.2))) else none
set_option maxRecDepth 100000 in
theorem s_X9_isHostOnly {l : Launch} {g : GT} (hl : l.stackTraces = false) {A : Hp} {x0 : Nat} {x1 : Int32} {r : Int32} {B : Hp} (h : f_X9_isHostOnly A x0 x1 = some (r, B)) : MetV l g yX9_isHostOnly (.code yX9_isHostOnly cX9_isHostOnly 2 (some .boolean)) [.inr (.inr x0), .inl x1] A (.inl (some (.inl r))) B 6 145 0 0 := by
  refine MetV.ofV hl (by decide +kernel) (Nat.le_of_ble_eq_true rfl) (fun κ K E => ?_)
  have K : Cx κ cX9_isHostOnly 2 RX9 6 145 0 0 := K
  have E : Ed κ (some .boolean) "isHostOnly" (.inl (some (.inl r))) B 0 0 := E
  unfold f_X9_isHostOnly at h
  change Vw κ A 0 0 0 [(0, .inr (.inr x0)), (1, .inl x1)] []
  refine Vw.aload_n (pc := 0) (x := x0) K dX9_isHostOnly_0 rfl ?_
  refine Vw.iload_n (pc := 1) (x := x1) K dX9_isHostOnly_1 rfl ?_
  refine Vw.bipush (pc := 2) (v := (8 : Int32)) K (by decide) dX9_isHostOnly_2 ?_
  obtain ⟨g1, h⟩ := wgd h
  obtain ⟨p3, e2, h⟩ := wbd h
  refine Vw.cV1 (pc := 4) (v := .inr (.inl p3.1)) (c' := 0) (n' := 0) K (s_X9_told K.tr e2) cal_X9_told cls7 u_8_15 g1 rfl ⟨by decide, by decide⟩ ⟨by decide, by decide⟩ rfl (Nat.le_of_ble_eq_true rfl) dX9_isHostOnly_4 rfl rfl ?_
  refine Vw.lconst (pc := 7) (v := (1 : Int64)) K (by decide) dX9_isHostOnly_7 ?_
  refine Vw.lcmp_ne (pc := 8) (tgt := 16) K dX9_isHostOnly_8 dX9_isHostOnly_9 (by decide) (fun c4 => ?_) (fun c4 => ?_)
  · have h := wneg c4 h
    refine Vw.iconst (pc := 16) (v := (0 : Int32)) K (by decide) dX9_isHostOnly_16 ?_
    exact Vw.zretH (pc := 17) K (Or.inl rfl) h E (by decide) (by decide) dX9_isHostOnly_17
  · have h := wpos c4 h
    refine Vw.iconst (pc := 12) (v := (1 : Int32)) K (by decide) dX9_isHostOnly_12 ?_
    refine Vw.goto (pc := 13) (tgt := 17) K dX9_isHostOnly_13 (by decide) ?_
    exact Vw.zretH (pc := 17) K (Or.inr rfl) h E (by decide) (by decide) dX9_isHostOnly_17
theorem cal_X9_isHostOnly : wCalV RX9 yX9_isHostOnly (.code yX9_isHostOnly cX9_isHostOnly 2 (some .boolean)) 1 := ⟨by decide +kernel, u_8_32, u_8_33, u_1_9, u_8_34⟩
def f_X9_isSecure (A : Hp) (x0 : Nat) (x1 : Int32) : Option (Int32 × Hp) := if (hsh A x0).1 = 8 then ((f_X9_told A x0 x1 (9 : Int32)).bind fun p3 => (if p3.1 = (1 : Int64) then some ((1 : Int32), p3.2) else some ((0 : Int32), p3.2))) else none
set_option maxRecDepth 100000 in
theorem s_X9_isSecure {l : Launch} {g : GT} (hl : l.stackTraces = false) {A : Hp} {x0 : Nat} {x1 : Int32} {r : Int32} {B : Hp} (h : f_X9_isSecure A x0 x1 = some (r, B)) : MetV l g yX9_isSecure (.code yX9_isSecure cX9_isSecure 2 (some .boolean)) [.inr (.inr x0), .inl x1] A (.inl (some (.inl r))) B 6 145 0 0 := by
  refine MetV.ofV hl (by decide +kernel) (Nat.le_of_ble_eq_true rfl) (fun κ K E => ?_)
  have K : Cx κ cX9_isSecure 2 RX9 6 145 0 0 := K
  have E : Ed κ (some .boolean) "isSecure" (.inl (some (.inl r))) B 0 0 := E
  unfold f_X9_isSecure at h
  change Vw κ A 0 0 0 [(0, .inr (.inr x0)), (1, .inl x1)] []
  refine Vw.aload_n (pc := 0) (x := x0) K dX9_isSecure_0 rfl ?_
  refine Vw.iload_n (pc := 1) (x := x1) K dX9_isSecure_1 rfl ?_
  refine Vw.bipush (pc := 2) (v := (9 : Int32)) K (by decide) dX9_isSecure_2 ?_
  obtain ⟨g1, h⟩ := wgd h
  obtain ⟨p3, e2, h⟩ := wbd h
  refine Vw.cV1 (pc := 4) (v := .inr (.inl p3.1)) (c' := 0) (n' := 0) K (s_X9_told K.tr e2) cal_X9_told cls7 u_8_15 g1 rfl ⟨by decide, by decide⟩ ⟨by decide, by decide⟩ rfl (Nat.le_of_ble_eq_true rfl) dX9_isSecure_4 rfl rfl ?_
  refine Vw.lconst (pc := 7) (v := (1 : Int64)) K (by decide) dX9_isSecure_7 ?_
  refine Vw.lcmp_ne (pc := 8) (tgt := 16) K dX9_isSecure_8 dX9_isSecure_9 (by decide) (fun c4 => ?_) (fun c4 => ?_)
  · have h := wneg c4 h
    refine Vw.iconst (pc := 16) (v := (0 : Int32)) K (by decide) dX9_isSecure_16 ?_
    exact Vw.zretH (pc := 17) K (Or.inl rfl) h E (by decide) (by decide) dX9_isSecure_17
  · have h := wpos c4 h
    refine Vw.iconst (pc := 12) (v := (1 : Int32)) K (by decide) dX9_isSecure_12 ?_
    refine Vw.goto (pc := 13) (tgt := 17) K dX9_isSecure_13 (by decide) ?_
    exact Vw.zretH (pc := 17) K (Or.inr rfl) h E (by decide) (by decide) dX9_isSecure_17
theorem cal_X9_isSecure : wCalV RX9 yX9_isSecure (.code yX9_isSecure cX9_isSecure 2 (some .boolean)) 1 := ⟨by decide +kernel, u_8_36, u_8_37, u_1_9, u_8_38⟩
def f_X9_isHttpOnly (A : Hp) (x0 : Nat) (x1 : Int32) : Option (Int32 × Hp) := if (hsh A x0).1 = 8 then ((f_X9_told A x0 x1 (10 : Int32)).bind fun p3 => (if p3.1 = (1 : Int64) then some ((1 : Int32), p3.2) else some ((0 : Int32), p3.2))) else none
set_option maxRecDepth 100000 in
theorem s_X9_isHttpOnly {l : Launch} {g : GT} (hl : l.stackTraces = false) {A : Hp} {x0 : Nat} {x1 : Int32} {r : Int32} {B : Hp} (h : f_X9_isHttpOnly A x0 x1 = some (r, B)) : MetV l g yX9_isHttpOnly (.code yX9_isHttpOnly cX9_isHttpOnly 2 (some .boolean)) [.inr (.inr x0), .inl x1] A (.inl (some (.inl r))) B 6 145 0 0 := by
  refine MetV.ofV hl (by decide +kernel) (Nat.le_of_ble_eq_true rfl) (fun κ K E => ?_)
  have K : Cx κ cX9_isHttpOnly 2 RX9 6 145 0 0 := K
  have E : Ed κ (some .boolean) "isHttpOnly" (.inl (some (.inl r))) B 0 0 := E
  unfold f_X9_isHttpOnly at h
  change Vw κ A 0 0 0 [(0, .inr (.inr x0)), (1, .inl x1)] []
  refine Vw.aload_n (pc := 0) (x := x0) K dX9_isHttpOnly_0 rfl ?_
  refine Vw.iload_n (pc := 1) (x := x1) K dX9_isHttpOnly_1 rfl ?_
  refine Vw.bipush (pc := 2) (v := (10 : Int32)) K (by decide) dX9_isHttpOnly_2 ?_
  obtain ⟨g1, h⟩ := wgd h
  obtain ⟨p3, e2, h⟩ := wbd h
  refine Vw.cV1 (pc := 4) (v := .inr (.inl p3.1)) (c' := 0) (n' := 0) K (s_X9_told K.tr e2) cal_X9_told cls7 u_8_15 g1 rfl ⟨by decide, by decide⟩ ⟨by decide, by decide⟩ rfl (Nat.le_of_ble_eq_true rfl) dX9_isHttpOnly_4 rfl rfl ?_
  refine Vw.lconst (pc := 7) (v := (1 : Int64)) K (by decide) dX9_isHttpOnly_7 ?_
  refine Vw.lcmp_ne (pc := 8) (tgt := 16) K dX9_isHttpOnly_8 dX9_isHttpOnly_9 (by decide) (fun c4 => ?_) (fun c4 => ?_)
  · have h := wneg c4 h
    refine Vw.iconst (pc := 16) (v := (0 : Int32)) K (by decide) dX9_isHttpOnly_16 ?_
    exact Vw.zretH (pc := 17) K (Or.inl rfl) h E (by decide) (by decide) dX9_isHttpOnly_17
  · have h := wpos c4 h
    refine Vw.iconst (pc := 12) (v := (1 : Int32)) K (by decide) dX9_isHttpOnly_12 ?_
    refine Vw.goto (pc := 13) (tgt := 17) K dX9_isHttpOnly_13 (by decide) ?_
    exact Vw.zretH (pc := 17) K (Or.inr rfl) h E (by decide) (by decide) dX9_isHttpOnly_17
theorem cal_X9_isHttpOnly : wCalV RX9 yX9_isHttpOnly (.code yX9_isHttpOnly cX9_isHttpOnly 2 (some .boolean)) 1 := ⟨by decide +kernel, u_8_40, u_8_41, u_1_9, u_8_42⟩
def f_X9_sameSite (A : Hp) (x0 : Nat) (x1 : Int32) : Option (Int32 × Hp) := if (hsh A x0).1 = 8 then ((f_X9_told A x0 x1 (11 : Int32)).bind fun p3 => some (p3.1.toInt32, p3.2)) else none
set_option maxRecDepth 100000 in
theorem s_X9_sameSite {l : Launch} {g : GT} (hl : l.stackTraces = false) {A : Hp} {x0 : Nat} {x1 : Int32} {r : Int32} {B : Hp} (h : f_X9_sameSite A x0 x1 = some (r, B)) : MetV l g yX9_sameSite (.code yX9_sameSite cX9_sameSite 2 (some .int)) [.inr (.inr x0), .inl x1] A (.inl (some (.inl r))) B 6 145 0 0 := by
  refine MetV.ofV hl (by decide +kernel) (Nat.le_of_ble_eq_true rfl) (fun κ K E => ?_)
  have K : Cx κ cX9_sameSite 2 RX9 6 145 0 0 := K
  have E : Ed κ (some .int) "sameSite" (.inl (some (.inl r))) B 0 0 := E
  unfold f_X9_sameSite at h
  change Vw κ A 0 0 0 [(0, .inr (.inr x0)), (1, .inl x1)] []
  refine Vw.aload_n (pc := 0) (x := x0) K dX9_sameSite_0 rfl ?_
  refine Vw.iload_n (pc := 1) (x := x1) K dX9_sameSite_1 rfl ?_
  refine Vw.bipush (pc := 2) (v := (11 : Int32)) K (by decide) dX9_sameSite_2 ?_
  obtain ⟨g1, h⟩ := wgd h
  obtain ⟨p3, e2, h⟩ := wbd h
  refine Vw.cV1 (pc := 4) (v := .inr (.inl p3.1)) (c' := 0) (n' := 0) K (s_X9_told K.tr e2) cal_X9_told cls7 u_8_15 g1 rfl ⟨by decide, by decide⟩ ⟨by decide, by decide⟩ rfl (Nat.le_of_ble_eq_true rfl) dX9_sameSite_4 rfl rfl ?_
  refine Vw.l2i (pc := 7) K dX9_sameSite_7 ?_
  exact Vw.iretH (pc := 8) K h E (by decide) (by decide) dX9_sameSite_8
theorem cal_X9_sameSite : wCalV RX9 yX9_sameSite (.code yX9_sameSite cX9_sameSite 2 (some .int)) 1 := ⟨by decide +kernel, u_8_44, u_8_45, u_1_9, u_8_46⟩
def f_X9_priority (A : Hp) (x0 : Nat) (x1 : Int32) : Option (Int32 × Hp) := if (hsh A x0).1 = 8 then ((f_X9_told A x0 x1 (12 : Int32)).bind fun p3 => some (p3.1.toInt32, p3.2)) else none
set_option maxRecDepth 100000 in
theorem s_X9_priority {l : Launch} {g : GT} (hl : l.stackTraces = false) {A : Hp} {x0 : Nat} {x1 : Int32} {r : Int32} {B : Hp} (h : f_X9_priority A x0 x1 = some (r, B)) : MetV l g yX9_priority (.code yX9_priority cX9_priority 2 (some .int)) [.inr (.inr x0), .inl x1] A (.inl (some (.inl r))) B 6 145 0 0 := by
  refine MetV.ofV hl (by decide +kernel) (Nat.le_of_ble_eq_true rfl) (fun κ K E => ?_)
  have K : Cx κ cX9_priority 2 RX9 6 145 0 0 := K
  have E : Ed κ (some .int) "priority" (.inl (some (.inl r))) B 0 0 := E
  unfold f_X9_priority at h
  change Vw κ A 0 0 0 [(0, .inr (.inr x0)), (1, .inl x1)] []
  refine Vw.aload_n (pc := 0) (x := x0) K dX9_priority_0 rfl ?_
  refine Vw.iload_n (pc := 1) (x := x1) K dX9_priority_1 rfl ?_
  refine Vw.bipush (pc := 2) (v := (12 : Int32)) K (by decide) dX9_priority_2 ?_
  obtain ⟨g1, h⟩ := wgd h
  obtain ⟨p3, e2, h⟩ := wbd h
  refine Vw.cV1 (pc := 4) (v := .inr (.inl p3.1)) (c' := 0) (n' := 0) K (s_X9_told K.tr e2) cal_X9_told cls7 u_8_15 g1 rfl ⟨by decide, by decide⟩ ⟨by decide, by decide⟩ rfl (Nat.le_of_ble_eq_true rfl) dX9_priority_4 rfl rfl ?_
  refine Vw.l2i (pc := 7) K dX9_priority_7 ?_
  exact Vw.iretH (pc := 8) K h E (by decide) (by decide) dX9_priority_8
theorem cal_X9_priority : wCalV RX9 yX9_priority (.code yX9_priority cX9_priority 2 (some .int)) 1 := ⟨by decide +kernel, u_8_48, u_8_49, u_1_9, u_8_50⟩
def k_X9_firstFrom_79 (rec29 : Hp → Int32 → Int32 → Option (Int32 × Hp)) (A : Hp) (x0 : Nat) (x2 : Int32) (t0 : Int32) (t1 : Int32) : Option (Int32 × Hp) := rec29 A (t0 + t1) (x2 + (1 : Int32))
set_option maxRecDepth 100000 in
theorem s_X9_firstFrom_79 {κ : KT} {r : Int32} {B : Hp} {A : Hp} {x0 : Nat} {x2 : Int32} {t0 : Int32} {t1 : Int32} {rec29 : Hp → Int32 → Int32 → Option (Int32 × Hp)} (K : Cx κ cX9_firstFrom 4 RX9 3 71 0 0) (E : Ed κ (some .int) "firstFrom" (.inl (some (.inl r))) B 0 0) (hr29 : ∀ (A : Hp) (x1 : Int32) (x2 : Int32), rec29 A x1 x2 = some (r, B) → Vw κ A 0 0 29 [(0, .inr (.inr x0)), (1, .inl x1), (2, .inl x2)] []) (h : k_X9_firstFrom_79 rec29 A x0 x2 t0 t1 = some (r, B)) : Vw κ A 0 0 79 [(0, .inr (.inr x0)), (2, .inl x2)] [.inl t1, .inl t0] := by
  unfold k_X9_firstFrom_79 at h
  refine Vw.iadd (pc := 79) K dX9_firstFrom_79 ?_
  refine Vw.istore_n (pc := 80) K dX9_firstFrom_80 (by decide) ?_
  refine Vw.iinc (pc := 81) (x := x2) (v := (1 : Int32)) K dX9_firstFrom_81 rfl (by decide) (by decide) ?_
  refine Vw.goto (pc := 84) (tgt := 29) K dX9_firstFrom_84 (by decide) ?_
  exact Vw.loc rfl (hr29 _ _ _ h)
def k_X9_firstFrom_29s  (x0 : Nat)  (rec29 : Hp → Int32 → Int32 → Option (Int32 × Hp)) (A : Hp) (x1 : Int32) (x2 : Int32) : Option (Int32 × Hp) := if (hsh A x0).1 = 8 then if (hsh A (hgR A 448 x0 0)).1 = 11 then if wix (5 : Int32) (hsh A (hgR A 448 x0 0)).2 then (if (hgL A 1035 (hgR A 448 x0 0) (5 : Int32).toNatClampNeg) ≤ x2.toInt64 then (if (hgL A 1035 (hgR A 448 x0 0) (5 : Int32).toNatClampNeg) ≤ x1.toInt64 then some ((-1 : Int32), A) else some (x1, A)) else ((f_X9_cookie A x2).bind fun v7 => if wix (v7 + (2 : Int32)) (hsh A (hgR A 448 x0 0)).2 then ((f_X9_orderedDomains A x0 (v7 + (62 : Int32)) ((hgL A 1035 (hgR A 448 x0 0) (v7 + (2 : Int32)).toNatClampNeg).toInt32) (8400 : Int32) (hgI A 451 x0 0)).bind fun v10 => (if (0 : Int32) ≤ v10 then k_X9_firstFrom_79 rec29 A x0 x2 x1 (0 : Int32) else k_X9_firstFrom_79 rec29 A x0 x2 x1 (1 : Int32))) else none)) else none else none else none
def k_X9_firstFrom_29  (x0 : Nat)  : Nat → Hp → Int32 → Int32 → Option (Int32 × Hp)
  | 0 => fun _ _ _ => none
  | fu + 1 => k_X9_firstFrom_29s x0  (k_X9_firstFrom_29 x0  fu)
set_option maxRecDepth 100000 in
theorem s_X9_firstFrom_29 {κ : KT} {r : Int32} {B : Hp}  {x0 : Nat}  (K : Cx κ cX9_firstFrom 4 RX9 3 71 0 0) (E : Ed κ (some .int) "firstFrom" (.inl (some (.inl r))) B 0 0)  : ∀ (fu : Nat) (A : Hp) (x1 : Int32) (x2 : Int32),  k_X9_firstFrom_29 x0  fu A x1 x2 = some (r, B) → Vw κ A 0 0 29 [(0, .inr (.inr x0)), (1, .inl x1), (2, .inl x2)] [] := by
  intro fu
  induction fu with
  | zero => intro A x1 x2 h; cases h
  | succ fu hr29 =>
    intro A x1 x2 h
    have h : k_X9_firstFrom_29s x0  (k_X9_firstFrom_29 x0  fu) A x1 x2 = some (r, B) := h
    unfold k_X9_firstFrom_29s at h
    refine Vw.iload_n (pc := 29) (x := x2) K dX9_firstFrom_29 rfl ?_
    refine Vw.i2l (pc := 30) K dX9_firstFrom_30 ?_
    refine Vw.aload_n (pc := 31) (x := x0) K dX9_firstFrom_31 rfl ?_
    obtain ⟨g1, h⟩ := wgd h
    refine Vw.getR (pc := 32) (k := 0) (f := 448) K cls7 rfl rfl u_6_17 g1 dX9_firstFrom_32 ?_
    refine Vw.iconst (pc := 35) (v := (5 : Int32)) K (by decide) dX9_firstFrom_35 ?_
    obtain ⟨g2, h⟩ := wgd h
    obtain ⟨g3, h⟩ := wgd h
    refine Vw.laload (pc := 36) K g2 g3 dX9_firstFrom_36 ?_
    refine Vw.lcmp_ge (pc := 37) (tgt := 87) K dX9_firstFrom_37 dX9_firstFrom_38 (by decide) (fun c4 => ?_) (fun c4 => ?_)
    · have h := wpos c4 h
      refine Vw.iload_n (pc := 87) (x := x1) K dX9_firstFrom_87 rfl ?_
      refine Vw.i2l (pc := 88) K dX9_firstFrom_88 ?_
      refine Vw.aload_n (pc := 89) (x := x0) K dX9_firstFrom_89 rfl ?_
      refine Vw.getR (pc := 90) (k := 0) (f := 448) K cls7 rfl rfl u_6_17 g1 dX9_firstFrom_90 ?_
      refine Vw.iconst (pc := 93) (v := (5 : Int32)) K (by decide) dX9_firstFrom_93 ?_
      refine Vw.laload (pc := 94) K g2 g3 dX9_firstFrom_94 ?_
      refine Vw.lcmp_ge (pc := 95) (tgt := 103) K dX9_firstFrom_95 dX9_firstFrom_96 (by decide) (fun c5 => ?_) (fun c5 => ?_)
      · have h := wpos c5 h
        refine Vw.iconst (pc := 103) (v := (-1 : Int32)) K (by decide) dX9_firstFrom_103 ?_
        exact Vw.iretH (pc := 104) K h E (by decide) (by decide) dX9_firstFrom_104
      · have h := wneg c5 h
        refine Vw.iload_n (pc := 99) (x := x1) K dX9_firstFrom_99 rfl ?_
        refine Vw.goto (pc := 100) (tgt := 104) K dX9_firstFrom_100 (by decide) ?_
        exact Vw.iretH (pc := 104) K h E (by decide) (by decide) dX9_firstFrom_104
    · have h := wneg c4 h
      refine Vw.iload_n (pc := 41) (x := x2) K dX9_firstFrom_41 rfl ?_
      obtain ⟨v7, e6, h⟩ := wbd h
      refine Vw.cS1 (pc := 42) (v := .inl v7) (c' := 0) (n' := 0) K (s_X9_cookie K.tr e6) cal_X9_cookie u_7_102 rfl ⟨by decide, by decide⟩ ⟨by decide, by decide⟩ rfl (Nat.le_of_ble_eq_true rfl) dX9_firstFrom_42 rfl rfl ?_
      refine Vw.istore_n (pc := 45) K dX9_firstFrom_45 (by decide) ?_
      refine Vw.iload_n (pc := 46) (x := x1) K dX9_firstFrom_46 rfl ?_
      refine Vw.aload_n (pc := 47) (x := x0) K dX9_firstFrom_47 rfl ?_
      refine Vw.iload_n (pc := 48) (x := v7) K dX9_firstFrom_48 rfl ?_
      refine Vw.bipush (pc := 49) (v := (62 : Int32)) K (by decide) dX9_firstFrom_49 ?_
      refine Vw.iadd (pc := 51) K dX9_firstFrom_51 ?_
      refine Vw.aload_n (pc := 52) (x := x0) K dX9_firstFrom_52 rfl ?_
      refine Vw.getR (pc := 53) (k := 0) (f := 448) K cls7 rfl rfl u_6_17 g1 dX9_firstFrom_53 ?_
      refine Vw.iload_n (pc := 56) (x := v7) K dX9_firstFrom_56 rfl ?_
      refine Vw.iconst (pc := 57) (v := (2 : Int32)) K (by decide) dX9_firstFrom_57 ?_
      refine Vw.iadd (pc := 58) K dX9_firstFrom_58 ?_
      obtain ⟨g8, h⟩ := wgd h
      refine Vw.laload (pc := 59) K g2 g8 dX9_firstFrom_59 ?_
      refine Vw.l2i (pc := 60) K dX9_firstFrom_60 ?_
      refine Vw.sipush (pc := 61) (v := (8400 : Int32)) K (by decide) dX9_firstFrom_61 ?_
      refine Vw.aload_n (pc := 64) (x := x0) K dX9_firstFrom_64 rfl ?_
      refine Vw.getI (pc := 65) (k := 3) (f := 451) K cls7 rfl rfl u_6_20 g1 dX9_firstFrom_65 ?_
      obtain ⟨v10, e9, h⟩ := wbd h
      refine Vw.cV1 (pc := 68) (v := .inl v10) (c' := 0) (n' := 0) K (s_X9_orderedDomains K.tr e9) cal_X9_orderedDomains cls7 u_7_215 g1 rfl ⟨by decide, by decide⟩ ⟨by decide, by decide⟩ rfl (Nat.le_of_ble_eq_true rfl) dX9_firstFrom_68 rfl rfl ?_
      refine Vw.if_ge (pc := 71) (tgt := 78) K dX9_firstFrom_71 (by decide) (fun c11 => ?_) (fun c11 => ?_)
      · have h := wpos c11 h
        refine Vw.iconst (pc := 78) (v := (0 : Int32)) K (by decide) dX9_firstFrom_78 ?_
        exact Vw.loc rfl (s_X9_firstFrom_79 K E hr29 h)
      · have h := wneg c11 h
        refine Vw.iconst (pc := 74) (v := (1 : Int32)) K (by decide) dX9_firstFrom_74 ?_
        refine Vw.goto (pc := 75) (tgt := 79) K dX9_firstFrom_75 (by decide) ?_
        exact Vw.loc rfl (s_X9_firstFrom_79 K E hr29 h)
def f_X9_firstFrom (A : Hp) (x0 : Nat) : Option (Int32 × Hp) := if (hsh A x0).1 = 8 then ((f_X9_isDomain (hsI A 452 x0 0 (0 : Int32)) x0 (8400 : Int32) (hgI (hsI A 452 x0 0 (0 : Int32)) 451 x0 0)).bind fun v14 => (if v14 = (0 : Int32) then ((f_X9_fails (hsI A 452 x0 0 (0 : Int32)) x0 (1 : Int32)).bind fun p17 => some (p17.1, p17.2)) else k_X9_firstFrom_29 x0 FU (hsI A 452 x0 0 (0 : Int32)) (0 : Int32) (0 : Int32))) else none
set_option maxRecDepth 100000 in
theorem s_X9_firstFrom {l : Launch} {g : GT} (hl : l.stackTraces = false) {A : Hp} {x0 : Nat} {r : Int32} {B : Hp} (h : f_X9_firstFrom A x0 = some (r, B)) : MetV l g yX9_firstFrom (.code yX9_firstFrom cX9_firstFrom 4 (some .int)) [.inr (.inr x0)] A (.inl (some (.inl r))) B 3 71 0 0 := by
  refine MetV.ofV hl (by decide +kernel) (Nat.le_of_ble_eq_true rfl) (fun κ K E => ?_)
  have K : Cx κ cX9_firstFrom 4 RX9 3 71 0 0 := K
  have E : Ed κ (some .int) "firstFrom" (.inl (some (.inl r))) B 0 0 := E
  unfold f_X9_firstFrom at h
  change Vw κ A 0 0 0 [(0, .inr (.inr x0))] []
  refine Vw.aload_n (pc := 0) (x := x0) K dX9_firstFrom_0 rfl ?_
  refine Vw.iconst (pc := 1) (v := (0 : Int32)) K (by decide) dX9_firstFrom_1 ?_
  obtain ⟨g12, h⟩ := wgd h
  refine Vw.putI (pc := 2) (k := 4) (f := 452) K cls7 rfl rfl u_6_21 g12 (Or.inl rfl) rfl rfl dX9_firstFrom_2 ?_
  refine Vw.aload_n (pc := 5) (x := x0) K dX9_firstFrom_5 rfl ?_
  refine Vw.sipush (pc := 6) (v := (8400 : Int32)) K (by decide) dX9_firstFrom_6 ?_
  refine Vw.aload_n (pc := 9) (x := x0) K dX9_firstFrom_9 rfl ?_
  refine Vw.getI (pc := 10) (k := 3) (f := 451) K cls7 rfl rfl u_6_20 g12 dX9_firstFrom_10 ?_
  obtain ⟨v14, e13, h⟩ := wbd h
  refine Vw.cV1 (pc := 13) (v := .inl v14) (c' := 0) (n' := 0) K (s_X9_isDomain K.tr e13) cal_X9_isDomain cls7 u_6_236 g12 rfl ⟨by decide, by decide⟩ ⟨by decide, by decide⟩ rfl (Nat.le_of_ble_eq_true rfl) dX9_firstFrom_13 rfl rfl ?_
  refine Vw.if_ne (pc := 16) (tgt := 25) K dX9_firstFrom_16 (by decide) (fun c15 => ?_) (fun c15 => ?_)
  · have h := wneg c15 h
    refine Vw.iconst (pc := 25) (v := (0 : Int32)) K (by decide) dX9_firstFrom_25 ?_
    refine Vw.istore_n (pc := 26) K dX9_firstFrom_26 (by decide) ?_
    refine Vw.iconst (pc := 27) (v := (0 : Int32)) K (by decide) dX9_firstFrom_27 ?_
    refine Vw.istore_n (pc := 28) K dX9_firstFrom_28 (by decide) ?_
    exact Vw.loc rfl (s_X9_firstFrom_29 K E  _ _ _ _ h)
  · have h := wpos c15 h
    refine Vw.aload_n (pc := 19) (x := x0) K dX9_firstFrom_19 rfl ?_
    refine Vw.iconst (pc := 20) (v := (1 : Int32)) K (by decide) dX9_firstFrom_20 ?_
    obtain ⟨p17, e16, h⟩ := wbd h
    refine Vw.cV1 (pc := 21) (v := .inl p17.1) (c' := 0) (n' := 0) K (s_X9_fails K.tr e16) cal_X9_fails cls7 u_6_214 g12 rfl ⟨by decide, by decide⟩ ⟨by decide, by decide⟩ rfl (Nat.le_of_ble_eq_true rfl) dX9_firstFrom_21 rfl rfl ?_
    exact Vw.iretH (pc := 24) K h E (by decide) (by decide) dX9_firstFrom_24
theorem cal_X9_firstFrom : wCalV RX9 yX9_firstFrom (.code yX9_firstFrom cX9_firstFrom 4 (some .int)) 0 := ⟨by decide +kernel, u_8_52, u_8_53, u_1_9, u_8_54⟩
def f_X9_remove (A : Hp) (x0 : Nat) (x1 : Int32) : Option (Int32 × Hp) := if (hsh A x0).1 = 8 then ((f_X9_lacks A x0 x1).bind fun p3 => (if p3.1 = (0 : Int32) then if (hsh p3.2 x0).1 = 8 then ((f_X9_placeOf p3.2 x0 x1).bind fun v7 => ((f_X9_goes p3.2 x0 v7).bind fun A9 => if (hsh A9 x0).1 = 8 then if (hsh A9 (hgR A9 448 x0 0)).1 = 11 then if wix (5 : Int32) (hsh A9 (hgR A9 448 x0 0)).2 then some ((hgL A9 1035 (hgR A9 448 x0 0) (5 : Int32).toNatClampNeg).toInt32, A9) else none else none else none)) else none else some ((0 : Int32), p3.2))) else none
set_option maxRecDepth 100000 in
theorem s_X9_remove {l : Launch} {g : GT} (hl : l.stackTraces = false) {A : Hp} {x0 : Nat} {x1 : Int32} {r : Int32} {B : Hp} (h : f_X9_remove A x0 x1 = some (r, B)) : MetV l g yX9_remove (.code yX9_remove cX9_remove 2 (some .int)) [.inr (.inr x0), .inl x1] A (.inl (some (.inl r))) B 5 123 0 0 := by
  refine MetV.ofV hl (by decide +kernel) (Nat.le_of_ble_eq_true rfl) (fun κ K E => ?_)
  have K : Cx κ cX9_remove 2 RX9 5 123 0 0 := K
  have E : Ed κ (some .int) "remove" (.inl (some (.inl r))) B 0 0 := E
  unfold f_X9_remove at h
  change Vw κ A 0 0 0 [(0, .inr (.inr x0)), (1, .inl x1)] []
  refine Vw.aload_n (pc := 0) (x := x0) K dX9_remove_0 rfl ?_
  refine Vw.iload_n (pc := 1) (x := x1) K dX9_remove_1 rfl ?_
  obtain ⟨g1, h⟩ := wgd h
  obtain ⟨p3, e2, h⟩ := wbd h
  refine Vw.cV1 (pc := 2) (v := .inl p3.1) (c' := 0) (n' := 0) K (s_X9_lacks K.tr e2) cal_X9_lacks cls7 u_7_235 g1 rfl ⟨by decide, by decide⟩ ⟨by decide, by decide⟩ rfl (Nat.le_of_ble_eq_true rfl) dX9_remove_2 rfl rfl ?_
  refine Vw.if_eq (pc := 5) (tgt := 10) K dX9_remove_5 (by decide) (fun c4 => ?_) (fun c4 => ?_)
  · have h := wpos c4 h
    refine Vw.aload_n (pc := 10) (x := x0) K dX9_remove_10 rfl ?_
    refine Vw.aload_n (pc := 11) (x := x0) K dX9_remove_11 rfl ?_
    refine Vw.iload_n (pc := 12) (x := x1) K dX9_remove_12 rfl ?_
    obtain ⟨g5, h⟩ := wgd h
    obtain ⟨v7, e6, h⟩ := wbd h
    refine Vw.cV1 (pc := 13) (v := .inl v7) (c' := 0) (n' := 0) K (s_X9_placeOf K.tr e6) cal_X9_placeOf cls7 u_7_203 g5 rfl ⟨by decide, by decide⟩ ⟨by decide, by decide⟩ rfl (Nat.le_of_ble_eq_true rfl) dX9_remove_13 rfl rfl ?_
    obtain ⟨A9, e8, h⟩ := wbd h
    refine Vw.cV0 (pc := 16) (c' := 0) (n' := 0) K (s_X9_goes K.tr e8) cal_X9_goes cls7 u_7_134 g5 rfl ⟨by decide, by decide⟩ ⟨by decide, by decide⟩ rfl (Nat.le_of_ble_eq_true rfl) dX9_remove_16 rfl rfl ?_
    refine Vw.aload_n (pc := 19) (x := x0) K dX9_remove_19 rfl ?_
    obtain ⟨g10, h⟩ := wgd h
    refine Vw.getR (pc := 20) (k := 0) (f := 448) K cls7 rfl rfl u_6_17 g10 dX9_remove_20 ?_
    refine Vw.iconst (pc := 23) (v := (5 : Int32)) K (by decide) dX9_remove_23 ?_
    obtain ⟨g11, h⟩ := wgd h
    obtain ⟨g12, h⟩ := wgd h
    refine Vw.laload (pc := 24) K g11 g12 dX9_remove_24 ?_
    refine Vw.l2i (pc := 25) K dX9_remove_25 ?_
    exact Vw.iretH (pc := 26) K h E (by decide) (by decide) dX9_remove_26
  · have h := wneg c4 h
    refine Vw.iconst (pc := 8) (v := (0 : Int32)) K (by decide) dX9_remove_8 ?_
    exact Vw.iretH (pc := 9) K h E (by decide) (by decide) dX9_remove_9
theorem cal_X9_remove : wCalV RX9 yX9_remove (.code yX9_remove cX9_remove 2 (some .int)) 1 := ⟨by decide +kernel, u_8_56, u_8_57, u_1_9, u_8_58⟩
def k_X9_clearSite_78 (rec35 : Hp → Int32 → Int32 → Option (Int32 × Hp)) (A : Hp) (x0 : Nat) (x1 : Int32) (x2 : Int32)  : Option (Int32 × Hp) := rec35 A x1 (x2 + (-1 : Int32))
set_option maxRecDepth 100000 in
theorem s_X9_clearSite_78 {κ : KT} {r : Int32} {B : Hp} {A : Hp} {x0 : Nat} {x1 : Int32} {x2 : Int32}  {rec35 : Hp → Int32 → Int32 → Option (Int32 × Hp)} (K : Cx κ cX9_clearSite 4 RX9 5 125 0 0) (E : Ed κ (some .int) "clearSite" (.inl (some (.inl r))) B 0 0) (hr35 : ∀ (A : Hp) (x1 : Int32) (x2 : Int32), rec35 A x1 x2 = some (r, B) → Vw κ A 0 0 35 [(0, .inr (.inr x0)), (1, .inl x1), (2, .inl x2)] []) (h : k_X9_clearSite_78 rec35 A x0 x1 x2  = some (r, B)) : Vw κ A 0 0 78 [(0, .inr (.inr x0)), (1, .inl x1), (2, .inl x2)] [] := by
  unfold k_X9_clearSite_78 at h
  refine Vw.iinc (pc := 78) (x := x2) (v := (-1 : Int32)) K dX9_clearSite_78 rfl (by decide) (by decide) ?_
  refine Vw.goto (pc := 81) (tgt := 35) K dX9_clearSite_81 (by decide) ?_
  exact Vw.loc rfl (hr35 _ _ _ h)
def k_X9_clearSite_35s  (x0 : Nat)  (rec35 : Hp → Int32 → Int32 → Option (Int32 × Hp)) (A : Hp) (x1 : Int32) (x2 : Int32) : Option (Int32 × Hp) := (if x2 < (0 : Int32) then some (x1, A) else ((f_X9_cookie A x2).bind fun v3 => if (hsh A x0).1 = 8 then if (hsh A (hgR A 448 x0 0)).1 = 11 then if wix (v3 + (2 : Int32)) (hsh A (hgR A 448 x0 0)).2 then ((f_X9_hostLong A x0).bind fun v8 => ((f_X9_areOneSite A x0 (v3 + (62 : Int32)) ((hgL A 1035 (hgR A 448 x0 0) (v3 + (2 : Int32)).toNatClampNeg).toInt32) (104 : Int32) v8).bind fun v10 => (if v10 = (0 : Int32) then k_X9_clearSite_78 rec35 A x0 x1 x2 else ((f_X9_goes A x0 x2).bind fun A13 => k_X9_clearSite_78 rec35 A13 x0 (x1 + (1 : Int32)) x2)))) else none else none else none))
def k_X9_clearSite_35  (x0 : Nat)  : Nat → Hp → Int32 → Int32 → Option (Int32 × Hp)
  | 0 => fun _ _ _ => none
  | fu + 1 => k_X9_clearSite_35s x0  (k_X9_clearSite_35 x0  fu)
set_option maxRecDepth 100000 in
theorem s_X9_clearSite_35 {κ : KT} {r : Int32} {B : Hp}  {x0 : Nat}  (K : Cx κ cX9_clearSite 4 RX9 5 125 0 0) (E : Ed κ (some .int) "clearSite" (.inl (some (.inl r))) B 0 0)  : ∀ (fu : Nat) (A : Hp) (x1 : Int32) (x2 : Int32),  k_X9_clearSite_35 x0  fu A x1 x2 = some (r, B) → Vw κ A 0 0 35 [(0, .inr (.inr x0)), (1, .inl x1), (2, .inl x2)] [] := by
  intro fu
  induction fu with
  | zero => intro A x1 x2 h; cases h
  | succ fu hr35 =>
    intro A x1 x2 h
    have h : k_X9_clearSite_35s x0  (k_X9_clearSite_35 x0  fu) A x1 x2 = some (r, B) := h
    unfold k_X9_clearSite_35s at h
    refine Vw.iload_n (pc := 35) (x := x2) K dX9_clearSite_35 rfl ?_
    refine Vw.if_lt (pc := 36) (tgt := 84) K dX9_clearSite_36 (by decide) (fun c1 => ?_) (fun c1 => ?_)
    · have h := wpos c1 h
      refine Vw.iload_n (pc := 84) (x := x1) K dX9_clearSite_84 rfl ?_
      exact Vw.iretH (pc := 85) K h E (by decide) (by decide) dX9_clearSite_85
    · have h := wneg c1 h
      refine Vw.iload_n (pc := 39) (x := x2) K dX9_clearSite_39 rfl ?_
      obtain ⟨v3, e2, h⟩ := wbd h
      refine Vw.cS1 (pc := 40) (v := .inl v3) (c' := 0) (n' := 0) K (s_X9_cookie K.tr e2) cal_X9_cookie u_7_102 rfl ⟨by decide, by decide⟩ ⟨by decide, by decide⟩ rfl (Nat.le_of_ble_eq_true rfl) dX9_clearSite_40 rfl rfl ?_
      refine Vw.istore_n (pc := 43) K dX9_clearSite_43 (by decide) ?_
      refine Vw.aload_n (pc := 44) (x := x0) K dX9_clearSite_44 rfl ?_
      refine Vw.iload_n (pc := 45) (x := v3) K dX9_clearSite_45 rfl ?_
      refine Vw.bipush (pc := 46) (v := (62 : Int32)) K (by decide) dX9_clearSite_46 ?_
      refine Vw.iadd (pc := 48) K dX9_clearSite_48 ?_
      refine Vw.aload_n (pc := 49) (x := x0) K dX9_clearSite_49 rfl ?_
      obtain ⟨g4, h⟩ := wgd h
      refine Vw.getR (pc := 50) (k := 0) (f := 448) K cls7 rfl rfl u_6_17 g4 dX9_clearSite_50 ?_
      refine Vw.iload_n (pc := 53) (x := v3) K dX9_clearSite_53 rfl ?_
      refine Vw.iconst (pc := 54) (v := (2 : Int32)) K (by decide) dX9_clearSite_54 ?_
      refine Vw.iadd (pc := 55) K dX9_clearSite_55 ?_
      obtain ⟨g5, h⟩ := wgd h
      obtain ⟨g6, h⟩ := wgd h
      refine Vw.laload (pc := 56) K g5 g6 dX9_clearSite_56 ?_
      refine Vw.l2i (pc := 57) K dX9_clearSite_57 ?_
      refine Vw.bipush (pc := 58) (v := (104 : Int32)) K (by decide) dX9_clearSite_58 ?_
      refine Vw.aload_n (pc := 60) (x := x0) K dX9_clearSite_60 rfl ?_
      obtain ⟨v8, e7, h⟩ := wbd h
      refine Vw.cV1 (pc := 61) (v := .inl v8) (c' := 0) (n' := 0) K (s_X9_hostLong K.tr e7) cal_X9_hostLong cls7 u_6_218 g4 rfl ⟨by decide, by decide⟩ ⟨by decide, by decide⟩ rfl (Nat.le_of_ble_eq_true rfl) dX9_clearSite_61 rfl rfl ?_
      obtain ⟨v10, e9, h⟩ := wbd h
      refine Vw.cV1 (pc := 64) (v := .inl v10) (c' := 0) (n' := 0) K (s_X9_areOneSite K.tr e9) cal_X9_areOneSite cls7 u_6_186 g4 rfl ⟨by decide, by decide⟩ ⟨by decide, by decide⟩ rfl (Nat.le_of_ble_eq_true rfl) dX9_clearSite_64 rfl rfl ?_
      refine Vw.if_eq (pc := 67) (tgt := 78) K dX9_clearSite_67 (by decide) (fun c11 => ?_) (fun c11 => ?_)
      · have h := wpos c11 h
        exact Vw.loc rfl (s_X9_clearSite_78 K E hr35 h)
      · have h := wneg c11 h
        refine Vw.aload_n (pc := 70) (x := x0) K dX9_clearSite_70 rfl ?_
        refine Vw.iload_n (pc := 71) (x := x2) K dX9_clearSite_71 rfl ?_
        obtain ⟨A13, e12, h⟩ := wbd h
        refine Vw.cV0 (pc := 72) (c' := 0) (n' := 0) K (s_X9_goes K.tr e12) cal_X9_goes cls7 u_7_134 g4 rfl ⟨by decide, by decide⟩ ⟨by decide, by decide⟩ rfl (Nat.le_of_ble_eq_true rfl) dX9_clearSite_72 rfl rfl ?_
        refine Vw.iinc (pc := 75) (x := x1) (v := (1 : Int32)) K dX9_clearSite_75 rfl (by decide) (by decide) ?_
        exact Vw.loc rfl (s_X9_clearSite_78 K E hr35 h)
def f_X9_clearSite (A : Hp) (x0 : Nat) : Option (Int32 × Hp) := if (hsh A x0).1 = 8 then if (hsh (hsI A 452 x0 0 (0 : Int32)) (hgR (hsI A 452 x0 0 (0 : Int32)) 448 x0 0)).1 = 11 then if wix (100 : Int32) (hsh (hsI A 452 x0 0 (0 : Int32)) (hgR (hsI A 452 x0 0 (0 : Int32)) 448 x0 0)).2 then (if (hgL (hsI A 452 x0 0 (0 : Int32)) 1035 (hgR (hsI A 452 x0 0 (0 : Int32)) 448 x0 0) (100 : Int32).toNatClampNeg) = (0 : Int64) then ((f_X9_fails (hsI A 452 x0 0 (0 : Int32)) x0 (1 : Int32)).bind fun p20 => some (p20.1, p20.2)) else if wix (5 : Int32) (hsh (hsI A 452 x0 0 (0 : Int32)) (hgR (hsI A 452 x0 0 (0 : Int32)) 448 x0 0)).2 then k_X9_clearSite_35 x0 FU (hsI A 452 x0 0 (0 : Int32)) (0 : Int32) (((hgL (hsI A 452 x0 0 (0 : Int32)) 1035 (hgR (hsI A 452 x0 0 (0 : Int32)) 448 x0 0) (5 : Int32).toNatClampNeg).toInt32) - (1 : Int32)) else none) else none else none else none
set_option maxRecDepth 100000 in
theorem s_X9_clearSite {l : Launch} {g : GT} (hl : l.stackTraces = false) {A : Hp} {x0 : Nat} {r : Int32} {B : Hp} (h : f_X9_clearSite A x0 = some (r, B)) : MetV l g yX9_clearSite (.code yX9_clearSite cX9_clearSite 4 (some .int)) [.inr (.inr x0)] A (.inl (some (.inl r))) B 5 125 0 0 := by
  refine MetV.ofV hl (by decide +kernel) (Nat.le_of_ble_eq_true rfl) (fun κ K E => ?_)
  have K : Cx κ cX9_clearSite 4 RX9 5 125 0 0 := K
  have E : Ed κ (some .int) "clearSite" (.inl (some (.inl r))) B 0 0 := E
  unfold f_X9_clearSite at h
  change Vw κ A 0 0 0 [(0, .inr (.inr x0))] []
  refine Vw.aload_n (pc := 0) (x := x0) K dX9_clearSite_0 rfl ?_
  refine Vw.iconst (pc := 1) (v := (0 : Int32)) K (by decide) dX9_clearSite_1 ?_
  obtain ⟨g14, h⟩ := wgd h
  refine Vw.putI (pc := 2) (k := 4) (f := 452) K cls7 rfl rfl u_6_21 g14 (Or.inl rfl) rfl rfl dX9_clearSite_2 ?_
  refine Vw.aload_n (pc := 5) (x := x0) K dX9_clearSite_5 rfl ?_
  refine Vw.getR (pc := 6) (k := 0) (f := 448) K cls7 rfl rfl u_6_17 g14 dX9_clearSite_6 ?_
  refine Vw.bipush (pc := 9) (v := (100 : Int32)) K (by decide) dX9_clearSite_9 ?_
  obtain ⟨g15, h⟩ := wgd h
  obtain ⟨g16, h⟩ := wgd h
  refine Vw.laload (pc := 11) K g15 g16 dX9_clearSite_11 ?_
  refine Vw.lconst (pc := 12) (v := (0 : Int64)) K (by decide) dX9_clearSite_12 ?_
  refine Vw.lcmp_ne (pc := 13) (tgt := 23) K dX9_clearSite_13 dX9_clearSite_14 (by decide) (fun c17 => ?_) (fun c17 => ?_)
  · have h := wneg c17 h
    refine Vw.iconst (pc := 23) (v := (0 : Int32)) K (by decide) dX9_clearSite_23 ?_
    refine Vw.istore_n (pc := 24) K dX9_clearSite_24 (by decide) ?_
    refine Vw.aload_n (pc := 25) (x := x0) K dX9_clearSite_25 rfl ?_
    refine Vw.getR (pc := 26) (k := 0) (f := 448) K cls7 rfl rfl u_6_17 g14 dX9_clearSite_26 ?_
    refine Vw.iconst (pc := 29) (v := (5 : Int32)) K (by decide) dX9_clearSite_29 ?_
    obtain ⟨g18, h⟩ := wgd h
    refine Vw.laload (pc := 30) K g15 g18 dX9_clearSite_30 ?_
    refine Vw.l2i (pc := 31) K dX9_clearSite_31 ?_
    refine Vw.iconst (pc := 32) (v := (1 : Int32)) K (by decide) dX9_clearSite_32 ?_
    refine Vw.isub (pc := 33) K dX9_clearSite_33 ?_
    refine Vw.istore_n (pc := 34) K dX9_clearSite_34 (by decide) ?_
    exact Vw.loc rfl (s_X9_clearSite_35 K E  _ _ _ _ h)
  · have h := wpos c17 h
    refine Vw.aload_n (pc := 17) (x := x0) K dX9_clearSite_17 rfl ?_
    refine Vw.iconst (pc := 18) (v := (1 : Int32)) K (by decide) dX9_clearSite_18 ?_
    obtain ⟨p20, e19, h⟩ := wbd h
    refine Vw.cV1 (pc := 19) (v := .inl p20.1) (c' := 0) (n' := 0) K (s_X9_fails K.tr e19) cal_X9_fails cls7 u_6_214 g14 rfl ⟨by decide, by decide⟩ ⟨by decide, by decide⟩ rfl (Nat.le_of_ble_eq_true rfl) dX9_clearSite_19 rfl rfl ?_
    exact Vw.iretH (pc := 22) K h E (by decide) (by decide) dX9_clearSite_22
theorem cal_X9_clearSite : wCalV RX9 yX9_clearSite (.code yX9_clearSite cX9_clearSite 4 (some .int)) 0 := ⟨by decide +kernel, u_8_60, u_8_61, u_1_9, u_8_62⟩
def k_X9_goBetween_48 (rec14 : Hp → Int32 → Int32 → Option (Int32 × Hp)) (A : Hp) (x0 : Nat) (x1 : Int64) (x3 : Int64) (x5 : Int32) (x6 : Int32)  : Option (Int32 × Hp) := rec14 A x5 (x6 + (-1 : Int32))
set_option maxRecDepth 100000 in
theorem s_X9_goBetween_48 {κ : KT} {r : Int32} {B : Hp} {A : Hp} {x0 : Nat} {x1 : Int64} {x3 : Int64} {x5 : Int32} {x6 : Int32}  {rec14 : Hp → Int32 → Int32 → Option (Int32 × Hp)} (K : Cx κ cX9_goBetween 7 RX9 2 45 0 0) (E : Ed κ (some .int) "goBetween" (.inl (some (.inl r))) B 0 0) (hr14 : ∀ (A : Hp) (x5 : Int32) (x6 : Int32), rec14 A x5 x6 = some (r, B) → Vw κ A 0 0 14 [(0, .inr (.inr x0)), (1, .inr (.inl x1)), (3, .inr (.inl x3)), (5, .inl x5), (6, .inl x6)] []) (h : k_X9_goBetween_48 rec14 A x0 x1 x3 x5 x6  = some (r, B)) : Vw κ A 0 0 48 [(0, .inr (.inr x0)), (1, .inr (.inl x1)), (3, .inr (.inl x3)), (5, .inl x5), (6, .inl x6)] [] := by
  unfold k_X9_goBetween_48 at h
  refine Vw.iinc (pc := 48) (x := x6) (v := (-1 : Int32)) K dX9_goBetween_48 rfl (by decide) (by decide) ?_
  refine Vw.goto (pc := 51) (tgt := 14) K dX9_goBetween_51 (by decide) ?_
  exact Vw.loc rfl (hr14 _ _ _ h)
def k_X9_goBetween_14s  (x0 : Nat) (x1 : Int64) (x3 : Int64)  (rec14 : Hp → Int32 → Int32 → Option (Int32 × Hp)) (A : Hp) (x5 : Int32) (x6 : Int32) : Option (Int32 × Hp) := (if x6 < (0 : Int32) then some (x5, A) else if (hsh A x0).1 = 8 then ((f_X9_cookie A x6).bind fun v4 => if (hsh A (hgR A 448 x0 0)).1 = 11 then if wix (v4 + (4 : Int32)) (hsh A (hgR A 448 x0 0)).2 then ((f_X9_in A (hgL A 1035 (hgR A 448 x0 0) (v4 + (4 : Int32)).toNatClampNeg) x1 x3).bind fun v8 => (if v8 = (0 : Int32) then k_X9_goBetween_48 rec14 A x0 x1 x3 x5 x6 else ((f_X9_goes A x0 x6).bind fun A11 => k_X9_goBetween_48 rec14 A11 x0 x1 x3 (x5 + (1 : Int32)) x6))) else none else none) else none)
def k_X9_goBetween_14  (x0 : Nat) (x1 : Int64) (x3 : Int64)  : Nat → Hp → Int32 → Int32 → Option (Int32 × Hp)
  | 0 => fun _ _ _ => none
  | fu + 1 => k_X9_goBetween_14s x0 x1 x3  (k_X9_goBetween_14 x0 x1 x3  fu)
set_option maxRecDepth 100000 in
theorem s_X9_goBetween_14 {κ : KT} {r : Int32} {B : Hp}  {x0 : Nat} {x1 : Int64} {x3 : Int64}  (K : Cx κ cX9_goBetween 7 RX9 2 45 0 0) (E : Ed κ (some .int) "goBetween" (.inl (some (.inl r))) B 0 0)  : ∀ (fu : Nat) (A : Hp) (x5 : Int32) (x6 : Int32),  k_X9_goBetween_14 x0 x1 x3  fu A x5 x6 = some (r, B) → Vw κ A 0 0 14 [(0, .inr (.inr x0)), (1, .inr (.inl x1)), (3, .inr (.inl x3)), (5, .inl x5), (6, .inl x6)] [] := by
  intro fu
  induction fu with
  | zero => intro A x5 x6 h; cases h
  | succ fu hr14 =>
    intro A x5 x6 h
    have h : k_X9_goBetween_14s x0 x1 x3  (k_X9_goBetween_14 x0 x1 x3  fu) A x5 x6 = some (r, B) := h
    unfold k_X9_goBetween_14s at h
    refine Vw.iload (pc := 14) (x := x6) K dX9_goBetween_14 rfl ?_
    refine Vw.if_lt (pc := 16) (tgt := 54) K dX9_goBetween_16 (by decide) (fun c1 => ?_) (fun c1 => ?_)
    · have h := wpos c1 h
      refine Vw.iload (pc := 54) (x := x5) K dX9_goBetween_54 rfl ?_
      exact Vw.iretH (pc := 56) K h E (by decide) (by decide) dX9_goBetween_56
    · have h := wneg c1 h
      refine Vw.aload_n (pc := 19) (x := x0) K dX9_goBetween_19 rfl ?_
      obtain ⟨g2, h⟩ := wgd h
      refine Vw.getR (pc := 20) (k := 0) (f := 448) K cls7 rfl rfl u_6_17 g2 dX9_goBetween_20 ?_
      refine Vw.iload (pc := 23) (x := x6) K dX9_goBetween_23 rfl ?_
      obtain ⟨v4, e3, h⟩ := wbd h
      refine Vw.cS1 (pc := 25) (v := .inl v4) (c' := 0) (n' := 0) K (s_X9_cookie K.tr e3) cal_X9_cookie u_7_102 rfl ⟨by decide, by decide⟩ ⟨by decide, by decide⟩ rfl (Nat.le_of_ble_eq_true rfl) dX9_goBetween_25 rfl rfl ?_
      refine Vw.iconst (pc := 28) (v := (4 : Int32)) K (by decide) dX9_goBetween_28 ?_
      refine Vw.iadd (pc := 29) K dX9_goBetween_29 ?_
      obtain ⟨g5, h⟩ := wgd h
      obtain ⟨g6, h⟩ := wgd h
      refine Vw.laload (pc := 30) K g5 g6 dX9_goBetween_30 ?_
      refine Vw.lload_n (pc := 31) (x := x1) K dX9_goBetween_31 rfl ?_
      refine Vw.lload_n (pc := 32) (x := x3) K dX9_goBetween_32 rfl ?_
      obtain ⟨v8, e7, h⟩ := wbd h
      refine Vw.cS1 (pc := 33) (v := .inl v8) (c' := 0) (n' := 0) K (s_X9_in K.tr e7) cal_X9_in u_6_161 rfl ⟨by decide, by decide⟩ ⟨by decide, by decide⟩ rfl (Nat.le_of_ble_eq_true rfl) dX9_goBetween_33 rfl rfl ?_
      refine Vw.if_eq (pc := 36) (tgt := 48) K dX9_goBetween_36 (by decide) (fun c9 => ?_) (fun c9 => ?_)
      · have h := wpos c9 h
        exact Vw.loc rfl (s_X9_goBetween_48 K E hr14 h)
      · have h := wneg c9 h
        refine Vw.aload_n (pc := 39) (x := x0) K dX9_goBetween_39 rfl ?_
        refine Vw.iload (pc := 40) (x := x6) K dX9_goBetween_40 rfl ?_
        obtain ⟨A11, e10, h⟩ := wbd h
        refine Vw.cV0 (pc := 42) (c' := 0) (n' := 0) K (s_X9_goes K.tr e10) cal_X9_goes cls7 u_7_134 g2 rfl ⟨by decide, by decide⟩ ⟨by decide, by decide⟩ rfl (Nat.le_of_ble_eq_true rfl) dX9_goBetween_42 rfl rfl ?_
        refine Vw.iinc (pc := 45) (x := x5) (v := (1 : Int32)) K dX9_goBetween_45 rfl (by decide) (by decide) ?_
        exact Vw.loc rfl (s_X9_goBetween_48 K E hr14 h)
def f_X9_goBetween (A : Hp) (x0 : Nat) (x1 : Int64) (x3 : Int64) : Option (Int32 × Hp) := if (hsh A x0).1 = 8 then if (hsh A (hgR A 448 x0 0)).1 = 11 then if wix (5 : Int32) (hsh A (hgR A 448 x0 0)).2 then k_X9_goBetween_14 x0 x1 x3 FU A (0 : Int32) (((hgL A 1035 (hgR A 448 x0 0) (5 : Int32).toNatClampNeg).toInt32) - (1 : Int32)) else none else none else none
set_option maxRecDepth 100000 in
theorem s_X9_goBetween {l : Launch} {g : GT} (hl : l.stackTraces = false) {A : Hp} {x0 : Nat} {x1 : Int64} {x3 : Int64} {r : Int32} {B : Hp} (h : f_X9_goBetween A x0 x1 x3 = some (r, B)) : MetV l g yX9_goBetween (.code yX9_goBetween cX9_goBetween 7 (some .int)) [.inr (.inr x0), .inr (.inl x1), .inr (.inl x3)] A (.inl (some (.inl r))) B 2 45 0 0 := by
  refine MetV.ofV hl (by decide +kernel) (Nat.le_of_ble_eq_true rfl) (fun κ K E => ?_)
  have K : Cx κ cX9_goBetween 7 RX9 2 45 0 0 := K
  have E : Ed κ (some .int) "goBetween" (.inl (some (.inl r))) B 0 0 := E
  unfold f_X9_goBetween at h
  change Vw κ A 0 0 0 [(0, .inr (.inr x0)), (1, .inr (.inl x1)), (3, .inr (.inl x3))] []
  refine Vw.iconst (pc := 0) (v := (0 : Int32)) K (by decide) dX9_goBetween_0 ?_
  refine Vw.istore (pc := 1) K dX9_goBetween_1 (by decide) ?_
  refine Vw.aload_n (pc := 3) (x := x0) K dX9_goBetween_3 rfl ?_
  obtain ⟨g12, h⟩ := wgd h
  refine Vw.getR (pc := 4) (k := 0) (f := 448) K cls7 rfl rfl u_6_17 g12 dX9_goBetween_4 ?_
  refine Vw.iconst (pc := 7) (v := (5 : Int32)) K (by decide) dX9_goBetween_7 ?_
  obtain ⟨g13, h⟩ := wgd h
  obtain ⟨g14, h⟩ := wgd h
  refine Vw.laload (pc := 8) K g13 g14 dX9_goBetween_8 ?_
  refine Vw.l2i (pc := 9) K dX9_goBetween_9 ?_
  refine Vw.iconst (pc := 10) (v := (1 : Int32)) K (by decide) dX9_goBetween_10 ?_
  refine Vw.isub (pc := 11) K dX9_goBetween_11 ?_
  refine Vw.istore (pc := 12) K dX9_goBetween_12 (by decide) ?_
  exact Vw.loc rfl (s_X9_goBetween_14 K E  _ _ _ _ h)
theorem cal_X9_goBetween : wCalV RX9 yX9_goBetween (.code yX9_goBetween cX9_goBetween 7 (some .int)) 2 := ⟨by decide +kernel, u_8_69, us_6_14, u_1_9, u_8_70⟩
def f_X9_endSession (A : Hp) (x0 : Nat) : Option (Int32 × Hp) := if (hsh A x0).1 = 8 then ((f_X9_goBetween (hsI A 452 x0 0 (0 : Int32)) x0 (-1 : Int64) (-1 : Int64)).bind fun p3 => some (p3.1, p3.2)) else none
set_option maxRecDepth 100000 in
theorem s_X9_endSession {l : Launch} {g : GT} (hl : l.stackTraces = false) {A : Hp} {x0 : Nat} {r : Int32} {B : Hp} (h : f_X9_endSession A x0 = some (r, B)) : MetV l g yX9_endSession (.code yX9_endSession cX9_endSession 1 (some .int)) [.inr (.inr x0)] A (.inl (some (.inl r))) B 3 71 0 0 := by
  refine MetV.ofV hl (by decide +kernel) (Nat.le_of_ble_eq_true rfl) (fun κ K E => ?_)
  have K : Cx κ cX9_endSession 1 RX9 3 71 0 0 := K
  have E : Ed κ (some .int) "endSession" (.inl (some (.inl r))) B 0 0 := E
  unfold f_X9_endSession at h
  change Vw κ A 0 0 0 [(0, .inr (.inr x0))] []
  refine Vw.aload_n (pc := 0) (x := x0) K dX9_endSession_0 rfl ?_
  refine Vw.iconst (pc := 1) (v := (0 : Int32)) K (by decide) dX9_endSession_1 ?_
  obtain ⟨g1, h⟩ := wgd h
  refine Vw.putI (pc := 2) (k := 4) (f := 452) K cls7 rfl rfl u_6_21 g1 (Or.inl rfl) rfl rfl dX9_endSession_2 ?_
  refine Vw.aload_n (pc := 5) (x := x0) K dX9_endSession_5 rfl ?_
  refine Vw.ldc2 (pc := 6) (v := (-1 : Int64)) K u_6_154 dX9_endSession_6 ?_
  refine Vw.ldc2 (pc := 9) (v := (-1 : Int64)) K u_6_154 dX9_endSession_9 ?_
  obtain ⟨p3, e2, h⟩ := wbd h
  refine Vw.cV1 (pc := 12) (v := .inl p3.1) (c' := 0) (n' := 0) K (s_X9_goBetween K.tr e2) cal_X9_goBetween cls7 u_8_67 g1 rfl ⟨by decide, by decide⟩ ⟨by decide, by decide⟩ rfl (Nat.le_of_ble_eq_true rfl) dX9_endSession_12 rfl rfl ?_
  exact Vw.iretH (pc := 15) K h E (by decide) (by decide) dX9_endSession_15
theorem cal_X9_endSession : wCalV RX9 yX9_endSession (.code yX9_endSession cX9_endSession 1 (some .int)) 0 := ⟨by decide +kernel, u_8_64, u_8_65, u_1_9, u_8_66⟩
def f_X9_advance (A : Hp) (x0 : Nat) (x1 : Int32) : Option (Int32 × Hp) := if (hsh A x0).1 = 8 then (if (0 : Int32) ≤ x1 then if (hsh (hsI A 452 x0 0 (0 : Int32)) (hgR (hsI A 452 x0 0 (0 : Int32)) 448 x0 0)).1 = 11 then if wix (0 : Int32) (hsh (hsI A 452 x0 0 (0 : Int32)) (hgR (hsI A 452 x0 0 (0 : Int32)) 448 x0 0)).2 then if (hsh (hsL (hsI A 452 x0 0 (0 : Int32)) 1035 (hgR (hsI A 452 x0 0 (0 : Int32)) 448 x0 0) (0 : Int32).toNatClampNeg ((hgL (hsI A 452 x0 0 (0 : Int32)) 1035 (hgR (hsI A 452 x0 0 (0 : Int32)) 448 x0 0) (0 : Int32).toNatClampNeg) + x1.toInt64)) (hgR (hsL (hsI A 452 x0 0 (0 : Int32)) 1035 (hgR (hsI A 452 x0 0 (0 : Int32)) 448 x0 0) (0 : Int32).toNatClampNeg ((hgL (hsI A 452 x0 0 (0 : Int32)) 1035 (hgR (hsI A 452 x0 0 (0 : Int32)) 448 x0 0) (0 : Int32).toNatClampNeg) + x1.toInt64)) 448 x0 0)).1 = 11 then if wix (0 : Int32) (hsh (hsL (hsI A 452 x0 0 (0 : Int32)) 1035 (hgR (hsI A 452 x0 0 (0 : Int32)) 448 x0 0) (0 : Int32).toNatClampNeg ((hgL (hsI A 452 x0 0 (0 : Int32)) 1035 (hgR (hsI A 452 x0 0 (0 : Int32)) 448 x0 0) (0 : Int32).toNatClampNeg) + x1.toInt64)) (hgR (hsL (hsI A 452 x0 0 (0 : Int32)) 1035 (hgR (hsI A 452 x0 0 (0 : Int32)) 448 x0 0) (0 : Int32).toNatClampNeg ((hgL (hsI A 452 x0 0 (0 : Int32)) 1035 (hgR (hsI A 452 x0 0 (0 : Int32)) 448 x0 0) (0 : Int32).toNatClampNeg) + x1.toInt64)) 448 x0 0)).2 then ((f_X9_goBetween (hsL (hsI A 452 x0 0 (0 : Int32)) 1035 (hgR (hsI A 452 x0 0 (0 : Int32)) 448 x0 0) (0 : Int32).toNatClampNeg ((hgL (hsI A 452 x0 0 (0 : Int32)) 1035 (hgR (hsI A 452 x0 0 (0 : Int32)) 448 x0 0) (0 : Int32).toNatClampNeg) + x1.toInt64)) x0 (0 : Int64) (hgL (hsL (hsI A 452 x0 0 (0 : Int32)) 1035 (hgR (hsI A 452 x0 0 (0 : Int32)) 448 x0 0) (0 : Int32).toNatClampNeg ((hgL (hsI A 452 x0 0 (0 : Int32)) 1035 (hgR (hsI A 452 x0 0 (0 : Int32)) 448 x0 0) (0 : Int32).toNatClampNeg) + x1.toInt64)) 1035 (hgR (hsL (hsI A 452 x0 0 (0 : Int32)) 1035 (hgR (hsI A 452 x0 0 (0 : Int32)) 448 x0 0) (0 : Int32).toNatClampNeg ((hgL (hsI A 452 x0 0 (0 : Int32)) 1035 (hgR (hsI A 452 x0 0 (0 : Int32)) 448 x0 0) (0 : Int32).toNatClampNeg) + x1.toInt64)) 448 x0 0) (0 : Int32).toNatClampNeg)).bind fun p8 => if (hsh p8.2 x0).1 = 8 then if (hsh p8.2 (hgR p8.2 448 x0 0)).1 = 11 then if wix (13 : Int32) (hsh p8.2 (hgR p8.2 448 x0 0)).2 then some (p8.1, (hsL p8.2 1035 (hgR p8.2 448 x0 0) (13 : Int32).toNatClampNeg ((hgL p8.2 1035 (hgR p8.2 448 x0 0) (13 : Int32).toNatClampNeg) + p8.1.toInt64))) else none else none else none) else none else none else none else none else ((f_X9_fails (hsI A 452 x0 0 (0 : Int32)) x0 (1 : Int32)).bind fun p13 => some (p13.1, p13.2))) else none
set_option maxRecDepth 100000 in
theorem s_X9_advance {l : Launch} {g : GT} (hl : l.stackTraces = false) {A : Hp} {x0 : Nat} {x1 : Int32} {r : Int32} {B : Hp} (h : f_X9_advance A x0 x1 = some (r, B)) : MetV l g yX9_advance (.code yX9_advance cX9_advance 3 (some .int)) [.inr (.inr x0), .inl x1] A (.inl (some (.inl r))) B 3 71 0 0 := by
  refine MetV.ofV hl (by decide +kernel) (Nat.le_of_ble_eq_true rfl) (fun κ K E => ?_)
  have K : Cx κ cX9_advance 3 RX9 3 71 0 0 := K
  have E : Ed κ (some .int) "advance" (.inl (some (.inl r))) B 0 0 := E
  unfold f_X9_advance at h
  change Vw κ A 0 0 0 [(0, .inr (.inr x0)), (1, .inl x1)] []
  refine Vw.aload_n (pc := 0) (x := x0) K dX9_advance_0 rfl ?_
  refine Vw.iconst (pc := 1) (v := (0 : Int32)) K (by decide) dX9_advance_1 ?_
  obtain ⟨g1, h⟩ := wgd h
  refine Vw.putI (pc := 2) (k := 4) (f := 452) K cls7 rfl rfl u_6_21 g1 (Or.inl rfl) rfl rfl dX9_advance_2 ?_
  refine Vw.iload_n (pc := 5) (x := x1) K dX9_advance_5 rfl ?_
  refine Vw.if_ge (pc := 6) (tgt := 15) K dX9_advance_6 (by decide) (fun c2 => ?_) (fun c2 => ?_)
  · have h := wpos c2 h
    refine Vw.aload_n (pc := 15) (x := x0) K dX9_advance_15 rfl ?_
    refine Vw.getR (pc := 16) (k := 0) (f := 448) K cls7 rfl rfl u_6_17 g1 dX9_advance_16 ?_
    refine Vw.iconst (pc := 19) (v := (0 : Int32)) K (by decide) dX9_advance_19 ?_
    refine Vw.dup2 (pc := 20) K rfl rfl dX9_advance_20 ?_
    obtain ⟨g3, h⟩ := wgd h
    obtain ⟨g4, h⟩ := wgd h
    refine Vw.laload (pc := 21) K g3 g4 dX9_advance_21 ?_
    refine Vw.iload_n (pc := 22) (x := x1) K dX9_advance_22 rfl ?_
    refine Vw.i2l (pc := 23) K dX9_advance_23 ?_
    refine Vw.ladd (pc := 24) K dX9_advance_24 ?_
    refine Vw.lastore (pc := 25) K g3 g4 dX9_advance_25 ?_
    refine Vw.aload_n (pc := 26) (x := x0) K dX9_advance_26 rfl ?_
    refine Vw.lconst (pc := 27) (v := (0 : Int64)) K (by decide) dX9_advance_27 ?_
    refine Vw.aload_n (pc := 28) (x := x0) K dX9_advance_28 rfl ?_
    refine Vw.getR (pc := 29) (k := 0) (f := 448) K cls7 rfl rfl u_6_17 g1 dX9_advance_29 ?_
    refine Vw.iconst (pc := 32) (v := (0 : Int32)) K (by decide) dX9_advance_32 ?_
    obtain ⟨g5, h⟩ := wgd h
    obtain ⟨g6, h⟩ := wgd h
    refine Vw.laload (pc := 33) K g5 g6 dX9_advance_33 ?_
    obtain ⟨p8, e7, h⟩ := wbd h
    refine Vw.cV1 (pc := 34) (v := .inl p8.1) (c' := 0) (n' := 0) K (s_X9_goBetween K.tr e7) cal_X9_goBetween cls7 u_8_67 g1 rfl ⟨by decide, by decide⟩ ⟨by decide, by decide⟩ rfl (Nat.le_of_ble_eq_true rfl) dX9_advance_34 rfl rfl ?_
    refine Vw.istore_n (pc := 37) K dX9_advance_37 (by decide) ?_
    refine Vw.aload_n (pc := 38) (x := x0) K dX9_advance_38 rfl ?_
    obtain ⟨g9, h⟩ := wgd h
    refine Vw.getR (pc := 39) (k := 0) (f := 448) K cls7 rfl rfl u_6_17 g9 dX9_advance_39 ?_
    refine Vw.bipush (pc := 42) (v := (13 : Int32)) K (by decide) dX9_advance_42 ?_
    refine Vw.dup2 (pc := 44) K rfl rfl dX9_advance_44 ?_
    obtain ⟨g10, h⟩ := wgd h
    obtain ⟨g11, h⟩ := wgd h
    refine Vw.laload (pc := 45) K g10 g11 dX9_advance_45 ?_
    refine Vw.iload_n (pc := 46) (x := p8.1) K dX9_advance_46 rfl ?_
    refine Vw.i2l (pc := 47) K dX9_advance_47 ?_
    refine Vw.ladd (pc := 48) K dX9_advance_48 ?_
    refine Vw.lastore (pc := 49) K g10 g11 dX9_advance_49 ?_
    refine Vw.iload_n (pc := 50) (x := p8.1) K dX9_advance_50 rfl ?_
    exact Vw.iretH (pc := 51) K h E (by decide) (by decide) dX9_advance_51
  · have h := wneg c2 h
    refine Vw.aload_n (pc := 9) (x := x0) K dX9_advance_9 rfl ?_
    refine Vw.iconst (pc := 10) (v := (1 : Int32)) K (by decide) dX9_advance_10 ?_
    obtain ⟨p13, e12, h⟩ := wbd h
    refine Vw.cV1 (pc := 11) (v := .inl p13.1) (c' := 0) (n' := 0) K (s_X9_fails K.tr e12) cal_X9_fails cls7 u_6_214 g1 rfl ⟨by decide, by decide⟩ ⟨by decide, by decide⟩ rfl (Nat.le_of_ble_eq_true rfl) dX9_advance_11 rfl rfl ?_
    exact Vw.iretH (pc := 14) K h E (by decide) (by decide) dX9_advance_14
theorem cal_X9_advance : wCalV RX9 yX9_advance (.code yX9_advance cX9_advance 3 (some .int)) 1 := ⟨by decide +kernel, u_8_72, u_8_73, u_1_9, u_8_74⟩
def f_X9_time (A : Hp) (x0 : Nat) : Option (Int64 × Hp) := if (hsh A x0).1 = 8 then if (hsh (hsI A 452 x0 0 (0 : Int32)) (hgR (hsI A 452 x0 0 (0 : Int32)) 448 x0 0)).1 = 11 then if wix (0 : Int32) (hsh (hsI A 452 x0 0 (0 : Int32)) (hgR (hsI A 452 x0 0 (0 : Int32)) 448 x0 0)).2 then some ((hgL (hsI A 452 x0 0 (0 : Int32)) 1035 (hgR (hsI A 452 x0 0 (0 : Int32)) 448 x0 0) (0 : Int32).toNatClampNeg), (hsI A 452 x0 0 (0 : Int32))) else none else none else none
set_option maxRecDepth 100000 in
theorem s_X9_time {l : Launch} {g : GT} (hl : l.stackTraces = false) {A : Hp} {x0 : Nat} {r : Int64} {B : Hp} (h : f_X9_time A x0 = some (r, B)) : MetV l g yX9_time (.code yX9_time cX9_time 1 (some .long)) [.inr (.inr x0)] A (.inl (some (.inr (.inl r)))) B 0 0 0 0 := by
  refine MetV.ofV hl (by decide +kernel) (Nat.le_of_ble_eq_true rfl) (fun κ K E => ?_)
  have K : Cx κ cX9_time 1 RX9 0 0 0 0 := K
  have E : Ed κ (some .long) "time" (.inl (some (.inr (.inl r)))) B 0 0 := E
  unfold f_X9_time at h
  change Vw κ A 0 0 0 [(0, .inr (.inr x0))] []
  refine Vw.aload_n (pc := 0) (x := x0) K dX9_time_0 rfl ?_
  refine Vw.iconst (pc := 1) (v := (0 : Int32)) K (by decide) dX9_time_1 ?_
  obtain ⟨g1, h⟩ := wgd h
  refine Vw.putI (pc := 2) (k := 4) (f := 452) K cls7 rfl rfl u_6_21 g1 (Or.inl rfl) rfl rfl dX9_time_2 ?_
  refine Vw.aload_n (pc := 5) (x := x0) K dX9_time_5 rfl ?_
  refine Vw.getR (pc := 6) (k := 0) (f := 448) K cls7 rfl rfl u_6_17 g1 dX9_time_6 ?_
  refine Vw.iconst (pc := 9) (v := (0 : Int32)) K (by decide) dX9_time_9 ?_
  obtain ⟨g2, h⟩ := wgd h
  obtain ⟨g3, h⟩ := wgd h
  refine Vw.laload (pc := 10) K g2 g3 dX9_time_10 ?_
  exact Vw.lretH (pc := 11) K h E (by decide) (by decide) dX9_time_11
theorem cal_X9_time : wCalV RX9 yX9_time (.code yX9_time cX9_time 1 (some .long)) 0 := ⟨by decide +kernel, u_8_76, u_8_77, u_1_9, u_8_78⟩
def k_X9_nextExpiry_62 (rec11 : Hp → Int64 → Int32 → Option (Int64 × Hp)) (A : Hp) (x0 : Nat) (x3 : Int32) (t0 : Int64) : Option (Int64 × Hp) := rec11 A t0 (x3 + (1 : Int32))
set_option maxRecDepth 100000 in
theorem s_X9_nextExpiry_62 {κ : KT} {r : Int64} {B : Hp} {A : Hp} {x0 : Nat} {x3 : Int32} {t0 : Int64} {rec11 : Hp → Int64 → Int32 → Option (Int64 × Hp)} (K : Cx κ cX9_nextExpiry 6 RX9 1 20 0 0) (E : Ed κ (some .long) "nextExpiry" (.inl (some (.inr (.inl r)))) B 0 0) (hr11 : ∀ (A : Hp) (x1 : Int64) (x3 : Int32), rec11 A x1 x3 = some (r, B) → Vw κ A 0 0 11 [(0, .inr (.inr x0)), (1, .inr (.inl x1)), (3, .inl x3)] []) (h : k_X9_nextExpiry_62 rec11 A x0 x3 t0 = some (r, B)) : Vw κ A 0 0 62 [(0, .inr (.inr x0)), (3, .inl x3)] [.inr (.inl t0)] := by
  unfold k_X9_nextExpiry_62 at h
  refine Vw.lstore_n (pc := 62) K dX9_nextExpiry_62 (by decide) ?_
  refine Vw.iinc (pc := 63) (x := x3) (v := (1 : Int32)) K dX9_nextExpiry_63 rfl (by decide) (by decide) ?_
  refine Vw.goto (pc := 66) (tgt := 11) K dX9_nextExpiry_66 (by decide) ?_
  exact Vw.loc rfl (hr11 _ _ _ h)
def k_X9_nextExpiry_61 (rec11 : Hp → Int64 → Int32 → Option (Int64 × Hp)) (A : Hp) (x0 : Nat) (x1 : Int64) (x3 : Int32)  : Option (Int64 × Hp) := k_X9_nextExpiry_62 rec11 A x0 x3 x1
set_option maxRecDepth 100000 in
theorem s_X9_nextExpiry_61 {κ : KT} {r : Int64} {B : Hp} {A : Hp} {x0 : Nat} {x1 : Int64} {x3 : Int32}  {rec11 : Hp → Int64 → Int32 → Option (Int64 × Hp)} (K : Cx κ cX9_nextExpiry 6 RX9 1 20 0 0) (E : Ed κ (some .long) "nextExpiry" (.inl (some (.inr (.inl r)))) B 0 0) (hr11 : ∀ (A : Hp) (x1 : Int64) (x3 : Int32), rec11 A x1 x3 = some (r, B) → Vw κ A 0 0 11 [(0, .inr (.inr x0)), (1, .inr (.inl x1)), (3, .inl x3)] []) (h : k_X9_nextExpiry_61 rec11 A x0 x1 x3  = some (r, B)) : Vw κ A 0 0 61 [(0, .inr (.inr x0)), (1, .inr (.inl x1)), (3, .inl x3)] [] := by
  unfold k_X9_nextExpiry_61 at h
  refine Vw.lload_n (pc := 61) (x := x1) K dX9_nextExpiry_61 rfl ?_
  exact Vw.loc rfl (s_X9_nextExpiry_62 K E hr11 h)
def k_X9_nextExpiry_56 (rec11 : Hp → Int64 → Int32 → Option (Int64 × Hp)) (A : Hp) (x0 : Nat) (x3 : Int32) (x4 : Int64)  : Option (Int64 × Hp) := k_X9_nextExpiry_62 rec11 A x0 x3 x4
set_option maxRecDepth 100000 in
theorem s_X9_nextExpiry_56 {κ : KT} {r : Int64} {B : Hp} {A : Hp} {x0 : Nat} {x3 : Int32} {x4 : Int64}  {rec11 : Hp → Int64 → Int32 → Option (Int64 × Hp)} (K : Cx κ cX9_nextExpiry 6 RX9 1 20 0 0) (E : Ed κ (some .long) "nextExpiry" (.inl (some (.inr (.inl r)))) B 0 0) (hr11 : ∀ (A : Hp) (x1 : Int64) (x3 : Int32), rec11 A x1 x3 = some (r, B) → Vw κ A 0 0 11 [(0, .inr (.inr x0)), (1, .inr (.inl x1)), (3, .inl x3)] []) (h : k_X9_nextExpiry_56 rec11 A x0 x3 x4  = some (r, B)) : Vw κ A 0 0 56 [(0, .inr (.inr x0)), (3, .inl x3), (4, .inr (.inl x4))] [] := by
  unfold k_X9_nextExpiry_56 at h
  refine Vw.lload (pc := 56) (x := x4) K dX9_nextExpiry_56 rfl ?_
  refine Vw.goto (pc := 58) (tgt := 62) K dX9_nextExpiry_58 (by decide) ?_
  exact Vw.loc rfl (s_X9_nextExpiry_62 K E hr11 h)
def k_X9_nextExpiry_11s  (x0 : Nat)  (rec11 : Hp → Int64 → Int32 → Option (Int64 × Hp)) (A : Hp) (x1 : Int64) (x3 : Int32) : Option (Int64 × Hp) := if (hsh A x0).1 = 8 then if (hsh A (hgR A 448 x0 0)).1 = 11 then if wix (5 : Int32) (hsh A (hgR A 448 x0 0)).2 then (if (hgL A 1035 (hgR A 448 x0 0) (5 : Int32).toNatClampNeg) ≤ x3.toInt64 then some (x1, A) else ((f_X9_cookie A x3).bind fun v6 => if wix (v6 + (4 : Int32)) (hsh A (hgR A 448 x0 0)).2 then (if (hgL A 1035 (hgR A 448 x0 0) (v6 + (4 : Int32)).toNatClampNeg) < (0 : Int64) then k_X9_nextExpiry_61 rec11 A x0 x1 x3 else (if x1 < (0 : Int64) then k_X9_nextExpiry_56 rec11 A x0 x3 (hgL A 1035 (hgR A 448 x0 0) (v6 + (4 : Int32)).toNatClampNeg) else (if x1 ≤ (hgL A 1035 (hgR A 448 x0 0) (v6 + (4 : Int32)).toNatClampNeg) then k_X9_nextExpiry_61 rec11 A x0 x1 x3 else k_X9_nextExpiry_56 rec11 A x0 x3 (hgL A 1035 (hgR A 448 x0 0) (v6 + (4 : Int32)).toNatClampNeg)))) else none)) else none else none else none
def k_X9_nextExpiry_11  (x0 : Nat)  : Nat → Hp → Int64 → Int32 → Option (Int64 × Hp)
  | 0 => fun _ _ _ => none
  | fu + 1 => k_X9_nextExpiry_11s x0  (k_X9_nextExpiry_11 x0  fu)
set_option maxRecDepth 100000 in
theorem s_X9_nextExpiry_11 {κ : KT} {r : Int64} {B : Hp}  {x0 : Nat}  (K : Cx κ cX9_nextExpiry 6 RX9 1 20 0 0) (E : Ed κ (some .long) "nextExpiry" (.inl (some (.inr (.inl r)))) B 0 0)  : ∀ (fu : Nat) (A : Hp) (x1 : Int64) (x3 : Int32),  k_X9_nextExpiry_11 x0  fu A x1 x3 = some (r, B) → Vw κ A 0 0 11 [(0, .inr (.inr x0)), (1, .inr (.inl x1)), (3, .inl x3)] [] := by
  intro fu
  induction fu with
  | zero => intro A x1 x3 h; cases h
  | succ fu hr11 =>
    intro A x1 x3 h
    have h : k_X9_nextExpiry_11s x0  (k_X9_nextExpiry_11 x0  fu) A x1 x3 = some (r, B) := h
    unfold k_X9_nextExpiry_11s at h
    refine Vw.iload_n (pc := 11) (x := x3) K dX9_nextExpiry_11 rfl ?_
    refine Vw.i2l (pc := 12) K dX9_nextExpiry_12 ?_
    refine Vw.aload_n (pc := 13) (x := x0) K dX9_nextExpiry_13 rfl ?_
    obtain ⟨g1, h⟩ := wgd h
    refine Vw.getR (pc := 14) (k := 0) (f := 448) K cls7 rfl rfl u_6_17 g1 dX9_nextExpiry_14 ?_
    refine Vw.iconst (pc := 17) (v := (5 : Int32)) K (by decide) dX9_nextExpiry_17 ?_
    obtain ⟨g2, h⟩ := wgd h
    obtain ⟨g3, h⟩ := wgd h
    refine Vw.laload (pc := 18) K g2 g3 dX9_nextExpiry_18 ?_
    refine Vw.lcmp_ge (pc := 19) (tgt := 69) K dX9_nextExpiry_19 dX9_nextExpiry_20 (by decide) (fun c4 => ?_) (fun c4 => ?_)
    · have h := wpos c4 h
      refine Vw.lload_n (pc := 69) (x := x1) K dX9_nextExpiry_69 rfl ?_
      exact Vw.lretH (pc := 70) K h E (by decide) (by decide) dX9_nextExpiry_70
    · have h := wneg c4 h
      refine Vw.aload_n (pc := 23) (x := x0) K dX9_nextExpiry_23 rfl ?_
      refine Vw.getR (pc := 24) (k := 0) (f := 448) K cls7 rfl rfl u_6_17 g1 dX9_nextExpiry_24 ?_
      refine Vw.iload_n (pc := 27) (x := x3) K dX9_nextExpiry_27 rfl ?_
      obtain ⟨v6, e5, h⟩ := wbd h
      refine Vw.cS1 (pc := 28) (v := .inl v6) (c' := 0) (n' := 0) K (s_X9_cookie K.tr e5) cal_X9_cookie u_7_102 rfl ⟨by decide, by decide⟩ ⟨by decide, by decide⟩ rfl (Nat.le_of_ble_eq_true rfl) dX9_nextExpiry_28 rfl rfl ?_
      refine Vw.iconst (pc := 31) (v := (4 : Int32)) K (by decide) dX9_nextExpiry_31 ?_
      refine Vw.iadd (pc := 32) K dX9_nextExpiry_32 ?_
      obtain ⟨g7, h⟩ := wgd h
      refine Vw.laload (pc := 33) K g2 g7 dX9_nextExpiry_33 ?_
      refine Vw.lstore (pc := 34) K dX9_nextExpiry_34 (by decide) ?_
      refine Vw.lload (pc := 36) (x := (hgL A 1035 (hgR A 448 x0 0) (v6 + (4 : Int32)).toNatClampNeg)) K dX9_nextExpiry_36 rfl ?_
      refine Vw.lconst (pc := 38) (v := (0 : Int64)) K (by decide) dX9_nextExpiry_38 ?_
      refine Vw.lcmp_lt (pc := 39) (tgt := 61) K dX9_nextExpiry_39 dX9_nextExpiry_40 (by decide) (fun c8 => ?_) (fun c8 => ?_)
      · have h := wpos c8 h
        exact Vw.loc rfl (s_X9_nextExpiry_61 K E hr11 h)
      · have h := wneg c8 h
        refine Vw.lload_n (pc := 43) (x := x1) K dX9_nextExpiry_43 rfl ?_
        refine Vw.lconst (pc := 44) (v := (0 : Int64)) K (by decide) dX9_nextExpiry_44 ?_
        refine Vw.lcmp_lt (pc := 45) (tgt := 56) K dX9_nextExpiry_45 dX9_nextExpiry_46 (by decide) (fun c9 => ?_) (fun c9 => ?_)
        · have h := wpos c9 h
          exact Vw.loc rfl (s_X9_nextExpiry_56 K E hr11 h)
        · have h := wneg c9 h
          refine Vw.lload (pc := 49) (x := (hgL A 1035 (hgR A 448 x0 0) (v6 + (4 : Int32)).toNatClampNeg)) K dX9_nextExpiry_49 rfl ?_
          refine Vw.lload_n (pc := 51) (x := x1) K dX9_nextExpiry_51 rfl ?_
          refine Vw.lcmp_ge (pc := 52) (tgt := 61) K dX9_nextExpiry_52 dX9_nextExpiry_53 (by decide) (fun c10 => ?_) (fun c10 => ?_)
          · have h := wpos c10 h
            exact Vw.loc rfl (s_X9_nextExpiry_61 K E hr11 h)
          · have h := wneg c10 h
            exact Vw.loc rfl (s_X9_nextExpiry_56 K E hr11 h)
def f_X9_nextExpiry (A : Hp) (x0 : Nat) : Option (Int64 × Hp) := if (hsh A x0).1 = 8 then k_X9_nextExpiry_11 x0 FU (hsI A 452 x0 0 (0 : Int32)) (-1 : Int64) (0 : Int32) else none
set_option maxRecDepth 100000 in
theorem s_X9_nextExpiry {l : Launch} {g : GT} (hl : l.stackTraces = false) {A : Hp} {x0 : Nat} {r : Int64} {B : Hp} (h : f_X9_nextExpiry A x0 = some (r, B)) : MetV l g yX9_nextExpiry (.code yX9_nextExpiry cX9_nextExpiry 6 (some .long)) [.inr (.inr x0)] A (.inl (some (.inr (.inl r)))) B 1 20 0 0 := by
  refine MetV.ofV hl (by decide +kernel) (Nat.le_of_ble_eq_true rfl) (fun κ K E => ?_)
  have K : Cx κ cX9_nextExpiry 6 RX9 1 20 0 0 := K
  have E : Ed κ (some .long) "nextExpiry" (.inl (some (.inr (.inl r)))) B 0 0 := E
  unfold f_X9_nextExpiry at h
  change Vw κ A 0 0 0 [(0, .inr (.inr x0))] []
  refine Vw.aload_n (pc := 0) (x := x0) K dX9_nextExpiry_0 rfl ?_
  refine Vw.iconst (pc := 1) (v := (0 : Int32)) K (by decide) dX9_nextExpiry_1 ?_
  obtain ⟨g11, h⟩ := wgd h
  refine Vw.putI (pc := 2) (k := 4) (f := 452) K cls7 rfl rfl u_6_21 g11 (Or.inl rfl) rfl rfl dX9_nextExpiry_2 ?_
  refine Vw.ldc2 (pc := 5) (v := (-1 : Int64)) K u_6_154 dX9_nextExpiry_5 ?_
  refine Vw.lstore_n (pc := 8) K dX9_nextExpiry_8 (by decide) ?_
  refine Vw.iconst (pc := 9) (v := (0 : Int32)) K (by decide) dX9_nextExpiry_9 ?_
  refine Vw.istore_n (pc := 10) K dX9_nextExpiry_10 (by decide) ?_
  exact Vw.loc rfl (s_X9_nextExpiry_11 K E  _ _ _ _ h)
theorem cal_X9_nextExpiry : wCalV RX9 yX9_nextExpiry (.code yX9_nextExpiry cX9_nextExpiry 6 (some .long)) 0 := ⟨by decide +kernel, u_8_80, u_8_81, u_1_9, u_8_82⟩
def f_X9_setLimit (A : Hp) (x0 : Nat) (x1 : Int32) (x2 : Int32) : Option (Int32 × Hp) := if (hsh A x0).1 = 8 then ((f_X9_in (hsI A 452 x0 0 (0 : Int32)) x1.toInt64 (0 : Int64) (1 : Int64)).bind fun v3 => (if v3 = (0 : Int32) then ((f_X9_fails (hsI A 452 x0 0 (0 : Int32)) x0 (1 : Int32)).bind fun p13 => some (p13.1, p13.2)) else ((f_X9_in (hsI A 452 x0 0 (0 : Int32)) x2.toInt64 (1 : Int64) (40 : Int64)).bind fun v6 => (if v6 = (0 : Int32) then ((f_X9_fails (hsI A 452 x0 0 (0 : Int32)) x0 (2 : Int32)).bind fun p11 => some (p11.1, p11.2)) else if (hsh (hsI A 452 x0 0 (0 : Int32)) (hgR (hsI A 452 x0 0 (0 : Int32)) 448 x0 0)).1 = 11 then if wix ((2 : Int32) + x1) (hsh (hsI A 452 x0 0 (0 : Int32)) (hgR (hsI A 452 x0 0 (0 : Int32)) 448 x0 0)).2 then some ((hgL (hsI A 452 x0 0 (0 : Int32)) 1035 (hgR (hsI A 452 x0 0 (0 : Int32)) 448 x0 0) ((2 : Int32) + x1).toNatClampNeg).toInt32, (hsL (hsI A 452 x0 0 (0 : Int32)) 1035 (hgR (hsI A 452 x0 0 (0 : Int32)) 448 x0 0) ((2 : Int32) + x1).toNatClampNeg x2.toInt64)) else none else none)))) else none
set_option maxRecDepth 100000 in
theorem s_X9_setLimit {l : Launch} {g : GT} (hl : l.stackTraces = false) {A : Hp} {x0 : Nat} {x1 : Int32} {x2 : Int32} {r : Int32} {B : Hp} (h : f_X9_setLimit A x0 x1 x2 = some (r, B)) : MetV l g yX9_setLimit (.code yX9_setLimit cX9_setLimit 4 (some .int)) [.inr (.inr x0), .inl x1, .inl x2] A (.inl (some (.inl r))) B 1 25 0 0 := by
  refine MetV.ofV hl (by decide +kernel) (Nat.le_of_ble_eq_true rfl) (fun κ K E => ?_)
  have K : Cx κ cX9_setLimit 4 RX9 1 25 0 0 := K
  have E : Ed κ (some .int) "setLimit" (.inl (some (.inl r))) B 0 0 := E
  unfold f_X9_setLimit at h
  change Vw κ A 0 0 0 [(0, .inr (.inr x0)), (1, .inl x1), (2, .inl x2)] []
  refine Vw.aload_n (pc := 0) (x := x0) K dX9_setLimit_0 rfl ?_
  refine Vw.iconst (pc := 1) (v := (0 : Int32)) K (by decide) dX9_setLimit_1 ?_
  obtain ⟨g1, h⟩ := wgd h
  refine Vw.putI (pc := 2) (k := 4) (f := 452) K cls7 rfl rfl u_6_21 g1 (Or.inl rfl) rfl rfl dX9_setLimit_2 ?_
  refine Vw.iload_n (pc := 5) (x := x1) K dX9_setLimit_5 rfl ?_
  refine Vw.i2l (pc := 6) K dX9_setLimit_6 ?_
  refine Vw.lconst (pc := 7) (v := (0 : Int64)) K (by decide) dX9_setLimit_7 ?_
  refine Vw.lconst (pc := 8) (v := (1 : Int64)) K (by decide) dX9_setLimit_8 ?_
  obtain ⟨v3, e2, h⟩ := wbd h
  refine Vw.cS1 (pc := 9) (v := .inl v3) (c' := 0) (n' := 0) K (s_X9_in K.tr e2) cal_X9_in u_6_161 rfl ⟨by decide, by decide⟩ ⟨by decide, by decide⟩ rfl (Nat.le_of_ble_eq_true rfl) dX9_setLimit_9 rfl rfl ?_
  refine Vw.if_ne (pc := 12) (tgt := 21) K dX9_setLimit_12 (by decide) (fun c4 => ?_) (fun c4 => ?_)
  · have h := wneg c4 h
    refine Vw.iload_n (pc := 21) (x := x2) K dX9_setLimit_21 rfl ?_
    refine Vw.i2l (pc := 22) K dX9_setLimit_22 ?_
    refine Vw.lconst (pc := 23) (v := (1 : Int64)) K (by decide) dX9_setLimit_23 ?_
    refine Vw.ldc2 (pc := 24) (v := (40 : Int64)) K u_7_81 dX9_setLimit_24 ?_
    obtain ⟨v6, e5, h⟩ := wbd h
    refine Vw.cS1 (pc := 27) (v := .inl v6) (c' := 0) (n' := 0) K (s_X9_in K.tr e5) cal_X9_in u_6_161 rfl ⟨by decide, by decide⟩ ⟨by decide, by decide⟩ rfl (Nat.le_of_ble_eq_true rfl) dX9_setLimit_27 rfl rfl ?_
    refine Vw.if_ne (pc := 30) (tgt := 39) K dX9_setLimit_30 (by decide) (fun c7 => ?_) (fun c7 => ?_)
    · have h := wneg c7 h
      refine Vw.aload_n (pc := 39) (x := x0) K dX9_setLimit_39 rfl ?_
      refine Vw.getR (pc := 40) (k := 0) (f := 448) K cls7 rfl rfl u_6_17 g1 dX9_setLimit_40 ?_
      refine Vw.iconst (pc := 43) (v := (2 : Int32)) K (by decide) dX9_setLimit_43 ?_
      refine Vw.iload_n (pc := 44) (x := x1) K dX9_setLimit_44 rfl ?_
      refine Vw.iadd (pc := 45) K dX9_setLimit_45 ?_
      obtain ⟨g8, h⟩ := wgd h
      obtain ⟨g9, h⟩ := wgd h
      refine Vw.laload (pc := 46) K g8 g9 dX9_setLimit_46 ?_
      refine Vw.l2i (pc := 47) K dX9_setLimit_47 ?_
      refine Vw.istore_n (pc := 48) K dX9_setLimit_48 (by decide) ?_
      refine Vw.aload_n (pc := 49) (x := x0) K dX9_setLimit_49 rfl ?_
      refine Vw.getR (pc := 50) (k := 0) (f := 448) K cls7 rfl rfl u_6_17 g1 dX9_setLimit_50 ?_
      refine Vw.iconst (pc := 53) (v := (2 : Int32)) K (by decide) dX9_setLimit_53 ?_
      refine Vw.iload_n (pc := 54) (x := x1) K dX9_setLimit_54 rfl ?_
      refine Vw.iadd (pc := 55) K dX9_setLimit_55 ?_
      refine Vw.iload_n (pc := 56) (x := x2) K dX9_setLimit_56 rfl ?_
      refine Vw.i2l (pc := 57) K dX9_setLimit_57 ?_
      refine Vw.lastore (pc := 58) K g8 g9 dX9_setLimit_58 ?_
      refine Vw.iload_n (pc := 59) (x := (hgL (hsI A 452 x0 0 (0 : Int32)) 1035 (hgR (hsI A 452 x0 0 (0 : Int32)) 448 x0 0) ((2 : Int32) + x1).toNatClampNeg).toInt32) K dX9_setLimit_59 rfl ?_
      exact Vw.iretH (pc := 60) K h E (by decide) (by decide) dX9_setLimit_60
    · have h := wpos c7 h
      refine Vw.aload_n (pc := 33) (x := x0) K dX9_setLimit_33 rfl ?_
      refine Vw.iconst (pc := 34) (v := (2 : Int32)) K (by decide) dX9_setLimit_34 ?_
      obtain ⟨p11, e10, h⟩ := wbd h
      refine Vw.cV1 (pc := 35) (v := .inl p11.1) (c' := 0) (n' := 0) K (s_X9_fails K.tr e10) cal_X9_fails cls7 u_6_214 g1 rfl ⟨by decide, by decide⟩ ⟨by decide, by decide⟩ rfl (Nat.le_of_ble_eq_true rfl) dX9_setLimit_35 rfl rfl ?_
      exact Vw.iretH (pc := 38) K h E (by decide) (by decide) dX9_setLimit_38
  · have h := wpos c4 h
    refine Vw.aload_n (pc := 15) (x := x0) K dX9_setLimit_15 rfl ?_
    refine Vw.iconst (pc := 16) (v := (1 : Int32)) K (by decide) dX9_setLimit_16 ?_
    obtain ⟨p13, e12, h⟩ := wbd h
    refine Vw.cV1 (pc := 17) (v := .inl p13.1) (c' := 0) (n' := 0) K (s_X9_fails K.tr e12) cal_X9_fails cls7 u_6_214 g1 rfl ⟨by decide, by decide⟩ ⟨by decide, by decide⟩ rfl (Nat.le_of_ble_eq_true rfl) dX9_setLimit_17 rfl rfl ?_
    exact Vw.iretH (pc := 20) K h E (by decide) (by decide) dX9_setLimit_20
theorem cal_X9_setLimit : wCalV RX9 yX9_setLimit (.code yX9_setLimit cX9_setLimit 4 (some .int)) 2 := ⟨by decide +kernel, u_8_84, u_8_85, u_1_9, u_8_86⟩
def f_X9_setPolicy (A : Hp) (x0 : Nat) (x1 : Int32) : Option (Int32 × Hp) := if (hsh A x0).1 = 8 then ((f_X9_in (hsI A 452 x0 0 (0 : Int32)) x1.toInt64 (0 : Int64) (3 : Int64)).bind fun v3 => (if v3 = (0 : Int32) then ((f_X9_fails (hsI A 452 x0 0 (0 : Int32)) x0 (1 : Int32)).bind fun p8 => some (p8.1, p8.2)) else if (hsh (hsI A 452 x0 0 (0 : Int32)) (hgR (hsI A 452 x0 0 (0 : Int32)) 448 x0 0)).1 = 11 then if wix (4 : Int32) (hsh (hsI A 452 x0 0 (0 : Int32)) (hgR (hsI A 452 x0 0 (0 : Int32)) 448 x0 0)).2 then some ((hgL (hsI A 452 x0 0 (0 : Int32)) 1035 (hgR (hsI A 452 x0 0 (0 : Int32)) 448 x0 0) (4 : Int32).toNatClampNeg).toInt32, (hsL (hsI A 452 x0 0 (0 : Int32)) 1035 (hgR (hsI A 452 x0 0 (0 : Int32)) 448 x0 0) (4 : Int32).toNatClampNeg x1.toInt64)) else none else none)) else none
set_option maxRecDepth 100000 in
theorem s_X9_setPolicy {l : Launch} {g : GT} (hl : l.stackTraces = false) {A : Hp} {x0 : Nat} {x1 : Int32} {r : Int32} {B : Hp} (h : f_X9_setPolicy A x0 x1 = some (r, B)) : MetV l g yX9_setPolicy (.code yX9_setPolicy cX9_setPolicy 3 (some .int)) [.inr (.inr x0), .inl x1] A (.inl (some (.inl r))) B 1 25 0 0 := by
  refine MetV.ofV hl (by decide +kernel) (Nat.le_of_ble_eq_true rfl) (fun κ K E => ?_)
  have K : Cx κ cX9_setPolicy 3 RX9 1 25 0 0 := K
  have E : Ed κ (some .int) "setPolicy" (.inl (some (.inl r))) B 0 0 := E
  unfold f_X9_setPolicy at h
  change Vw κ A 0 0 0 [(0, .inr (.inr x0)), (1, .inl x1)] []
  refine Vw.aload_n (pc := 0) (x := x0) K dX9_setPolicy_0 rfl ?_
  refine Vw.iconst (pc := 1) (v := (0 : Int32)) K (by decide) dX9_setPolicy_1 ?_
  obtain ⟨g1, h⟩ := wgd h
  refine Vw.putI (pc := 2) (k := 4) (f := 452) K cls7 rfl rfl u_6_21 g1 (Or.inl rfl) rfl rfl dX9_setPolicy_2 ?_
  refine Vw.iload_n (pc := 5) (x := x1) K dX9_setPolicy_5 rfl ?_
  refine Vw.i2l (pc := 6) K dX9_setPolicy_6 ?_
  refine Vw.lconst (pc := 7) (v := (0 : Int64)) K (by decide) dX9_setPolicy_7 ?_
  refine Vw.ldc2 (pc := 8) (v := (3 : Int64)) K u_8_91 dX9_setPolicy_8 ?_
  obtain ⟨v3, e2, h⟩ := wbd h
  refine Vw.cS1 (pc := 11) (v := .inl v3) (c' := 0) (n' := 0) K (s_X9_in K.tr e2) cal_X9_in u_6_161 rfl ⟨by decide, by decide⟩ ⟨by decide, by decide⟩ rfl (Nat.le_of_ble_eq_true rfl) dX9_setPolicy_11 rfl rfl ?_
  refine Vw.if_ne (pc := 14) (tgt := 23) K dX9_setPolicy_14 (by decide) (fun c4 => ?_) (fun c4 => ?_)
  · have h := wneg c4 h
    refine Vw.aload_n (pc := 23) (x := x0) K dX9_setPolicy_23 rfl ?_
    refine Vw.getR (pc := 24) (k := 0) (f := 448) K cls7 rfl rfl u_6_17 g1 dX9_setPolicy_24 ?_
    refine Vw.iconst (pc := 27) (v := (4 : Int32)) K (by decide) dX9_setPolicy_27 ?_
    obtain ⟨g5, h⟩ := wgd h
    obtain ⟨g6, h⟩ := wgd h
    refine Vw.laload (pc := 28) K g5 g6 dX9_setPolicy_28 ?_
    refine Vw.l2i (pc := 29) K dX9_setPolicy_29 ?_
    refine Vw.istore_n (pc := 30) K dX9_setPolicy_30 (by decide) ?_
    refine Vw.aload_n (pc := 31) (x := x0) K dX9_setPolicy_31 rfl ?_
    refine Vw.getR (pc := 32) (k := 0) (f := 448) K cls7 rfl rfl u_6_17 g1 dX9_setPolicy_32 ?_
    refine Vw.iconst (pc := 35) (v := (4 : Int32)) K (by decide) dX9_setPolicy_35 ?_
    refine Vw.iload_n (pc := 36) (x := x1) K dX9_setPolicy_36 rfl ?_
    refine Vw.i2l (pc := 37) K dX9_setPolicy_37 ?_
    refine Vw.lastore (pc := 38) K g5 g6 dX9_setPolicy_38 ?_
    refine Vw.iload_n (pc := 39) (x := (hgL (hsI A 452 x0 0 (0 : Int32)) 1035 (hgR (hsI A 452 x0 0 (0 : Int32)) 448 x0 0) (4 : Int32).toNatClampNeg).toInt32) K dX9_setPolicy_39 rfl ?_
    exact Vw.iretH (pc := 40) K h E (by decide) (by decide) dX9_setPolicy_40
  · have h := wpos c4 h
    refine Vw.aload_n (pc := 17) (x := x0) K dX9_setPolicy_17 rfl ?_
    refine Vw.iconst (pc := 18) (v := (1 : Int32)) K (by decide) dX9_setPolicy_18 ?_
    obtain ⟨p8, e7, h⟩ := wbd h
    refine Vw.cV1 (pc := 19) (v := .inl p8.1) (c' := 0) (n' := 0) K (s_X9_fails K.tr e7) cal_X9_fails cls7 u_6_214 g1 rfl ⟨by decide, by decide⟩ ⟨by decide, by decide⟩ rfl (Nat.le_of_ble_eq_true rfl) dX9_setPolicy_19 rfl rfl ?_
    exact Vw.iretH (pc := 22) K h E (by decide) (by decide) dX9_setPolicy_22
theorem cal_X9_setPolicy : wCalV RX9 yX9_setPolicy (.code yX9_setPolicy cX9_setPolicy 3 (some .int)) 1 := ⟨by decide +kernel, u_8_88, u_8_89, u_1_9, u_8_90⟩
def f_X9_victim (A : Hp) (x0 : Nat) : Option (Int32 × Hp) := if (hsh A x0).1 = 8 then ((f_X9_victimBut (hsI A 452 x0 0 (0 : Int32)) x0 (-1 : Int64) (0 : Int32)).bind fun v3 => (if (0 : Int32) ≤ v3 then ((f_X9_indexOf (hsI A 452 x0 0 (0 : Int32)) x0 v3).bind fun v6 => some (v6, (hsI A 452 x0 0 (0 : Int32)))) else some ((-1 : Int32), (hsI A 452 x0 0 (0 : Int32))))) else none
set_option maxRecDepth 100000 in
theorem s_X9_victim {l : Launch} {g : GT} (hl : l.stackTraces = false) {A : Hp} {x0 : Nat} {r : Int32} {B : Hp} (h : f_X9_victim A x0 = some (r, B)) : MetV l g yX9_victim (.code yX9_victim cX9_victim 2 (some .int)) [.inr (.inr x0)] A (.inl (some (.inl r))) B 7 173 0 0 := by
  refine MetV.ofV hl (by decide +kernel) (Nat.le_of_ble_eq_true rfl) (fun κ K E => ?_)
  have K : Cx κ cX9_victim 2 RX9 7 173 0 0 := K
  have E : Ed κ (some .int) "victim" (.inl (some (.inl r))) B 0 0 := E
  unfold f_X9_victim at h
  change Vw κ A 0 0 0 [(0, .inr (.inr x0))] []
  refine Vw.aload_n (pc := 0) (x := x0) K dX9_victim_0 rfl ?_
  refine Vw.iconst (pc := 1) (v := (0 : Int32)) K (by decide) dX9_victim_1 ?_
  obtain ⟨g1, h⟩ := wgd h
  refine Vw.putI (pc := 2) (k := 4) (f := 452) K cls7 rfl rfl u_6_21 g1 (Or.inl rfl) rfl rfl dX9_victim_2 ?_
  refine Vw.aload_n (pc := 5) (x := x0) K dX9_victim_5 rfl ?_
  refine Vw.ldc2 (pc := 6) (v := (-1 : Int64)) K u_6_154 dX9_victim_6 ?_
  refine Vw.iconst (pc := 9) (v := (0 : Int32)) K (by decide) dX9_victim_9 ?_
  obtain ⟨v3, e2, h⟩ := wbd h
  refine Vw.cV1 (pc := 10) (v := .inl v3) (c' := 0) (n' := 0) K (s_X9_victimBut K.tr e2) cal_X9_victimBut cls7 u_7_150 g1 rfl ⟨by decide, by decide⟩ ⟨by decide, by decide⟩ rfl (Nat.le_of_ble_eq_true rfl) dX9_victim_10 rfl rfl ?_
  refine Vw.istore_n (pc := 13) K dX9_victim_13 (by decide) ?_
  refine Vw.iload_n (pc := 14) (x := v3) K dX9_victim_14 rfl ?_
  refine Vw.if_ge (pc := 15) (tgt := 22) K dX9_victim_15 (by decide) (fun c4 => ?_) (fun c4 => ?_)
  · have h := wpos c4 h
    refine Vw.aload_n (pc := 22) (x := x0) K dX9_victim_22 rfl ?_
    refine Vw.iload_n (pc := 23) (x := v3) K dX9_victim_23 rfl ?_
    obtain ⟨v6, e5, h⟩ := wbd h
    refine Vw.cV1 (pc := 24) (v := .inl v6) (c' := 0) (n' := 0) K (s_X9_indexOf K.tr e5) cal_X9_indexOf cls7 u_7_207 g1 rfl ⟨by decide, by decide⟩ ⟨by decide, by decide⟩ rfl (Nat.le_of_ble_eq_true rfl) dX9_victim_24 rfl rfl ?_
    exact Vw.iretH (pc := 27) K h E (by decide) (by decide) dX9_victim_27
  · have h := wneg c4 h
    refine Vw.iconst (pc := 18) (v := (-1 : Int32)) K (by decide) dX9_victim_18 ?_
    refine Vw.goto (pc := 19) (tgt := 27) K dX9_victim_19 (by decide) ?_
    exact Vw.iretH (pc := 27) K h E (by decide) (by decide) dX9_victim_27
theorem cal_X9_victim : wCalV RX9 yX9_victim (.code yX9_victim cX9_victim 2 (some .int)) 0 := ⟨by decide +kernel, u_8_93, u_8_94, u_1_9, u_8_95⟩
def f_X9_count (A : Hp) (x0 : Nat) (x1 : Int32) : Option (Int32 × Hp) := if (hsh A x0).1 = 8 then ((f_X9_in (hsI A 452 x0 0 (0 : Int32)) x1.toInt64 (0 : Int64) (6 : Int64)).bind fun v3 => (if v3 = (0 : Int32) then ((f_X9_fails (hsI A 452 x0 0 (0 : Int32)) x0 (1 : Int32)).bind fun p6 => some (p6.1, p6.2)) else if (hsh (hsI A 452 x0 0 (0 : Int32)) (hgR (hsI A 452 x0 0 (0 : Int32)) 448 x0 0)).1 = 11 then if wix ((10 : Int32) + x1) (hsh (hsI A 452 x0 0 (0 : Int32)) (hgR (hsI A 452 x0 0 (0 : Int32)) 448 x0 0)).2 then some ((hgL (hsI A 452 x0 0 (0 : Int32)) 1035 (hgR (hsI A 452 x0 0 (0 : Int32)) 448 x0 0) ((10 : Int32) + x1).toNatClampNeg).toInt32, (hsI A 452 x0 0 (0 : Int32))) else none else none)) else none
set_option maxRecDepth 100000 in
theorem s_X9_count {l : Launch} {g : GT} (hl : l.stackTraces = false) {A : Hp} {x0 : Nat} {x1 : Int32} {r : Int32} {B : Hp} (h : f_X9_count A x0 x1 = some (r, B)) : MetV l g yX9_count (.code yX9_count cX9_count 2 (some .int)) [.inr (.inr x0), .inl x1] A (.inl (some (.inl r))) B 1 25 0 0 := by
  refine MetV.ofV hl (by decide +kernel) (Nat.le_of_ble_eq_true rfl) (fun κ K E => ?_)
  have K : Cx κ cX9_count 2 RX9 1 25 0 0 := K
  have E : Ed κ (some .int) "count" (.inl (some (.inl r))) B 0 0 := E
  unfold f_X9_count at h
  change Vw κ A 0 0 0 [(0, .inr (.inr x0)), (1, .inl x1)] []
  refine Vw.aload_n (pc := 0) (x := x0) K dX9_count_0 rfl ?_
  refine Vw.iconst (pc := 1) (v := (0 : Int32)) K (by decide) dX9_count_1 ?_
  obtain ⟨g1, h⟩ := wgd h
  refine Vw.putI (pc := 2) (k := 4) (f := 452) K cls7 rfl rfl u_6_21 g1 (Or.inl rfl) rfl rfl dX9_count_2 ?_
  refine Vw.iload_n (pc := 5) (x := x1) K dX9_count_5 rfl ?_
  refine Vw.i2l (pc := 6) K dX9_count_6 ?_
  refine Vw.lconst (pc := 7) (v := (0 : Int64)) K (by decide) dX9_count_7 ?_
  refine Vw.ldc2 (pc := 8) (v := (6 : Int64)) K u_7_1 dX9_count_8 ?_
  obtain ⟨v3, e2, h⟩ := wbd h
  refine Vw.cS1 (pc := 11) (v := .inl v3) (c' := 0) (n' := 0) K (s_X9_in K.tr e2) cal_X9_in u_6_161 rfl ⟨by decide, by decide⟩ ⟨by decide, by decide⟩ rfl (Nat.le_of_ble_eq_true rfl) dX9_count_11 rfl rfl ?_
  refine Vw.if_eq (pc := 14) (tgt := 30) K dX9_count_14 (by decide) (fun c4 => ?_) (fun c4 => ?_)
  · have h := wpos c4 h
    refine Vw.aload_n (pc := 30) (x := x0) K dX9_count_30 rfl ?_
    refine Vw.iconst (pc := 31) (v := (1 : Int32)) K (by decide) dX9_count_31 ?_
    obtain ⟨p6, e5, h⟩ := wbd h
    refine Vw.cV1 (pc := 32) (v := .inl p6.1) (c' := 0) (n' := 0) K (s_X9_fails K.tr e5) cal_X9_fails cls7 u_6_214 g1 rfl ⟨by decide, by decide⟩ ⟨by decide, by decide⟩ rfl (Nat.le_of_ble_eq_true rfl) dX9_count_32 rfl rfl ?_
    exact Vw.iretH (pc := 35) K h E (by decide) (by decide) dX9_count_35
  · have h := wneg c4 h
    refine Vw.aload_n (pc := 17) (x := x0) K dX9_count_17 rfl ?_
    refine Vw.getR (pc := 18) (k := 0) (f := 448) K cls7 rfl rfl u_6_17 g1 dX9_count_18 ?_
    refine Vw.bipush (pc := 21) (v := (10 : Int32)) K (by decide) dX9_count_21 ?_
    refine Vw.iload_n (pc := 23) (x := x1) K dX9_count_23 rfl ?_
    refine Vw.iadd (pc := 24) K dX9_count_24 ?_
    obtain ⟨g7, h⟩ := wgd h
    obtain ⟨g8, h⟩ := wgd h
    refine Vw.laload (pc := 25) K g7 g8 dX9_count_25 ?_
    refine Vw.l2i (pc := 26) K dX9_count_26 ?_
    refine Vw.goto (pc := 27) (tgt := 35) K dX9_count_27 (by decide) ?_
    exact Vw.iretH (pc := 35) K h E (by decide) (by decide) dX9_count_35
theorem cal_X9_count : wCalV RX9 yX9_count (.code yX9_count cX9_count 2 (some .int)) 1 := ⟨by decide +kernel, u_8_97, u_8_98, u_1_9, u_8_99⟩
def k_X9_save_23s  (x0 : Nat) (x1 : Int32)  (rec23 : Hp → Int32 → Option (Int32 × Hp)) (A : Hp) (x2 : Int32) : Option (Int32 × Hp) := (if (8400 : Int32) ≤ x2 then if (hsh A x0).1 = 8 then if (hsh A (hgR A 450 x0 0)).1 = 12 then if wix x1 (hsh A (hgR A 450 x0 0)).2 then if (hsh (hsI A 1036 (hgR A 450 x0 0) x1.toNatClampNeg (vp_nar .boolean (1 : Int32))) (hgR (hsI A 1036 (hgR A 450 x0 0) x1.toNatClampNeg (vp_nar .boolean (1 : Int32))) 448 x0 0)).1 = 11 then if wix (5 : Int32) (hsh (hsI A 1036 (hgR A 450 x0 0) x1.toNatClampNeg (vp_nar .boolean (1 : Int32))) (hgR (hsI A 1036 (hgR A 450 x0 0) x1.toNatClampNeg (vp_nar .boolean (1 : Int32))) 448 x0 0)).2 then some ((hgL (hsI A 1036 (hgR A 450 x0 0) x1.toNatClampNeg (vp_nar .boolean (1 : Int32))) 1035 (hgR (hsI A 1036 (hgR A 450 x0 0) x1.toNatClampNeg (vp_nar .boolean (1 : Int32))) 448 x0 0) (5 : Int32).toNatClampNeg).toInt32, (hsI A 1036 (hgR A 450 x0 0) x1.toNatClampNeg (vp_nar .boolean (1 : Int32)))) else none else none else none else none else none else if (hsh A x0).1 = 8 then if (hsh A (hgR A 448 x0 0)).1 = 11 then if wix x2 (hsh A (hgR A 448 x0 0)).2 then if (hsh A (hgR A 449 x0 0)).1 = 11 then if wix (((8400 : Int32) * x1) + x2) (hsh A (hgR A 449 x0 0)).2 then rec23 (hsL A 1035 (hgR A 449 x0 0) (((8400 : Int32) * x1) + x2).toNatClampNeg (hgL A 1035 (hgR A 448 x0 0) x2.toNatClampNeg)) (x2 + (1 : Int32)) else none else none else none else none else none)
def k_X9_save_23  (x0 : Nat) (x1 : Int32)  : Nat → Hp → Int32 → Option (Int32 × Hp)
  | 0 => fun _ _ => none
  | fu + 1 => k_X9_save_23s x0 x1  (k_X9_save_23 x0 x1  fu)
set_option maxRecDepth 100000 in
theorem s_X9_save_23 {κ : KT} {r : Int32} {B : Hp}  {x0 : Nat} {x1 : Int32}  (K : Cx κ cX9_save 3 RX9 1 25 0 0) (E : Ed κ (some .int) "save" (.inl (some (.inl r))) B 0 0)  : ∀ (fu : Nat) (A : Hp) (x2 : Int32),  k_X9_save_23 x0 x1  fu A x2 = some (r, B) → Vw κ A 0 0 23 [(0, .inr (.inr x0)), (1, .inl x1), (2, .inl x2)] [] := by
  intro fu
  induction fu with
  | zero => intro A x2 h; cases h
  | succ fu hr23 =>
    intro A x2 h
    have h : k_X9_save_23s x0 x1  (k_X9_save_23 x0 x1  fu) A x2 = some (r, B) := h
    unfold k_X9_save_23s at h
    refine Vw.iload_n (pc := 23) (x := x2) K dX9_save_23 rfl ?_
    refine Vw.sipush (pc := 24) (v := (8400 : Int32)) K (by decide) dX9_save_24 ?_
    refine Vw.icmp_ge (pc := 27) (tgt := 54) K dX9_save_27 (by decide) (fun c1 => ?_) (fun c1 => ?_)
    · have h := wpos c1 h
      refine Vw.aload_n (pc := 54) (x := x0) K dX9_save_54 rfl ?_
      obtain ⟨g2, h⟩ := wgd h
      refine Vw.getR (pc := 55) (k := 2) (f := 450) K cls7 rfl rfl u_6_19 g2 dX9_save_55 ?_
      refine Vw.iload_n (pc := 58) (x := x1) K dX9_save_58 rfl ?_
      refine Vw.iconst (pc := 59) (v := (1 : Int32)) K (by decide) dX9_save_59 ?_
      obtain ⟨g3, h⟩ := wgd h
      obtain ⟨g4, h⟩ := wgd h
      refine Vw.zastore (pc := 60) K g3 g4 dX9_save_60 ?_
      refine Vw.aload_n (pc := 61) (x := x0) K dX9_save_61 rfl ?_
      refine Vw.getR (pc := 62) (k := 0) (f := 448) K cls7 rfl rfl u_6_17 g2 dX9_save_62 ?_
      refine Vw.iconst (pc := 65) (v := (5 : Int32)) K (by decide) dX9_save_65 ?_
      obtain ⟨g5, h⟩ := wgd h
      obtain ⟨g6, h⟩ := wgd h
      refine Vw.laload (pc := 66) K g5 g6 dX9_save_66 ?_
      refine Vw.l2i (pc := 67) K dX9_save_67 ?_
      exact Vw.iretH (pc := 68) K h E (by decide) (by decide) dX9_save_68
    · have h := wneg c1 h
      refine Vw.aload_n (pc := 30) (x := x0) K dX9_save_30 rfl ?_
      obtain ⟨g7, h⟩ := wgd h
      refine Vw.getR (pc := 31) (k := 1) (f := 449) K cls7 rfl rfl u_6_18 g7 dX9_save_31 ?_
      refine Vw.sipush (pc := 34) (v := (8400 : Int32)) K (by decide) dX9_save_34 ?_
      refine Vw.iload_n (pc := 37) (x := x1) K dX9_save_37 rfl ?_
      refine Vw.imul (pc := 38) K dX9_save_38 ?_
      refine Vw.iload_n (pc := 39) (x := x2) K dX9_save_39 rfl ?_
      refine Vw.iadd (pc := 40) K dX9_save_40 ?_
      refine Vw.aload_n (pc := 41) (x := x0) K dX9_save_41 rfl ?_
      refine Vw.getR (pc := 42) (k := 0) (f := 448) K cls7 rfl rfl u_6_17 g7 dX9_save_42 ?_
      refine Vw.iload_n (pc := 45) (x := x2) K dX9_save_45 rfl ?_
      obtain ⟨g8, h⟩ := wgd h
      obtain ⟨g9, h⟩ := wgd h
      refine Vw.laload (pc := 46) K g8 g9 dX9_save_46 ?_
      obtain ⟨g10, h⟩ := wgd h
      obtain ⟨g11, h⟩ := wgd h
      refine Vw.lastore (pc := 47) K g10 g11 dX9_save_47 ?_
      refine Vw.iinc (pc := 48) (x := x2) (v := (1 : Int32)) K dX9_save_48 rfl (by decide) (by decide) ?_
      refine Vw.goto (pc := 51) (tgt := 23) K dX9_save_51 (by decide) ?_
      exact Vw.loc rfl (hr23 _ _ h)
def f_X9_save (A : Hp) (x0 : Nat) (x1 : Int32) : Option (Int32 × Hp) := if (hsh A x0).1 = 8 then ((f_X9_in (hsI A 452 x0 0 (0 : Int32)) x1.toInt64 (0 : Int64) (1 : Int64)).bind fun v14 => (if v14 = (0 : Int32) then ((f_X9_fails (hsI A 452 x0 0 (0 : Int32)) x0 (1 : Int32)).bind fun p17 => some (p17.1, p17.2)) else k_X9_save_23 x0 x1 FU (hsI A 452 x0 0 (0 : Int32)) (0 : Int32))) else none
set_option maxRecDepth 100000 in
theorem s_X9_save {l : Launch} {g : GT} (hl : l.stackTraces = false) {A : Hp} {x0 : Nat} {x1 : Int32} {r : Int32} {B : Hp} (h : f_X9_save A x0 x1 = some (r, B)) : MetV l g yX9_save (.code yX9_save cX9_save 3 (some .int)) [.inr (.inr x0), .inl x1] A (.inl (some (.inl r))) B 1 25 0 0 := by
  refine MetV.ofV hl (by decide +kernel) (Nat.le_of_ble_eq_true rfl) (fun κ K E => ?_)
  have K : Cx κ cX9_save 3 RX9 1 25 0 0 := K
  have E : Ed κ (some .int) "save" (.inl (some (.inl r))) B 0 0 := E
  unfold f_X9_save at h
  change Vw κ A 0 0 0 [(0, .inr (.inr x0)), (1, .inl x1)] []
  refine Vw.aload_n (pc := 0) (x := x0) K dX9_save_0 rfl ?_
  refine Vw.iconst (pc := 1) (v := (0 : Int32)) K (by decide) dX9_save_1 ?_
  obtain ⟨g12, h⟩ := wgd h
  refine Vw.putI (pc := 2) (k := 4) (f := 452) K cls7 rfl rfl u_6_21 g12 (Or.inl rfl) rfl rfl dX9_save_2 ?_
  refine Vw.iload_n (pc := 5) (x := x1) K dX9_save_5 rfl ?_
  refine Vw.i2l (pc := 6) K dX9_save_6 ?_
  refine Vw.lconst (pc := 7) (v := (0 : Int64)) K (by decide) dX9_save_7 ?_
  refine Vw.lconst (pc := 8) (v := (1 : Int64)) K (by decide) dX9_save_8 ?_
  obtain ⟨v14, e13, h⟩ := wbd h
  refine Vw.cS1 (pc := 9) (v := .inl v14) (c' := 0) (n' := 0) K (s_X9_in K.tr e13) cal_X9_in u_6_161 rfl ⟨by decide, by decide⟩ ⟨by decide, by decide⟩ rfl (Nat.le_of_ble_eq_true rfl) dX9_save_9 rfl rfl ?_
  refine Vw.if_ne (pc := 12) (tgt := 21) K dX9_save_12 (by decide) (fun c15 => ?_) (fun c15 => ?_)
  · have h := wneg c15 h
    refine Vw.iconst (pc := 21) (v := (0 : Int32)) K (by decide) dX9_save_21 ?_
    refine Vw.istore_n (pc := 22) K dX9_save_22 (by decide) ?_
    exact Vw.loc rfl (s_X9_save_23 K E  _ _ _ h)
  · have h := wpos c15 h
    refine Vw.aload_n (pc := 15) (x := x0) K dX9_save_15 rfl ?_
    refine Vw.iconst (pc := 16) (v := (1 : Int32)) K (by decide) dX9_save_16 ?_
    obtain ⟨p17, e16, h⟩ := wbd h
    refine Vw.cV1 (pc := 17) (v := .inl p17.1) (c' := 0) (n' := 0) K (s_X9_fails K.tr e16) cal_X9_fails cls7 u_6_214 g12 rfl ⟨by decide, by decide⟩ ⟨by decide, by decide⟩ rfl (Nat.le_of_ble_eq_true rfl) dX9_save_17 rfl rfl ?_
    exact Vw.iretH (pc := 20) K h E (by decide) (by decide) dX9_save_20
theorem cal_X9_save : wCalV RX9 yX9_save (.code yX9_save cX9_save 3 (some .int)) 1 := ⟨by decide +kernel, u_8_101, u_8_102, u_1_9, u_8_103⟩
def k_X9_restore_38s  (x0 : Nat) (x1 : Int32)  (rec38 : Hp → Int32 → Option (Int32 × Hp)) (A : Hp) (x2 : Int32) : Option (Int32 × Hp) := (if (8400 : Int32) ≤ x2 then if (hsh A x0).1 = 8 then if (hsh A (hgR A 448 x0 0)).1 = 11 then if wix (5 : Int32) (hsh A (hgR A 448 x0 0)).2 then some ((hgL A 1035 (hgR A 448 x0 0) (5 : Int32).toNatClampNeg).toInt32, A) else none else none else none else if (hsh A x0).1 = 8 then if (hsh A (hgR A 449 x0 0)).1 = 11 then if wix (((8400 : Int32) * x1) + x2) (hsh A (hgR A 449 x0 0)).2 then if (hsh A (hgR A 448 x0 0)).1 = 11 then if wix x2 (hsh A (hgR A 448 x0 0)).2 then rec38 (hsL A 1035 (hgR A 448 x0 0) x2.toNatClampNeg (hgL A 1035 (hgR A 449 x0 0) (((8400 : Int32) * x1) + x2).toNatClampNeg)) (x2 + (1 : Int32)) else none else none else none else none else none)
def k_X9_restore_38  (x0 : Nat) (x1 : Int32)  : Nat → Hp → Int32 → Option (Int32 × Hp)
  | 0 => fun _ _ => none
  | fu + 1 => k_X9_restore_38s x0 x1  (k_X9_restore_38 x0 x1  fu)
set_option maxRecDepth 100000 in
theorem s_X9_restore_38 {κ : KT} {r : Int32} {B : Hp}  {x0 : Nat} {x1 : Int32}  (K : Cx κ cX9_restore 3 RX9 1 25 0 0) (E : Ed κ (some .int) "restore" (.inl (some (.inl r))) B 0 0)  : ∀ (fu : Nat) (A : Hp) (x2 : Int32),  k_X9_restore_38 x0 x1  fu A x2 = some (r, B) → Vw κ A 0 0 38 [(0, .inr (.inr x0)), (1, .inl x1), (2, .inl x2)] [] := by
  intro fu
  induction fu with
  | zero => intro A x2 h; cases h
  | succ fu hr38 =>
    intro A x2 h
    have h : k_X9_restore_38s x0 x1  (k_X9_restore_38 x0 x1  fu) A x2 = some (r, B) := h
    unfold k_X9_restore_38s at h
    refine Vw.iload_n (pc := 38) (x := x2) K dX9_restore_38 rfl ?_
    refine Vw.sipush (pc := 39) (v := (8400 : Int32)) K (by decide) dX9_restore_39 ?_
    refine Vw.icmp_ge (pc := 42) (tgt := 69) K dX9_restore_42 (by decide) (fun c1 => ?_) (fun c1 => ?_)
    · have h := wpos c1 h
      refine Vw.aload_n (pc := 69) (x := x0) K dX9_restore_69 rfl ?_
      obtain ⟨g2, h⟩ := wgd h
      refine Vw.getR (pc := 70) (k := 0) (f := 448) K cls7 rfl rfl u_6_17 g2 dX9_restore_70 ?_
      refine Vw.iconst (pc := 73) (v := (5 : Int32)) K (by decide) dX9_restore_73 ?_
      obtain ⟨g3, h⟩ := wgd h
      obtain ⟨g4, h⟩ := wgd h
      refine Vw.laload (pc := 74) K g3 g4 dX9_restore_74 ?_
      refine Vw.l2i (pc := 75) K dX9_restore_75 ?_
      exact Vw.iretH (pc := 76) K h E (by decide) (by decide) dX9_restore_76
    · have h := wneg c1 h
      refine Vw.aload_n (pc := 45) (x := x0) K dX9_restore_45 rfl ?_
      obtain ⟨g5, h⟩ := wgd h
      refine Vw.getR (pc := 46) (k := 0) (f := 448) K cls7 rfl rfl u_6_17 g5 dX9_restore_46 ?_
      refine Vw.iload_n (pc := 49) (x := x2) K dX9_restore_49 rfl ?_
      refine Vw.aload_n (pc := 50) (x := x0) K dX9_restore_50 rfl ?_
      refine Vw.getR (pc := 51) (k := 1) (f := 449) K cls7 rfl rfl u_6_18 g5 dX9_restore_51 ?_
      refine Vw.sipush (pc := 54) (v := (8400 : Int32)) K (by decide) dX9_restore_54 ?_
      refine Vw.iload_n (pc := 57) (x := x1) K dX9_restore_57 rfl ?_
      refine Vw.imul (pc := 58) K dX9_restore_58 ?_
      refine Vw.iload_n (pc := 59) (x := x2) K dX9_restore_59 rfl ?_
      refine Vw.iadd (pc := 60) K dX9_restore_60 ?_
      obtain ⟨g6, h⟩ := wgd h
      obtain ⟨g7, h⟩ := wgd h
      refine Vw.laload (pc := 61) K g6 g7 dX9_restore_61 ?_
      obtain ⟨g8, h⟩ := wgd h
      obtain ⟨g9, h⟩ := wgd h
      refine Vw.lastore (pc := 62) K g8 g9 dX9_restore_62 ?_
      refine Vw.iinc (pc := 63) (x := x2) (v := (1 : Int32)) K dX9_restore_63 rfl (by decide) (by decide) ?_
      refine Vw.goto (pc := 66) (tgt := 38) K dX9_restore_66 (by decide) ?_
      exact Vw.loc rfl (hr38 _ _ h)
def f_X9_restore (A : Hp) (x0 : Nat) (x1 : Int32) : Option (Int32 × Hp) := if (hsh A x0).1 = 8 then ((f_X9_in (hsI A 452 x0 0 (0 : Int32)) x1.toInt64 (0 : Int64) (1 : Int64)).bind fun v12 => (if v12 = (0 : Int32) then ((f_X9_fails (hsI A 452 x0 0 (0 : Int32)) x0 (1 : Int32)).bind fun p20 => some (p20.1, p20.2)) else if (hsh (hsI A 452 x0 0 (0 : Int32)) (hgR (hsI A 452 x0 0 (0 : Int32)) 450 x0 0)).1 = 12 then if wix x1 (hsh (hsI A 452 x0 0 (0 : Int32)) (hgR (hsI A 452 x0 0 (0 : Int32)) 450 x0 0)).2 then (if (hgI (hsI A 452 x0 0 (0 : Int32)) 1036 (hgR (hsI A 452 x0 0 (0 : Int32)) 450 x0 0) x1.toNatClampNeg) = (0 : Int32) then ((f_X9_fails (hsI A 452 x0 0 (0 : Int32)) x0 (2 : Int32)).bind fun p18 => some (p18.1, p18.2)) else k_X9_restore_38 x0 x1 FU (hsI A 452 x0 0 (0 : Int32)) (0 : Int32)) else none else none)) else none
set_option maxRecDepth 100000 in
theorem s_X9_restore {l : Launch} {g : GT} (hl : l.stackTraces = false) {A : Hp} {x0 : Nat} {x1 : Int32} {r : Int32} {B : Hp} (h : f_X9_restore A x0 x1 = some (r, B)) : MetV l g yX9_restore (.code yX9_restore cX9_restore 3 (some .int)) [.inr (.inr x0), .inl x1] A (.inl (some (.inl r))) B 1 25 0 0 := by
  refine MetV.ofV hl (by decide +kernel) (Nat.le_of_ble_eq_true rfl) (fun κ K E => ?_)
  have K : Cx κ cX9_restore 3 RX9 1 25 0 0 := K
  have E : Ed κ (some .int) "restore" (.inl (some (.inl r))) B 0 0 := E
  unfold f_X9_restore at h
  change Vw κ A 0 0 0 [(0, .inr (.inr x0)), (1, .inl x1)] []
  refine Vw.aload_n (pc := 0) (x := x0) K dX9_restore_0 rfl ?_
  refine Vw.iconst (pc := 1) (v := (0 : Int32)) K (by decide) dX9_restore_1 ?_
  obtain ⟨g10, h⟩ := wgd h
  refine Vw.putI (pc := 2) (k := 4) (f := 452) K cls7 rfl rfl u_6_21 g10 (Or.inl rfl) rfl rfl dX9_restore_2 ?_
  refine Vw.iload_n (pc := 5) (x := x1) K dX9_restore_5 rfl ?_
  refine Vw.i2l (pc := 6) K dX9_restore_6 ?_
  refine Vw.lconst (pc := 7) (v := (0 : Int64)) K (by decide) dX9_restore_7 ?_
  refine Vw.lconst (pc := 8) (v := (1 : Int64)) K (by decide) dX9_restore_8 ?_
  obtain ⟨v12, e11, h⟩ := wbd h
  refine Vw.cS1 (pc := 9) (v := .inl v12) (c' := 0) (n' := 0) K (s_X9_in K.tr e11) cal_X9_in u_6_161 rfl ⟨by decide, by decide⟩ ⟨by decide, by decide⟩ rfl (Nat.le_of_ble_eq_true rfl) dX9_restore_9 rfl rfl ?_
  refine Vw.if_ne (pc := 12) (tgt := 21) K dX9_restore_12 (by decide) (fun c13 => ?_) (fun c13 => ?_)
  · have h := wneg c13 h
    refine Vw.aload_n (pc := 21) (x := x0) K dX9_restore_21 rfl ?_
    refine Vw.getR (pc := 22) (k := 2) (f := 450) K cls7 rfl rfl u_6_19 g10 dX9_restore_22 ?_
    refine Vw.iload_n (pc := 25) (x := x1) K dX9_restore_25 rfl ?_
    obtain ⟨g14, h⟩ := wgd h
    obtain ⟨g15, h⟩ := wgd h
    refine Vw.zaload (pc := 26) K g14 g15 dX9_restore_26 ?_
    refine Vw.if_ne (pc := 27) (tgt := 36) K dX9_restore_27 (by decide) (fun c16 => ?_) (fun c16 => ?_)
    · have h := wneg c16 h
      refine Vw.iconst (pc := 36) (v := (0 : Int32)) K (by decide) dX9_restore_36 ?_
      refine Vw.istore_n (pc := 37) K dX9_restore_37 (by decide) ?_
      exact Vw.loc rfl (s_X9_restore_38 K E  _ _ _ h)
    · have h := wpos c16 h
      refine Vw.aload_n (pc := 30) (x := x0) K dX9_restore_30 rfl ?_
      refine Vw.iconst (pc := 31) (v := (2 : Int32)) K (by decide) dX9_restore_31 ?_
      obtain ⟨p18, e17, h⟩ := wbd h
      refine Vw.cV1 (pc := 32) (v := .inl p18.1) (c' := 0) (n' := 0) K (s_X9_fails K.tr e17) cal_X9_fails cls7 u_6_214 g10 rfl ⟨by decide, by decide⟩ ⟨by decide, by decide⟩ rfl (Nat.le_of_ble_eq_true rfl) dX9_restore_32 rfl rfl ?_
      exact Vw.iretH (pc := 35) K h E (by decide) (by decide) dX9_restore_35
  · have h := wpos c13 h
    refine Vw.aload_n (pc := 15) (x := x0) K dX9_restore_15 rfl ?_
    refine Vw.iconst (pc := 16) (v := (1 : Int32)) K (by decide) dX9_restore_16 ?_
    obtain ⟨p20, e19, h⟩ := wbd h
    refine Vw.cV1 (pc := 17) (v := .inl p20.1) (c' := 0) (n' := 0) K (s_X9_fails K.tr e19) cal_X9_fails cls7 u_6_214 g10 rfl ⟨by decide, by decide⟩ ⟨by decide, by decide⟩ rfl (Nat.le_of_ble_eq_true rfl) dX9_restore_17 rfl rfl ?_
    exact Vw.iretH (pc := 20) K h E (by decide) (by decide) dX9_restore_20
theorem cal_X9_restore : wCalV RX9 yX9_restore (.code yX9_restore cX9_restore 3 (some .int)) 1 := ⟨by decide +kernel, u_8_105, u_8_106, u_1_9, u_8_107⟩
def k_X9_mixes_6s (A : Hp) (x0 : Nat) (x3 : Int32) (x4 : Int64)  (rec6 : Int64 → Int32 → Option (Int64))  (x6 : Int64) (x8 : Int32) : Option (Int64) := (if x4 ≤ x8.toInt64 then some x6 else if (hsh A x0).1 = 8 then if (hsh A (hgR A 448 x0 0)).1 = 11 then if wix (x3 + x8) (hsh A (hgR A 448 x0 0)).2 then rec6 (((31 : Int64) * x6) + (hgL A 1035 (hgR A 448 x0 0) (x3 + x8).toNatClampNeg)) (x8 + (1 : Int32)) else none else none else none)
def k_X9_mixes_6 (A : Hp) (x0 : Nat) (x3 : Int32) (x4 : Int64)  : Nat → Int64 → Int32 → Option (Int64)
  | 0 => fun _ _ => none
  | fu + 1 => k_X9_mixes_6s A x0 x3 x4  (k_X9_mixes_6 A x0 x3 x4  fu)
set_option maxRecDepth 100000 in
theorem s_X9_mixes_6 {κ : KT} {r : Int64} {A : Hp} {x0 : Nat} {x3 : Int32} {x4 : Int64}  (K : Cx κ cX9_mixes 9 RX9 0 0 0 0) (E : Ed κ (some .long) "mixes" (.inl (some (.inr (.inl r)))) A 0 0)  : ∀ (fu : Nat)  (x6 : Int64) (x8 : Int32),  k_X9_mixes_6 A x0 x3 x4  fu x6 x8 = some r → Vw κ A 0 0 6 [(0, .inr (.inr x0)), (3, .inl x3), (4, .inr (.inl x4)), (6, .inr (.inl x6)), (8, .inl x8)] [] := by
  intro fu
  induction fu with
  | zero => intro x6 x8 h; cases h
  | succ fu hr6 =>
    intro x6 x8 h
    have h : k_X9_mixes_6s A x0 x3 x4  (k_X9_mixes_6 A x0 x3 x4  fu) x6 x8 = some r := h
    unfold k_X9_mixes_6s at h
    refine Vw.iload (pc := 6) (x := x8) K dX9_mixes_6 rfl ?_
    refine Vw.i2l (pc := 8) K dX9_mixes_8 ?_
    refine Vw.lload (pc := 9) (x := x4) K dX9_mixes_9 rfl ?_
    refine Vw.lcmp_ge (pc := 11) (tgt := 39) K dX9_mixes_11 dX9_mixes_12 (by decide) (fun c1 => ?_) (fun c1 => ?_)
    · have h := wpos c1 h
      refine Vw.lload (pc := 39) (x := x6) K dX9_mixes_39 rfl ?_
      exact Vw.lretE (pc := 41) K (Option.some.inj h) rfl E (by decide) (by decide) dX9_mixes_41
    · have h := wneg c1 h
      refine Vw.ldc2 (pc := 15) (v := (31 : Int64)) K u_7_65 dX9_mixes_15 ?_
      refine Vw.lload (pc := 18) (x := x6) K dX9_mixes_18 rfl ?_
      refine Vw.lmul (pc := 20) K dX9_mixes_20 ?_
      refine Vw.aload_n (pc := 21) (x := x0) K dX9_mixes_21 rfl ?_
      obtain ⟨g2, h⟩ := wgd h
      refine Vw.getR (pc := 22) (k := 0) (f := 448) K cls7 rfl rfl u_6_17 g2 dX9_mixes_22 ?_
      refine Vw.iload_n (pc := 25) (x := x3) K dX9_mixes_25 rfl ?_
      refine Vw.iload (pc := 26) (x := x8) K dX9_mixes_26 rfl ?_
      refine Vw.iadd (pc := 28) K dX9_mixes_28 ?_
      obtain ⟨g3, h⟩ := wgd h
      obtain ⟨g4, h⟩ := wgd h
      refine Vw.laload (pc := 29) K g3 g4 dX9_mixes_29 ?_
      refine Vw.ladd (pc := 30) K dX9_mixes_30 ?_
      refine Vw.lstore (pc := 31) K dX9_mixes_31 (by decide) ?_
      refine Vw.iinc (pc := 33) (x := x8) (v := (1 : Int32)) K dX9_mixes_33 rfl (by decide) (by decide) ?_
      refine Vw.goto (pc := 36) (tgt := 6) K dX9_mixes_36 (by decide) ?_
      exact Vw.loc rfl (hr6 _ _ h)
def f_X9_mixes (A : Hp) (x0 : Nat) (x1 : Int64) (x3 : Int32) (x4 : Int64) : Option (Int64) := k_X9_mixes_6 A x0 x3 x4 FU x1 (0 : Int32)
set_option maxRecDepth 100000 in
theorem s_X9_mixes {l : Launch} {g : GT} (hl : l.stackTraces = false) {A : Hp} {x0 : Nat} {x1 : Int64} {x3 : Int32} {x4 : Int64} {r : Int64} (h : f_X9_mixes A x0 x1 x3 x4 = some r) : MetV l g yX9_mixes (.code yX9_mixes cX9_mixes 9 (some .long)) [.inr (.inr x0), .inr (.inl x1), .inl x3, .inr (.inl x4)] A (.inl (some (.inr (.inl r)))) A 0 0 0 0 := by
  refine MetV.ofV hl (by decide +kernel) (Nat.le_of_ble_eq_true rfl) (fun κ K E => ?_)
  have K : Cx κ cX9_mixes 9 RX9 0 0 0 0 := K
  have E : Ed κ (some .long) "mixes" (.inl (some (.inr (.inl r)))) A 0 0 := E
  unfold f_X9_mixes at h
  change Vw κ A 0 0 0 [(0, .inr (.inr x0)), (1, .inr (.inl x1)), (3, .inl x3), (4, .inr (.inl x4))] []
  refine Vw.lload_n (pc := 0) (x := x1) K dX9_mixes_0 rfl ?_
  refine Vw.lstore (pc := 1) K dX9_mixes_1 (by decide) ?_
  refine Vw.iconst (pc := 3) (v := (0 : Int32)) K (by decide) dX9_mixes_3 ?_
  refine Vw.istore (pc := 4) K dX9_mixes_4 (by decide) ?_
  exact Vw.loc rfl (s_X9_mixes_6 K E  _ _ _ h)
theorem cal_X9_mixes : wCalV RX9 yX9_mixes (.code yX9_mixes cX9_mixes 9 (some .long)) 3 := ⟨by decide +kernel, u_8_115, us_6_15, u_1_9, u_8_116⟩
def k_X9_fingerprint_18s  (x0 : Nat)  (rec18 : Hp → Int64 → Int32 → Option (Int64 × Hp)) (A : Hp) (x1 : Int64) (x3 : Int32) : Option (Int64 × Hp) := if (hsh A x0).1 = 8 then if (hsh A (hgR A 448 x0 0)).1 = 11 then if wix (5 : Int32) (hsh A (hgR A 448 x0 0)).2 then (if (hgL A 1035 (hgR A 448 x0 0) (5 : Int32).toNatClampNeg) ≤ x3.toInt64 then ((f_X9_mixes A x0 x1 (10 : Int32) (7 : Int64)).bind fun v6 => some (v6, A)) else ((f_X9_placeOf A x0 x3).bind fun v8 => ((f_X9_cookie A v8).bind fun v10 => if wix v10 (hsh A (hgR A 448 x0 0)).2 then ((f_X9_mixes A x0 x1 (v10 + (14 : Int32)) (hgL A 1035 (hgR A 448 x0 0) v10.toNatClampNeg)).bind fun v13 => if wix (v10 + (1 : Int32)) (hsh A (hgR A 448 x0 0)).2 then ((f_X9_mixes A x0 v13 (v10 + (30 : Int32)) (hgL A 1035 (hgR A 448 x0 0) (v10 + (1 : Int32)).toNatClampNeg)).bind fun v16 => if wix (v10 + (2 : Int32)) (hsh A (hgR A 448 x0 0)).2 then ((f_X9_mixes A x0 v16 (v10 + (62 : Int32)) (hgL A 1035 (hgR A 448 x0 0) (v10 + (2 : Int32)).toNatClampNeg)).bind fun v19 => if wix (v10 + (3 : Int32)) (hsh A (hgR A 448 x0 0)).2 then ((f_X9_mixes A x0 v19 (v10 + (92 : Int32)) (hgL A 1035 (hgR A 448 x0 0) (v10 + (3 : Int32)).toNatClampNeg)).bind fun v22 => ((f_X9_mixes A x0 v22 (v10 + (4 : Int32)) (4 : Int64)).bind fun v24 => rec18 A v24 (x3 + (1 : Int32)))) else none) else none) else none) else none))) else none else none else none
def k_X9_fingerprint_18  (x0 : Nat)  : Nat → Hp → Int64 → Int32 → Option (Int64 × Hp)
  | 0 => fun _ _ _ => none
  | fu + 1 => k_X9_fingerprint_18s x0  (k_X9_fingerprint_18 x0  fu)
set_option maxRecDepth 100000 in
theorem s_X9_fingerprint_18 {κ : KT} {r : Int64} {B : Hp}  {x0 : Nat}  (K : Cx κ cX9_fingerprint 5 RX9 5 123 0 0) (E : Ed κ (some .long) "fingerprint" (.inl (some (.inr (.inl r)))) B 0 0)  : ∀ (fu : Nat) (A : Hp) (x1 : Int64) (x3 : Int32),  k_X9_fingerprint_18 x0  fu A x1 x3 = some (r, B) → Vw κ A 0 0 18 [(0, .inr (.inr x0)), (1, .inr (.inl x1)), (3, .inl x3)] [] := by
  intro fu
  induction fu with
  | zero => intro A x1 x3 h; cases h
  | succ fu hr18 =>
    intro A x1 x3 h
    have h : k_X9_fingerprint_18s x0  (k_X9_fingerprint_18 x0  fu) A x1 x3 = some (r, B) := h
    unfold k_X9_fingerprint_18s at h
    refine Vw.iload_n (pc := 18) (x := x3) K dX9_fingerprint_18 rfl ?_
    refine Vw.i2l (pc := 19) K dX9_fingerprint_19 ?_
    refine Vw.aload_n (pc := 20) (x := x0) K dX9_fingerprint_20 rfl ?_
    obtain ⟨g1, h⟩ := wgd h
    refine Vw.getR (pc := 21) (k := 0) (f := 448) K cls7 rfl rfl u_6_17 g1 dX9_fingerprint_21 ?_
    refine Vw.iconst (pc := 24) (v := (5 : Int32)) K (by decide) dX9_fingerprint_24 ?_
    obtain ⟨g2, h⟩ := wgd h
    obtain ⟨g3, h⟩ := wgd h
    refine Vw.laload (pc := 25) K g2 g3 dX9_fingerprint_25 ?_
    refine Vw.lcmp_ge (pc := 26) (tgt := 137) K dX9_fingerprint_26 dX9_fingerprint_27 (by decide) (fun c4 => ?_) (fun c4 => ?_)
    · have h := wpos c4 h
      refine Vw.aload_n (pc := 137) (x := x0) K dX9_fingerprint_137 rfl ?_
      refine Vw.lload_n (pc := 138) (x := x1) K dX9_fingerprint_138 rfl ?_
      refine Vw.bipush (pc := 139) (v := (10 : Int32)) K (by decide) dX9_fingerprint_139 ?_
      refine Vw.ldc2 (pc := 141) (v := (7 : Int64)) K u_8_117 dX9_fingerprint_141 ?_
      obtain ⟨v6, e5, h⟩ := wbd h
      refine Vw.cV1 (pc := 144) (v := .inr (.inl v6)) (c' := 0) (n' := 0) K (s_X9_mixes K.tr e5) cal_X9_mixes cls7 u_8_113 g1 rfl ⟨by decide, by decide⟩ ⟨by decide, by decide⟩ rfl (Nat.le_of_ble_eq_true rfl) dX9_fingerprint_144 rfl rfl ?_
      exact Vw.lretH (pc := 147) K h E (by decide) (by decide) dX9_fingerprint_147
    · have h := wneg c4 h
      refine Vw.aload_n (pc := 30) (x := x0) K dX9_fingerprint_30 rfl ?_
      refine Vw.iload_n (pc := 31) (x := x3) K dX9_fingerprint_31 rfl ?_
      obtain ⟨v8, e7, h⟩ := wbd h
      refine Vw.cV1 (pc := 32) (v := .inl v8) (c' := 0) (n' := 0) K (s_X9_placeOf K.tr e7) cal_X9_placeOf cls7 u_7_203 g1 rfl ⟨by decide, by decide⟩ ⟨by decide, by decide⟩ rfl (Nat.le_of_ble_eq_true rfl) dX9_fingerprint_32 rfl rfl ?_
      obtain ⟨v10, e9, h⟩ := wbd h
      refine Vw.cS1 (pc := 35) (v := .inl v10) (c' := 0) (n' := 0) K (s_X9_cookie K.tr e9) cal_X9_cookie u_7_102 rfl ⟨by decide, by decide⟩ ⟨by decide, by decide⟩ rfl (Nat.le_of_ble_eq_true rfl) dX9_fingerprint_35 rfl rfl ?_
      refine Vw.istore (pc := 38) K dX9_fingerprint_38 (by decide) ?_
      refine Vw.aload_n (pc := 40) (x := x0) K dX9_fingerprint_40 rfl ?_
      refine Vw.lload_n (pc := 41) (x := x1) K dX9_fingerprint_41 rfl ?_
      refine Vw.iload (pc := 42) (x := v10) K dX9_fingerprint_42 rfl ?_
      refine Vw.bipush (pc := 44) (v := (14 : Int32)) K (by decide) dX9_fingerprint_44 ?_
      refine Vw.iadd (pc := 46) K dX9_fingerprint_46 ?_
      refine Vw.aload_n (pc := 47) (x := x0) K dX9_fingerprint_47 rfl ?_
      refine Vw.getR (pc := 48) (k := 0) (f := 448) K cls7 rfl rfl u_6_17 g1 dX9_fingerprint_48 ?_
      refine Vw.iload (pc := 51) (x := v10) K dX9_fingerprint_51 rfl ?_
      obtain ⟨g11, h⟩ := wgd h
      refine Vw.laload (pc := 53) K g2 g11 dX9_fingerprint_53 ?_
      obtain ⟨v13, e12, h⟩ := wbd h
      refine Vw.cV1 (pc := 54) (v := .inr (.inl v13)) (c' := 0) (n' := 0) K (s_X9_mixes K.tr e12) cal_X9_mixes cls7 u_8_113 g1 rfl ⟨by decide, by decide⟩ ⟨by decide, by decide⟩ rfl (Nat.le_of_ble_eq_true rfl) dX9_fingerprint_54 rfl rfl ?_
      refine Vw.lstore_n (pc := 57) K dX9_fingerprint_57 (by decide) ?_
      refine Vw.aload_n (pc := 58) (x := x0) K dX9_fingerprint_58 rfl ?_
      refine Vw.lload_n (pc := 59) (x := v13) K dX9_fingerprint_59 rfl ?_
      refine Vw.iload (pc := 60) (x := v10) K dX9_fingerprint_60 rfl ?_
      refine Vw.bipush (pc := 62) (v := (30 : Int32)) K (by decide) dX9_fingerprint_62 ?_
      refine Vw.iadd (pc := 64) K dX9_fingerprint_64 ?_
      refine Vw.aload_n (pc := 65) (x := x0) K dX9_fingerprint_65 rfl ?_
      refine Vw.getR (pc := 66) (k := 0) (f := 448) K cls7 rfl rfl u_6_17 g1 dX9_fingerprint_66 ?_
      refine Vw.iload (pc := 69) (x := v10) K dX9_fingerprint_69 rfl ?_
      refine Vw.iconst (pc := 71) (v := (1 : Int32)) K (by decide) dX9_fingerprint_71 ?_
      refine Vw.iadd (pc := 72) K dX9_fingerprint_72 ?_
      obtain ⟨g14, h⟩ := wgd h
      refine Vw.laload (pc := 73) K g2 g14 dX9_fingerprint_73 ?_
      obtain ⟨v16, e15, h⟩ := wbd h
      refine Vw.cV1 (pc := 74) (v := .inr (.inl v16)) (c' := 0) (n' := 0) K (s_X9_mixes K.tr e15) cal_X9_mixes cls7 u_8_113 g1 rfl ⟨by decide, by decide⟩ ⟨by decide, by decide⟩ rfl (Nat.le_of_ble_eq_true rfl) dX9_fingerprint_74 rfl rfl ?_
      refine Vw.lstore_n (pc := 77) K dX9_fingerprint_77 (by decide) ?_
      refine Vw.aload_n (pc := 78) (x := x0) K dX9_fingerprint_78 rfl ?_
      refine Vw.lload_n (pc := 79) (x := v16) K dX9_fingerprint_79 rfl ?_
      refine Vw.iload (pc := 80) (x := v10) K dX9_fingerprint_80 rfl ?_
      refine Vw.bipush (pc := 82) (v := (62 : Int32)) K (by decide) dX9_fingerprint_82 ?_
      refine Vw.iadd (pc := 84) K dX9_fingerprint_84 ?_
      refine Vw.aload_n (pc := 85) (x := x0) K dX9_fingerprint_85 rfl ?_
      refine Vw.getR (pc := 86) (k := 0) (f := 448) K cls7 rfl rfl u_6_17 g1 dX9_fingerprint_86 ?_
      refine Vw.iload (pc := 89) (x := v10) K dX9_fingerprint_89 rfl ?_
      refine Vw.iconst (pc := 91) (v := (2 : Int32)) K (by decide) dX9_fingerprint_91 ?_
      refine Vw.iadd (pc := 92) K dX9_fingerprint_92 ?_
      obtain ⟨g17, h⟩ := wgd h
      refine Vw.laload (pc := 93) K g2 g17 dX9_fingerprint_93 ?_
      obtain ⟨v19, e18, h⟩ := wbd h
      refine Vw.cV1 (pc := 94) (v := .inr (.inl v19)) (c' := 0) (n' := 0) K (s_X9_mixes K.tr e18) cal_X9_mixes cls7 u_8_113 g1 rfl ⟨by decide, by decide⟩ ⟨by decide, by decide⟩ rfl (Nat.le_of_ble_eq_true rfl) dX9_fingerprint_94 rfl rfl ?_
      refine Vw.lstore_n (pc := 97) K dX9_fingerprint_97 (by decide) ?_
      refine Vw.aload_n (pc := 98) (x := x0) K dX9_fingerprint_98 rfl ?_
      refine Vw.lload_n (pc := 99) (x := v19) K dX9_fingerprint_99 rfl ?_
      refine Vw.iload (pc := 100) (x := v10) K dX9_fingerprint_100 rfl ?_
      refine Vw.bipush (pc := 102) (v := (92 : Int32)) K (by decide) dX9_fingerprint_102 ?_
      refine Vw.iadd (pc := 104) K dX9_fingerprint_104 ?_
      refine Vw.aload_n (pc := 105) (x := x0) K dX9_fingerprint_105 rfl ?_
      refine Vw.getR (pc := 106) (k := 0) (f := 448) K cls7 rfl rfl u_6_17 g1 dX9_fingerprint_106 ?_
      refine Vw.iload (pc := 109) (x := v10) K dX9_fingerprint_109 rfl ?_
      refine Vw.iconst (pc := 111) (v := (3 : Int32)) K (by decide) dX9_fingerprint_111 ?_
      refine Vw.iadd (pc := 112) K dX9_fingerprint_112 ?_
      obtain ⟨g20, h⟩ := wgd h
      refine Vw.laload (pc := 113) K g2 g20 dX9_fingerprint_113 ?_
      obtain ⟨v22, e21, h⟩ := wbd h
      refine Vw.cV1 (pc := 114) (v := .inr (.inl v22)) (c' := 0) (n' := 0) K (s_X9_mixes K.tr e21) cal_X9_mixes cls7 u_8_113 g1 rfl ⟨by decide, by decide⟩ ⟨by decide, by decide⟩ rfl (Nat.le_of_ble_eq_true rfl) dX9_fingerprint_114 rfl rfl ?_
      refine Vw.lstore_n (pc := 117) K dX9_fingerprint_117 (by decide) ?_
      refine Vw.aload_n (pc := 118) (x := x0) K dX9_fingerprint_118 rfl ?_
      refine Vw.lload_n (pc := 119) (x := v22) K dX9_fingerprint_119 rfl ?_
      refine Vw.iload (pc := 120) (x := v10) K dX9_fingerprint_120 rfl ?_
      refine Vw.iconst (pc := 122) (v := (4 : Int32)) K (by decide) dX9_fingerprint_122 ?_
      refine Vw.iadd (pc := 123) K dX9_fingerprint_123 ?_
      refine Vw.ldc2 (pc := 124) (v := (4 : Int64)) K u_7_58 dX9_fingerprint_124 ?_
      obtain ⟨v24, e23, h⟩ := wbd h
      refine Vw.cV1 (pc := 127) (v := .inr (.inl v24)) (c' := 0) (n' := 0) K (s_X9_mixes K.tr e23) cal_X9_mixes cls7 u_8_113 g1 rfl ⟨by decide, by decide⟩ ⟨by decide, by decide⟩ rfl (Nat.le_of_ble_eq_true rfl) dX9_fingerprint_127 rfl rfl ?_
      refine Vw.lstore_n (pc := 130) K dX9_fingerprint_130 (by decide) ?_
      refine Vw.iinc (pc := 131) (x := x3) (v := (1 : Int32)) K dX9_fingerprint_131 rfl (by decide) (by decide) ?_
      refine Vw.goto (pc := 134) (tgt := 18) K dX9_fingerprint_134 (by decide) ?_
      exact Vw.loc rfl (hr18 _ _ _ h)
def f_X9_fingerprint (A : Hp) (x0 : Nat) : Option (Int64 × Hp) := if (hsh A x0).1 = 8 then if (hsh (hsI A 452 x0 0 (0 : Int32)) (hgR (hsI A 452 x0 0 (0 : Int32)) 448 x0 0)).1 = 11 then if wix (0 : Int32) (hsh (hsI A 452 x0 0 (0 : Int32)) (hgR (hsI A 452 x0 0 (0 : Int32)) 448 x0 0)).2 then k_X9_fingerprint_18 x0 FU (hsI A 452 x0 0 (0 : Int32)) ((713 : Int64) + (hgL (hsI A 452 x0 0 (0 : Int32)) 1035 (hgR (hsI A 452 x0 0 (0 : Int32)) 448 x0 0) (0 : Int32).toNatClampNeg)) (0 : Int32) else none else none else none
set_option maxRecDepth 100000 in
theorem s_X9_fingerprint {l : Launch} {g : GT} (hl : l.stackTraces = false) {A : Hp} {x0 : Nat} {r : Int64} {B : Hp} (h : f_X9_fingerprint A x0 = some (r, B)) : MetV l g yX9_fingerprint (.code yX9_fingerprint cX9_fingerprint 5 (some .long)) [.inr (.inr x0)] A (.inl (some (.inr (.inl r)))) B 5 123 0 0 := by
  refine MetV.ofV hl (by decide +kernel) (Nat.le_of_ble_eq_true rfl) (fun κ K E => ?_)
  have K : Cx κ cX9_fingerprint 5 RX9 5 123 0 0 := K
  have E : Ed κ (some .long) "fingerprint" (.inl (some (.inr (.inl r)))) B 0 0 := E
  unfold f_X9_fingerprint at h
  change Vw κ A 0 0 0 [(0, .inr (.inr x0))] []
  refine Vw.aload_n (pc := 0) (x := x0) K dX9_fingerprint_0 rfl ?_
  refine Vw.iconst (pc := 1) (v := (0 : Int32)) K (by decide) dX9_fingerprint_1 ?_
  obtain ⟨g25, h⟩ := wgd h
  refine Vw.putI (pc := 2) (k := 4) (f := 452) K cls7 rfl rfl u_6_21 g25 (Or.inl rfl) rfl rfl dX9_fingerprint_2 ?_
  refine Vw.ldc2 (pc := 5) (v := (713 : Int64)) K u_8_112 dX9_fingerprint_5 ?_
  refine Vw.aload_n (pc := 8) (x := x0) K dX9_fingerprint_8 rfl ?_
  refine Vw.getR (pc := 9) (k := 0) (f := 448) K cls7 rfl rfl u_6_17 g25 dX9_fingerprint_9 ?_
  refine Vw.iconst (pc := 12) (v := (0 : Int32)) K (by decide) dX9_fingerprint_12 ?_
  obtain ⟨g26, h⟩ := wgd h
  obtain ⟨g27, h⟩ := wgd h
  refine Vw.laload (pc := 13) K g26 g27 dX9_fingerprint_13 ?_
  refine Vw.ladd (pc := 14) K dX9_fingerprint_14 ?_
  refine Vw.lstore_n (pc := 15) K dX9_fingerprint_15 (by decide) ?_
  refine Vw.iconst (pc := 16) (v := (0 : Int32)) K (by decide) dX9_fingerprint_16 ?_
  refine Vw.istore_n (pc := 17) K dX9_fingerprint_17 (by decide) ?_
  exact Vw.loc rfl (s_X9_fingerprint_18 K E  _ _ _ _ h)
theorem cal_X9_fingerprint : wCalV RX9 yX9_fingerprint (.code yX9_fingerprint cX9_fingerprint 5 (some .long)) 0 := ⟨by decide +kernel, u_8_109, u_8_110, u_1_9, u_8_111⟩
