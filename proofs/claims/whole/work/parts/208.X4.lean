def k_X4_init_141  (A : Hp) (x0 : Nat)  : Option (Hp) := if (hsh A x0).1 = 3 then some (hsL (hsI (hsI A 138 x0 0 (0 : Int32)) 139 x0 0 (0 : Int32)) 140 x0 0 (0 : Int64)) else none
set_option maxRecDepth 100000 in
theorem s_X4_init_141 {κ : KT} {B : Hp} {A : Hp} {x0 : Nat}   (K : Cx κ cX4_init 2 RX4 3 65 421 8581) (E : Ed κ none "<init>" (.inl none) B 421 8581)  (h : k_X4_init_141  A x0  = some B) : Vw κ A 421 8581 141 [(0, .inr (.inr x0))] [] := by
  unfold k_X4_init_141 at h
  refine Vw.aload_n (pc := 141) (x := x0) K dX4_init_141 rfl ?_
  refine Vw.iconst (pc := 142) (v := (0 : Int32)) K (by decide) dX4_init_142 ?_
  obtain ⟨g1, h⟩ := wgd h
  refine Vw.putI (pc := 143) (k := 10) (f := 138) K cls2 rfl rfl u_2_23 g1 (Or.inl rfl) rfl rfl dX4_init_143 ?_
  refine Vw.aload_n (pc := 146) (x := x0) K dX4_init_146 rfl ?_
  refine Vw.iconst (pc := 147) (v := (0 : Int32)) K (by decide) dX4_init_147 ?_
  refine Vw.putI (pc := 148) (k := 11) (f := 139) K cls2 rfl rfl u_2_25 g1 (Or.inl rfl) rfl rfl dX4_init_148 ?_
  refine Vw.aload_n (pc := 151) (x := x0) K dX4_init_151 rfl ?_
  refine Vw.lconst (pc := 152) (v := (0 : Int64)) K (by decide) dX4_init_152 ?_
  refine Vw.putL (pc := 153) (k := 12) (f := 140) K cls2 rfl rfl u_2_27 g1 (Or.inl rfl) rfl rfl dX4_init_153 ?_
  exact Vw.vretE (pc := 156) K (Option.some.inj h) E (by decide) (by decide) dX4_init_156
def k_X4_init_15s  (x0 : Nat)  (rec15 : Hp → Int32 → Option (Hp)) (A : Hp) (x1 : Int32) : Option (Hp) := (if (41 : Int32) ≤ x1 then if (hsh A x0).1 = 3 then if (hsh (hmk (hsI A 129 x0 0 (0 : Int32)) 2 0) (hsz (hsI A 129 x0 0 (0 : Int32)))).1 = 2 then ((f_X1_init (hmk (hsI A 129 x0 0 (0 : Int32)) 2 0) (hsz (hsI A 129 x0 0 (0 : Int32)))).bind fun A6 => if (hsh A6 x0).1 = 3 then if (hsh (hmk (hsR A6 130 x0 0 (hsz (hsI A 129 x0 0 (0 : Int32)))) 10 41) x0).1 = 3 then if (hsh (hmk (hsR (hmk (hsR A6 130 x0 0 (hsz (hsI A 129 x0 0 (0 : Int32)))) 10 41) 131 x0 0 (hsz (hsR A6 130 x0 0 (hsz (hsI A 129 x0 0 (0 : Int32)))))) 6 0) (hsz (hsR (hmk (hsR A6 130 x0 0 (hsz (hsI A 129 x0 0 (0 : Int32)))) 10 41) 131 x0 0 (hsz (hsR A6 130 x0 0 (hsz (hsI A 129 x0 0 (0 : Int32)))))))).1 = 6 then ((f_X7_init (hmk (hsR (hmk (hsR A6 130 x0 0 (hsz (hsI A 129 x0 0 (0 : Int32)))) 10 41) 131 x0 0 (hsz (hsR A6 130 x0 0 (hsz (hsI A 129 x0 0 (0 : Int32)))))) 6 0) (hsz (hsR (hmk (hsR A6 130 x0 0 (hsz (hsI A 129 x0 0 (0 : Int32)))) 10 41) 131 x0 0 (hsz (hsR A6 130 x0 0 (hsz (hsI A 129 x0 0 (0 : Int32)))))))).bind fun A11 => if (hsh A11 x0).1 = 3 then if (hsh (hmk (hsR A11 132 x0 0 (hsz (hsR (hmk (hsR A6 130 x0 0 (hsz (hsI A 129 x0 0 (0 : Int32)))) 10 41) 131 x0 0 (hsz (hsR A6 130 x0 0 (hsz (hsI A 129 x0 0 (0 : Int32)))))))) 1 0) (hsz (hsR A11 132 x0 0 (hsz (hsR (hmk (hsR A6 130 x0 0 (hsz (hsI A 129 x0 0 (0 : Int32)))) 10 41) 131 x0 0 (hsz (hsR A6 130 x0 0 (hsz (hsI A 129 x0 0 (0 : Int32)))))))))).1 = 1 then ((f_X0_init (hmk (hsR A11 132 x0 0 (hsz (hsR (hmk (hsR A6 130 x0 0 (hsz (hsI A 129 x0 0 (0 : Int32)))) 10 41) 131 x0 0 (hsz (hsR A6 130 x0 0 (hsz (hsI A 129 x0 0 (0 : Int32)))))))) 1 0) (hsz (hsR A11 132 x0 0 (hsz (hsR (hmk (hsR A6 130 x0 0 (hsz (hsI A 129 x0 0 (0 : Int32)))) 10 41) 131 x0 0 (hsz (hsR A6 130 x0 0 (hsz (hsI A 129 x0 0 (0 : Int32)))))))))).bind fun A15 => if (hsh A15 x0).1 = 3 then if (hsh (hmk (hsR A15 133 x0 0 (hsz (hsR A11 132 x0 0 (hsz (hsR (hmk (hsR A6 130 x0 0 (hsz (hsI A 129 x0 0 (0 : Int32)))) 10 41) 131 x0 0 (hsz (hsR A6 130 x0 0 (hsz (hsI A 129 x0 0 (0 : Int32)))))))))) 1 0) (hsz (hsR A15 133 x0 0 (hsz (hsR A11 132 x0 0 (hsz (hsR (hmk (hsR A6 130 x0 0 (hsz (hsI A 129 x0 0 (0 : Int32)))) 10 41) 131 x0 0 (hsz (hsR A6 130 x0 0 (hsz (hsI A 129 x0 0 (0 : Int32)))))))))))).1 = 1 then ((f_X0_init (hmk (hsR A15 133 x0 0 (hsz (hsR A11 132 x0 0 (hsz (hsR (hmk (hsR A6 130 x0 0 (hsz (hsI A 129 x0 0 (0 : Int32)))) 10 41) 131 x0 0 (hsz (hsR A6 130 x0 0 (hsz (hsI A 129 x0 0 (0 : Int32)))))))))) 1 0) (hsz (hsR A15 133 x0 0 (hsz (hsR A11 132 x0 0 (hsz (hsR (hmk (hsR A6 130 x0 0 (hsz (hsI A 129 x0 0 (0 : Int32)))) 10 41) 131 x0 0 (hsz (hsR A6 130 x0 0 (hsz (hsI A 129 x0 0 (0 : Int32)))))))))))).bind fun A19 => if (hsh A19 x0).1 = 3 then if (hsh (hmk (hsR A19 134 x0 0 (hsz (hsR A15 133 x0 0 (hsz (hsR A11 132 x0 0 (hsz (hsR (hmk (hsR A6 130 x0 0 (hsz (hsI A 129 x0 0 (0 : Int32)))) 10 41) 131 x0 0 (hsz (hsR A6 130 x0 0 (hsz (hsI A 129 x0 0 (0 : Int32)))))))))))) 5 0) (hsz (hsR A19 134 x0 0 (hsz (hsR A15 133 x0 0 (hsz (hsR A11 132 x0 0 (hsz (hsR (hmk (hsR A6 130 x0 0 (hsz (hsI A 129 x0 0 (0 : Int32)))) 10 41) 131 x0 0 (hsz (hsR A6 130 x0 0 (hsz (hsI A 129 x0 0 (0 : Int32)))))))))))))).1 = 5 then ((f_X6_init (hmk (hsR A19 134 x0 0 (hsz (hsR A15 133 x0 0 (hsz (hsR A11 132 x0 0 (hsz (hsR (hmk (hsR A6 130 x0 0 (hsz (hsI A 129 x0 0 (0 : Int32)))) 10 41) 131 x0 0 (hsz (hsR A6 130 x0 0 (hsz (hsI A 129 x0 0 (0 : Int32)))))))))))) 5 0) (hsz (hsR A19 134 x0 0 (hsz (hsR A15 133 x0 0 (hsz (hsR A11 132 x0 0 (hsz (hsR (hmk (hsR A6 130 x0 0 (hsz (hsI A 129 x0 0 (0 : Int32)))) 10 41) 131 x0 0 (hsz (hsR A6 130 x0 0 (hsz (hsI A 129 x0 0 (0 : Int32))))))))))))) (2091 : Int32)).bind fun A23 => if (hsh A23 x0).1 = 3 then if (hsh (hmk (hsR A23 135 x0 0 (hsz (hsR A19 134 x0 0 (hsz (hsR A15 133 x0 0 (hsz (hsR A11 132 x0 0 (hsz (hsR (hmk (hsR A6 130 x0 0 (hsz (hsI A 129 x0 0 (0 : Int32)))) 10 41) 131 x0 0 (hsz (hsR A6 130 x0 0 (hsz (hsI A 129 x0 0 (0 : Int32)))))))))))))) 10 2) x0).1 = 3 then if (hsh (hsR (hmk (hsR A23 135 x0 0 (hsz (hsR A19 134 x0 0 (hsz (hsR A15 133 x0 0 (hsz (hsR A11 132 x0 0 (hsz (hsR (hmk (hsR A6 130 x0 0 (hsz (hsI A 129 x0 0 (0 : Int32)))) 10 41) 131 x0 0 (hsz (hsR A6 130 x0 0 (hsz (hsI A 129 x0 0 (0 : Int32)))))))))))))) 10 2) 136 x0 0 (hsz (hsR A23 135 x0 0 (hsz (hsR A19 134 x0 0 (hsz (hsR A15 133 x0 0 (hsz (hsR A11 132 x0 0 (hsz (hsR (hmk (hsR A6 130 x0 0 (hsz (hsI A 129 x0 0 (0 : Int32)))) 10 41) 131 x0 0 (hsz (hsR A6 130 x0 0 (hsz (hsI A 129 x0 0 (0 : Int32)))))))))))))))) (hgR (hsR (hmk (hsR A23 135 x0 0 (hsz (hsR A19 134 x0 0 (hsz (hsR A15 133 x0 0 (hsz (hsR A11 132 x0 0 (hsz (hsR (hmk (hsR A6 130 x0 0 (hsz (hsI A 129 x0 0 (0 : Int32)))) 10 41) 131 x0 0 (hsz (hsR A6 130 x0 0 (hsz (hsI A 129 x0 0 (0 : Int32)))))))))))))) 10 2) 136 x0 0 (hsz (hsR A23 135 x0 0 (hsz (hsR A19 134 x0 0 (hsz (hsR A15 133 x0 0 (hsz (hsR A11 132 x0 0 (hsz (hsR (hmk (hsR A6 130 x0 0 (hsz (hsI A 129 x0 0 (0 : Int32)))) 10 41) 131 x0 0 (hsz (hsR A6 130 x0 0 (hsz (hsI A 129 x0 0 (0 : Int32)))))))))))))))) 136 x0 0)).1 = 10 then if wix (0 : Int32) (hsh (hsR (hmk (hsR A23 135 x0 0 (hsz (hsR A19 134 x0 0 (hsz (hsR A15 133 x0 0 (hsz (hsR A11 132 x0 0 (hsz (hsR (hmk (hsR A6 130 x0 0 (hsz (hsI A 129 x0 0 (0 : Int32)))) 10 41) 131 x0 0 (hsz (hsR A6 130 x0 0 (hsz (hsI A 129 x0 0 (0 : Int32)))))))))))))) 10 2) 136 x0 0 (hsz (hsR A23 135 x0 0 (hsz (hsR A19 134 x0 0 (hsz (hsR A15 133 x0 0 (hsz (hsR A11 132 x0 0 (hsz (hsR (hmk (hsR A6 130 x0 0 (hsz (hsI A 129 x0 0 (0 : Int32)))) 10 41) 131 x0 0 (hsz (hsR A6 130 x0 0 (hsz (hsI A 129 x0 0 (0 : Int32)))))))))))))))) (hgR (hsR (hmk (hsR A23 135 x0 0 (hsz (hsR A19 134 x0 0 (hsz (hsR A15 133 x0 0 (hsz (hsR A11 132 x0 0 (hsz (hsR (hmk (hsR A6 130 x0 0 (hsz (hsI A 129 x0 0 (0 : Int32)))) 10 41) 131 x0 0 (hsz (hsR A6 130 x0 0 (hsz (hsI A 129 x0 0 (0 : Int32)))))))))))))) 10 2) 136 x0 0 (hsz (hsR A23 135 x0 0 (hsz (hsR A19 134 x0 0 (hsz (hsR A15 133 x0 0 (hsz (hsR A11 132 x0 0 (hsz (hsR (hmk (hsR A6 130 x0 0 (hsz (hsI A 129 x0 0 (0 : Int32)))) 10 41) 131 x0 0 (hsz (hsR A6 130 x0 0 (hsz (hsI A 129 x0 0 (0 : Int32)))))))))))))))) 136 x0 0)).2 then if (hsh (hsI (hsR (hmk (hsR A23 135 x0 0 (hsz (hsR A19 134 x0 0 (hsz (hsR A15 133 x0 0 (hsz (hsR A11 132 x0 0 (hsz (hsR (hmk (hsR A6 130 x0 0 (hsz (hsI A 129 x0 0 (0 : Int32)))) 10 41) 131 x0 0 (hsz (hsR A6 130 x0 0 (hsz (hsI A 129 x0 0 (0 : Int32)))))))))))))) 10 2) 136 x0 0 (hsz (hsR A23 135 x0 0 (hsz (hsR A19 134 x0 0 (hsz (hsR A15 133 x0 0 (hsz (hsR A11 132 x0 0 (hsz (hsR (hmk (hsR A6 130 x0 0 (hsz (hsI A 129 x0 0 (0 : Int32)))) 10 41) 131 x0 0 (hsz (hsR A6 130 x0 0 (hsz (hsI A 129 x0 0 (0 : Int32)))))))))))))))) 1034 (hgR (hsR (hmk (hsR A23 135 x0 0 (hsz (hsR A19 134 x0 0 (hsz (hsR A15 133 x0 0 (hsz (hsR A11 132 x0 0 (hsz (hsR (hmk (hsR A6 130 x0 0 (hsz (hsI A 129 x0 0 (0 : Int32)))) 10 41) 131 x0 0 (hsz (hsR A6 130 x0 0 (hsz (hsI A 129 x0 0 (0 : Int32)))))))))))))) 10 2) 136 x0 0 (hsz (hsR A23 135 x0 0 (hsz (hsR A19 134 x0 0 (hsz (hsR A15 133 x0 0 (hsz (hsR A11 132 x0 0 (hsz (hsR (hmk (hsR A6 130 x0 0 (hsz (hsI A 129 x0 0 (0 : Int32)))) 10 41) 131 x0 0 (hsz (hsR A6 130 x0 0 (hsz (hsI A 129 x0 0 (0 : Int32)))))))))))))))) 136 x0 0) (0 : Int32).toNatClampNeg (5 : Int32)) (hgR (hsI (hsR (hmk (hsR A23 135 x0 0 (hsz (hsR A19 134 x0 0 (hsz (hsR A15 133 x0 0 (hsz (hsR A11 132 x0 0 (hsz (hsR (hmk (hsR A6 130 x0 0 (hsz (hsI A 129 x0 0 (0 : Int32)))) 10 41) 131 x0 0 (hsz (hsR A6 130 x0 0 (hsz (hsI A 129 x0 0 (0 : Int32)))))))))))))) 10 2) 136 x0 0 (hsz (hsR A23 135 x0 0 (hsz (hsR A19 134 x0 0 (hsz (hsR A15 133 x0 0 (hsz (hsR A11 132 x0 0 (hsz (hsR (hmk (hsR A6 130 x0 0 (hsz (hsI A 129 x0 0 (0 : Int32)))) 10 41) 131 x0 0 (hsz (hsR A6 130 x0 0 (hsz (hsI A 129 x0 0 (0 : Int32)))))))))))))))) 1034 (hgR (hsR (hmk (hsR A23 135 x0 0 (hsz (hsR A19 134 x0 0 (hsz (hsR A15 133 x0 0 (hsz (hsR A11 132 x0 0 (hsz (hsR (hmk (hsR A6 130 x0 0 (hsz (hsI A 129 x0 0 (0 : Int32)))) 10 41) 131 x0 0 (hsz (hsR A6 130 x0 0 (hsz (hsI A 129 x0 0 (0 : Int32)))))))))))))) 10 2) 136 x0 0 (hsz (hsR A23 135 x0 0 (hsz (hsR A19 134 x0 0 (hsz (hsR A15 133 x0 0 (hsz (hsR A11 132 x0 0 (hsz (hsR (hmk (hsR A6 130 x0 0 (hsz (hsI A 129 x0 0 (0 : Int32)))) 10 41) 131 x0 0 (hsz (hsR A6 130 x0 0 (hsz (hsI A 129 x0 0 (0 : Int32)))))))))))))))) 136 x0 0) (0 : Int32).toNatClampNeg (5 : Int32)) 136 x0 0)).1 = 10 then if wix (1 : Int32) (hsh (hsI (hsR (hmk (hsR A23 135 x0 0 (hsz (hsR A19 134 x0 0 (hsz (hsR A15 133 x0 0 (hsz (hsR A11 132 x0 0 (hsz (hsR (hmk (hsR A6 130 x0 0 (hsz (hsI A 129 x0 0 (0 : Int32)))) 10 41) 131 x0 0 (hsz (hsR A6 130 x0 0 (hsz (hsI A 129 x0 0 (0 : Int32)))))))))))))) 10 2) 136 x0 0 (hsz (hsR A23 135 x0 0 (hsz (hsR A19 134 x0 0 (hsz (hsR A15 133 x0 0 (hsz (hsR A11 132 x0 0 (hsz (hsR (hmk (hsR A6 130 x0 0 (hsz (hsI A 129 x0 0 (0 : Int32)))) 10 41) 131 x0 0 (hsz (hsR A6 130 x0 0 (hsz (hsI A 129 x0 0 (0 : Int32)))))))))))))))) 1034 (hgR (hsR (hmk (hsR A23 135 x0 0 (hsz (hsR A19 134 x0 0 (hsz (hsR A15 133 x0 0 (hsz (hsR A11 132 x0 0 (hsz (hsR (hmk (hsR A6 130 x0 0 (hsz (hsI A 129 x0 0 (0 : Int32)))) 10 41) 131 x0 0 (hsz (hsR A6 130 x0 0 (hsz (hsI A 129 x0 0 (0 : Int32)))))))))))))) 10 2) 136 x0 0 (hsz (hsR A23 135 x0 0 (hsz (hsR A19 134 x0 0 (hsz (hsR A15 133 x0 0 (hsz (hsR A11 132 x0 0 (hsz (hsR (hmk (hsR A6 130 x0 0 (hsz (hsI A 129 x0 0 (0 : Int32)))) 10 41) 131 x0 0 (hsz (hsR A6 130 x0 0 (hsz (hsI A 129 x0 0 (0 : Int32)))))))))))))))) 136 x0 0) (0 : Int32).toNatClampNeg (5 : Int32)) (hgR (hsI (hsR (hmk (hsR A23 135 x0 0 (hsz (hsR A19 134 x0 0 (hsz (hsR A15 133 x0 0 (hsz (hsR A11 132 x0 0 (hsz (hsR (hmk (hsR A6 130 x0 0 (hsz (hsI A 129 x0 0 (0 : Int32)))) 10 41) 131 x0 0 (hsz (hsR A6 130 x0 0 (hsz (hsI A 129 x0 0 (0 : Int32)))))))))))))) 10 2) 136 x0 0 (hsz (hsR A23 135 x0 0 (hsz (hsR A19 134 x0 0 (hsz (hsR A15 133 x0 0 (hsz (hsR A11 132 x0 0 (hsz (hsR (hmk (hsR A6 130 x0 0 (hsz (hsI A 129 x0 0 (0 : Int32)))) 10 41) 131 x0 0 (hsz (hsR A6 130 x0 0 (hsz (hsI A 129 x0 0 (0 : Int32)))))))))))))))) 1034 (hgR (hsR (hmk (hsR A23 135 x0 0 (hsz (hsR A19 134 x0 0 (hsz (hsR A15 133 x0 0 (hsz (hsR A11 132 x0 0 (hsz (hsR (hmk (hsR A6 130 x0 0 (hsz (hsI A 129 x0 0 (0 : Int32)))) 10 41) 131 x0 0 (hsz (hsR A6 130 x0 0 (hsz (hsI A 129 x0 0 (0 : Int32)))))))))))))) 10 2) 136 x0 0 (hsz (hsR A23 135 x0 0 (hsz (hsR A19 134 x0 0 (hsz (hsR A15 133 x0 0 (hsz (hsR A11 132 x0 0 (hsz (hsR (hmk (hsR A6 130 x0 0 (hsz (hsI A 129 x0 0 (0 : Int32)))) 10 41) 131 x0 0 (hsz (hsR A6 130 x0 0 (hsz (hsI A 129 x0 0 (0 : Int32)))))))))))))))) 136 x0 0) (0 : Int32).toNatClampNeg (5 : Int32)) 136 x0 0)).2 then if (hsh (hmk (hsI (hsI (hsR (hmk (hsR A23 135 x0 0 (hsz (hsR A19 134 x0 0 (hsz (hsR A15 133 x0 0 (hsz (hsR A11 132 x0 0 (hsz (hsR (hmk (hsR A6 130 x0 0 (hsz (hsI A 129 x0 0 (0 : Int32)))) 10 41) 131 x0 0 (hsz (hsR A6 130 x0 0 (hsz (hsI A 129 x0 0 (0 : Int32)))))))))))))) 10 2) 136 x0 0 (hsz (hsR A23 135 x0 0 (hsz (hsR A19 134 x0 0 (hsz (hsR A15 133 x0 0 (hsz (hsR A11 132 x0 0 (hsz (hsR (hmk (hsR A6 130 x0 0 (hsz (hsI A 129 x0 0 (0 : Int32)))) 10 41) 131 x0 0 (hsz (hsR A6 130 x0 0 (hsz (hsI A 129 x0 0 (0 : Int32)))))))))))))))) 1034 (hgR (hsR (hmk (hsR A23 135 x0 0 (hsz (hsR A19 134 x0 0 (hsz (hsR A15 133 x0 0 (hsz (hsR A11 132 x0 0 (hsz (hsR (hmk (hsR A6 130 x0 0 (hsz (hsI A 129 x0 0 (0 : Int32)))) 10 41) 131 x0 0 (hsz (hsR A6 130 x0 0 (hsz (hsI A 129 x0 0 (0 : Int32)))))))))))))) 10 2) 136 x0 0 (hsz (hsR A23 135 x0 0 (hsz (hsR A19 134 x0 0 (hsz (hsR A15 133 x0 0 (hsz (hsR A11 132 x0 0 (hsz (hsR (hmk (hsR A6 130 x0 0 (hsz (hsI A 129 x0 0 (0 : Int32)))) 10 41) 131 x0 0 (hsz (hsR A6 130 x0 0 (hsz (hsI A 129 x0 0 (0 : Int32)))))))))))))))) 136 x0 0) (0 : Int32).toNatClampNeg (5 : Int32)) 1034 (hgR (hsI (hsR (hmk (hsR A23 135 x0 0 (hsz (hsR A19 134 x0 0 (hsz (hsR A15 133 x0 0 (hsz (hsR A11 132 x0 0 (hsz (hsR (hmk (hsR A6 130 x0 0 (hsz (hsI A 129 x0 0 (0 : Int32)))) 10 41) 131 x0 0 (hsz (hsR A6 130 x0 0 (hsz (hsI A 129 x0 0 (0 : Int32)))))))))))))) 10 2) 136 x0 0 (hsz (hsR A23 135 x0 0 (hsz (hsR A19 134 x0 0 (hsz (hsR A15 133 x0 0 (hsz (hsR A11 132 x0 0 (hsz (hsR (hmk (hsR A6 130 x0 0 (hsz (hsI A 129 x0 0 (0 : Int32)))) 10 41) 131 x0 0 (hsz (hsR A6 130 x0 0 (hsz (hsI A 129 x0 0 (0 : Int32)))))))))))))))) 1034 (hgR (hsR (hmk (hsR A23 135 x0 0 (hsz (hsR A19 134 x0 0 (hsz (hsR A15 133 x0 0 (hsz (hsR A11 132 x0 0 (hsz (hsR (hmk (hsR A6 130 x0 0 (hsz (hsI A 129 x0 0 (0 : Int32)))) 10 41) 131 x0 0 (hsz (hsR A6 130 x0 0 (hsz (hsI A 129 x0 0 (0 : Int32)))))))))))))) 10 2) 136 x0 0 (hsz (hsR A23 135 x0 0 (hsz (hsR A19 134 x0 0 (hsz (hsR A15 133 x0 0 (hsz (hsR A11 132 x0 0 (hsz (hsR (hmk (hsR A6 130 x0 0 (hsz (hsI A 129 x0 0 (0 : Int32)))) 10 41) 131 x0 0 (hsz (hsR A6 130 x0 0 (hsz (hsI A 129 x0 0 (0 : Int32)))))))))))))))) 136 x0 0) (0 : Int32).toNatClampNeg (5 : Int32)) 136 x0 0) (1 : Int32).toNatClampNeg (20 : Int32)) 10 7) x0).1 = 3 then k_X4_init_141 (hsR (hmk (hsI (hsI (hsR (hmk (hsR A23 135 x0 0 (hsz (hsR A19 134 x0 0 (hsz (hsR A15 133 x0 0 (hsz (hsR A11 132 x0 0 (hsz (hsR (hmk (hsR A6 130 x0 0 (hsz (hsI A 129 x0 0 (0 : Int32)))) 10 41) 131 x0 0 (hsz (hsR A6 130 x0 0 (hsz (hsI A 129 x0 0 (0 : Int32)))))))))))))) 10 2) 136 x0 0 (hsz (hsR A23 135 x0 0 (hsz (hsR A19 134 x0 0 (hsz (hsR A15 133 x0 0 (hsz (hsR A11 132 x0 0 (hsz (hsR (hmk (hsR A6 130 x0 0 (hsz (hsI A 129 x0 0 (0 : Int32)))) 10 41) 131 x0 0 (hsz (hsR A6 130 x0 0 (hsz (hsI A 129 x0 0 (0 : Int32)))))))))))))))) 1034 (hgR (hsR (hmk (hsR A23 135 x0 0 (hsz (hsR A19 134 x0 0 (hsz (hsR A15 133 x0 0 (hsz (hsR A11 132 x0 0 (hsz (hsR (hmk (hsR A6 130 x0 0 (hsz (hsI A 129 x0 0 (0 : Int32)))) 10 41) 131 x0 0 (hsz (hsR A6 130 x0 0 (hsz (hsI A 129 x0 0 (0 : Int32)))))))))))))) 10 2) 136 x0 0 (hsz (hsR A23 135 x0 0 (hsz (hsR A19 134 x0 0 (hsz (hsR A15 133 x0 0 (hsz (hsR A11 132 x0 0 (hsz (hsR (hmk (hsR A6 130 x0 0 (hsz (hsI A 129 x0 0 (0 : Int32)))) 10 41) 131 x0 0 (hsz (hsR A6 130 x0 0 (hsz (hsI A 129 x0 0 (0 : Int32)))))))))))))))) 136 x0 0) (0 : Int32).toNatClampNeg (5 : Int32)) 1034 (hgR (hsI (hsR (hmk (hsR A23 135 x0 0 (hsz (hsR A19 134 x0 0 (hsz (hsR A15 133 x0 0 (hsz (hsR A11 132 x0 0 (hsz (hsR (hmk (hsR A6 130 x0 0 (hsz (hsI A 129 x0 0 (0 : Int32)))) 10 41) 131 x0 0 (hsz (hsR A6 130 x0 0 (hsz (hsI A 129 x0 0 (0 : Int32)))))))))))))) 10 2) 136 x0 0 (hsz (hsR A23 135 x0 0 (hsz (hsR A19 134 x0 0 (hsz (hsR A15 133 x0 0 (hsz (hsR A11 132 x0 0 (hsz (hsR (hmk (hsR A6 130 x0 0 (hsz (hsI A 129 x0 0 (0 : Int32)))) 10 41) 131 x0 0 (hsz (hsR A6 130 x0 0 (hsz (hsI A 129 x0 0 (0 : Int32)))))))))))))))) 1034 (hgR (hsR (hmk (hsR A23 135 x0 0 (hsz (hsR A19 134 x0 0 (hsz (hsR A15 133 x0 0 (hsz (hsR A11 132 x0 0 (hsz (hsR (hmk (hsR A6 130 x0 0 (hsz (hsI A 129 x0 0 (0 : Int32)))) 10 41) 131 x0 0 (hsz (hsR A6 130 x0 0 (hsz (hsI A 129 x0 0 (0 : Int32)))))))))))))) 10 2) 136 x0 0 (hsz (hsR A23 135 x0 0 (hsz (hsR A19 134 x0 0 (hsz (hsR A15 133 x0 0 (hsz (hsR A11 132 x0 0 (hsz (hsR (hmk (hsR A6 130 x0 0 (hsz (hsI A 129 x0 0 (0 : Int32)))) 10 41) 131 x0 0 (hsz (hsR A6 130 x0 0 (hsz (hsI A 129 x0 0 (0 : Int32)))))))))))))))) 136 x0 0) (0 : Int32).toNatClampNeg (5 : Int32)) 136 x0 0) (1 : Int32).toNatClampNeg (20 : Int32)) 10 7) 137 x0 0 (hsz (hsI (hsI (hsR (hmk (hsR A23 135 x0 0 (hsz (hsR A19 134 x0 0 (hsz (hsR A15 133 x0 0 (hsz (hsR A11 132 x0 0 (hsz (hsR (hmk (hsR A6 130 x0 0 (hsz (hsI A 129 x0 0 (0 : Int32)))) 10 41) 131 x0 0 (hsz (hsR A6 130 x0 0 (hsz (hsI A 129 x0 0 (0 : Int32)))))))))))))) 10 2) 136 x0 0 (hsz (hsR A23 135 x0 0 (hsz (hsR A19 134 x0 0 (hsz (hsR A15 133 x0 0 (hsz (hsR A11 132 x0 0 (hsz (hsR (hmk (hsR A6 130 x0 0 (hsz (hsI A 129 x0 0 (0 : Int32)))) 10 41) 131 x0 0 (hsz (hsR A6 130 x0 0 (hsz (hsI A 129 x0 0 (0 : Int32)))))))))))))))) 1034 (hgR (hsR (hmk (hsR A23 135 x0 0 (hsz (hsR A19 134 x0 0 (hsz (hsR A15 133 x0 0 (hsz (hsR A11 132 x0 0 (hsz (hsR (hmk (hsR A6 130 x0 0 (hsz (hsI A 129 x0 0 (0 : Int32)))) 10 41) 131 x0 0 (hsz (hsR A6 130 x0 0 (hsz (hsI A 129 x0 0 (0 : Int32)))))))))))))) 10 2) 136 x0 0 (hsz (hsR A23 135 x0 0 (hsz (hsR A19 134 x0 0 (hsz (hsR A15 133 x0 0 (hsz (hsR A11 132 x0 0 (hsz (hsR (hmk (hsR A6 130 x0 0 (hsz (hsI A 129 x0 0 (0 : Int32)))) 10 41) 131 x0 0 (hsz (hsR A6 130 x0 0 (hsz (hsI A 129 x0 0 (0 : Int32)))))))))))))))) 136 x0 0) (0 : Int32).toNatClampNeg (5 : Int32)) 1034 (hgR (hsI (hsR (hmk (hsR A23 135 x0 0 (hsz (hsR A19 134 x0 0 (hsz (hsR A15 133 x0 0 (hsz (hsR A11 132 x0 0 (hsz (hsR (hmk (hsR A6 130 x0 0 (hsz (hsI A 129 x0 0 (0 : Int32)))) 10 41) 131 x0 0 (hsz (hsR A6 130 x0 0 (hsz (hsI A 129 x0 0 (0 : Int32)))))))))))))) 10 2) 136 x0 0 (hsz (hsR A23 135 x0 0 (hsz (hsR A19 134 x0 0 (hsz (hsR A15 133 x0 0 (hsz (hsR A11 132 x0 0 (hsz (hsR (hmk (hsR A6 130 x0 0 (hsz (hsI A 129 x0 0 (0 : Int32)))) 10 41) 131 x0 0 (hsz (hsR A6 130 x0 0 (hsz (hsI A 129 x0 0 (0 : Int32)))))))))))))))) 1034 (hgR (hsR (hmk (hsR A23 135 x0 0 (hsz (hsR A19 134 x0 0 (hsz (hsR A15 133 x0 0 (hsz (hsR A11 132 x0 0 (hsz (hsR (hmk (hsR A6 130 x0 0 (hsz (hsI A 129 x0 0 (0 : Int32)))) 10 41) 131 x0 0 (hsz (hsR A6 130 x0 0 (hsz (hsI A 129 x0 0 (0 : Int32)))))))))))))) 10 2) 136 x0 0 (hsz (hsR A23 135 x0 0 (hsz (hsR A19 134 x0 0 (hsz (hsR A15 133 x0 0 (hsz (hsR A11 132 x0 0 (hsz (hsR (hmk (hsR A6 130 x0 0 (hsz (hsI A 129 x0 0 (0 : Int32)))) 10 41) 131 x0 0 (hsz (hsR A6 130 x0 0 (hsz (hsI A 129 x0 0 (0 : Int32)))))))))))))))) 136 x0 0) (0 : Int32).toNatClampNeg (5 : Int32)) 136 x0 0) (1 : Int32).toNatClampNeg (20 : Int32)))) x0 else none else none else none else none else none else none else none) else none else none) else none else none) else none else none) else none else none else none) else none else none else if (hsh A x0).1 = 3 then if (hsh (hmk A 2 0) (hsz A)).1 = 2 then ((f_X1_init (hmk A 2 0) (hsz A)).bind fun A34 => if (hsh A34 (hgR A 128 x0 0)).1 = 13 then if (hsh A34 (hsz A)).1 = 2 then if wix x1 (hsh A34 (hgR A 128 x0 0)).2 then rec15 (hsR A34 1037 (hgR A 128 x0 0) x1.toNatClampNeg (hsz A)) (x1 + (1 : Int32)) else none else none else none) else none else none)
def k_X4_init_15  (x0 : Nat)  : Nat → Hp → Int32 → Option (Hp)
  | 0 => fun _ _ => none
  | fu + 1 => k_X4_init_15s x0  (k_X4_init_15 x0  fu)
set_option maxRecDepth 100000 in
theorem s_X4_init_15 {κ : KT} {B : Hp}  {x0 : Nat}  (K : Cx κ cX4_init 2 RX4 3 65 421 8581) (E : Ed κ none "<init>" (.inl none) B 421 8581)  : ∀ (fu : Nat) (c n : Nat) (A : Hp) (x1 : Int32), c + fu * 9 ≤ 379 → n + fu * 139 ≤ 5879 → k_X4_init_15 x0  fu A x1 = some B → Vw κ A c n 15 [(0, .inr (.inr x0)), (1, .inl x1)] [] := by
  intro fu
  induction fu with
  | zero => intro c n A x1 hc9 hn9 h; cases h
  | succ fu hr15 =>
    intro c n A x1 hc9 hn9 h
    have h : k_X4_init_15s x0  (k_X4_init_15 x0  fu) A x1 = some B := h
    unfold k_X4_init_15s at h
    refine Vw.iload_n (pc := 15) (x := x1) K dX4_init_15 rfl ?_
    refine Vw.bipush (pc := 16) (v := (41 : Int32)) K (by decide) dX4_init_16 ?_
    refine Vw.icmp_ge (pc := 18) (tgt := 40) K dX4_init_18 (by decide) (fun c2 => ?_) (fun c2 => ?_)
    · have h := wpos c2 h
      refine Vw.wid (c' := 379) (n' := 5879) (by omega) (by omega) ?_
      refine Vw.aload_n (pc := 40) (x := x0) K dX4_init_40 rfl ?_
      refine Vw.iconst (pc := 41) (v := (0 : Int32)) K (by decide) dX4_init_41 ?_
      obtain ⟨g3, h⟩ := wgd h
      refine Vw.putI (pc := 42) (k := 1) (f := 129) K cls2 rfl rfl u_2_7 g3 (Or.inl rfl) rfl rfl dX4_init_42 ?_
      refine Vw.aload_n (pc := 45) (x := x0) K dX4_init_45 rfl ?_
      refine Vw.newc (pc := 46) (c := 379) (n := 5879) (c' := 380) (n' := 5892) K cls1 clsd1 u_1_123 (by decide) (by decide) dX4_init_46 rfl rfl ?_
      refine Vw.dup (pc := 49) K rfl dX4_init_49 ?_
      obtain ⟨g4, h⟩ := wgd h
      obtain ⟨A6, e5, h⟩ := wbd h
      refine Vw.cI0K (pc := 50) (c' := 388) (n' := 6018) K (s_X1_init K.tr e5) cal_X1_init u_1_126 g4 rfl ⟨by decide, by decide⟩ ⟨by decide, by decide⟩ rfl (Nat.le_of_ble_eq_true rfl) dX4_init_50 rfl rfl ?_
      obtain ⟨g7, h⟩ := wgd h
      refine Vw.putR (pc := 53) (k := 2) (f := 130) K cls2 rfl rfl u_2_9 g7 (Or.inr ⟨rfl, E.2.2.1, rfl⟩) (wRn _ _) (wRf _ _) dX4_init_53 ?_
      refine Vw.aload_n (pc := 56) (x := x0) K dX4_init_56 rfl ?_
      refine Vw.bipush (pc := 57) (v := (41 : Int32)) K (by decide) dX4_init_57 ?_
      refine Vw.newI_ (pc := 59) (c := 388) (n := 6018) (c' := 389) (n' := 6059) (N := 41) K u_1_215 (by decide) (by decide) (by decide) (by decide) (by decide) dX4_init_59 rfl rfl ?_
      obtain ⟨g8, h⟩ := wgd h
      refine Vw.putR (pc := 61) (k := 3) (f := 131) K cls2 rfl rfl u_2_10 g8 (Or.inr ⟨rfl, E.2.2.1, rfl⟩) (wAn _ _) (wAf _ _) dX4_init_61 ?_
      refine Vw.aload_n (pc := 64) (x := x0) K dX4_init_64 rfl ?_
      refine Vw.newc (pc := 65) (c := 389) (n := 6059) (c' := 390) (n' := 6061) K cls5 clsd5 u_1_198 (by decide) (by decide) dX4_init_65 rfl rfl ?_
      refine Vw.dup (pc := 68) K rfl dX4_init_68 ?_
      obtain ⟨g9, h⟩ := wgd h
      obtain ⟨A11, e10, h⟩ := wbd h
      refine Vw.cI0K (pc := 69) (c' := 407) (n' := 6323) K (s_X7_init K.tr e10) cal_X7_init u_1_200 g9 rfl ⟨by decide, by decide⟩ ⟨by decide, by decide⟩ rfl (Nat.le_of_ble_eq_true rfl) dX4_init_69 rfl rfl ?_
      obtain ⟨g12, h⟩ := wgd h
      refine Vw.putR (pc := 72) (k := 4) (f := 132) K cls2 rfl rfl u_2_11 g12 (Or.inr ⟨rfl, E.2.2.1, rfl⟩) (wRn _ _) (wRf _ _) dX4_init_72 ?_
      refine Vw.aload_n (pc := 75) (x := x0) K dX4_init_75 rfl ?_
      refine Vw.newc (pc := 76) (c := 407) (n := 6323) (c' := 408) (n' := 6327) K cls0 clsd0 u_1_216 (by decide) (by decide) dX4_init_76 rfl rfl ?_
      refine Vw.dup (pc := 79) K rfl dX4_init_79 ?_
      obtain ⟨g13, h⟩ := wgd h
      obtain ⟨A15, e14, h⟩ := wbd h
      refine Vw.cI0K (pc := 80) (c' := 412) (n' := 6401) K (s_X0_init K.tr e14) cal_X0_init u_1_218 g13 rfl ⟨by decide, by decide⟩ ⟨by decide, by decide⟩ rfl (Nat.le_of_ble_eq_true rfl) dX4_init_80 rfl rfl ?_
      obtain ⟨g16, h⟩ := wgd h
      refine Vw.putR (pc := 83) (k := 5) (f := 133) K cls2 rfl rfl u_2_13 g16 (Or.inr ⟨rfl, E.2.2.1, rfl⟩) (wRn _ _) (wRf _ _) dX4_init_83 ?_
      refine Vw.aload_n (pc := 86) (x := x0) K dX4_init_86 rfl ?_
      refine Vw.newc (pc := 87) (c := 412) (n := 6401) (c' := 413) (n' := 6405) K cls0 clsd0 u_1_216 (by decide) (by decide) dX4_init_87 rfl rfl ?_
      refine Vw.dup (pc := 90) K rfl dX4_init_90 ?_
      obtain ⟨g17, h⟩ := wgd h
      obtain ⟨A19, e18, h⟩ := wbd h
      refine Vw.cI0K (pc := 91) (c' := 417) (n' := 6479) K (s_X0_init K.tr e18) cal_X0_init u_1_218 g17 rfl ⟨by decide, by decide⟩ ⟨by decide, by decide⟩ rfl (Nat.le_of_ble_eq_true rfl) dX4_init_91 rfl rfl ?_
      obtain ⟨g20, h⟩ := wgd h
      refine Vw.putR (pc := 94) (k := 6) (f := 134) K cls2 rfl rfl u_2_15 g20 (Or.inr ⟨rfl, E.2.2.1, rfl⟩) (wRn _ _) (wRf _ _) dX4_init_94 ?_
      refine Vw.aload_n (pc := 97) (x := x0) K dX4_init_97 rfl ?_
      refine Vw.newc (pc := 98) (c := 417) (n := 6479) (c' := 418) (n' := 6481) K cls4 clsd4 u_2_3 (by decide) (by decide) dX4_init_98 rfl rfl ?_
      refine Vw.dup (pc := 101) K rfl dX4_init_101 ?_
      refine Vw.sipush (pc := 102) (v := (2091 : Int32)) K (by decide) dX4_init_102 ?_
      obtain ⟨g21, h⟩ := wgd h
      obtain ⟨A23, e22, h⟩ := wbd h
      refine Vw.cI0K (pc := 105) (c' := 419) (n' := 8572) K (s_X6_init (ms := 2091) (by decide) K.tr e22) cal_X6_init u_2_4 g21 rfl ⟨by decide, by decide⟩ ⟨by decide, by decide⟩ rfl (Nat.le_of_ble_eq_true rfl) dX4_init_105 rfl rfl ?_
      obtain ⟨g24, h⟩ := wgd h
      refine Vw.putR (pc := 108) (k := 7) (f := 135) K cls2 rfl rfl u_2_17 g24 (Or.inr ⟨rfl, E.2.2.1, rfl⟩) (wRn _ _) (wRf _ _) dX4_init_108 ?_
      refine Vw.aload_n (pc := 111) (x := x0) K dX4_init_111 rfl ?_
      refine Vw.iconst (pc := 112) (v := (2 : Int32)) K (by decide) dX4_init_112 ?_
      refine Vw.newI_ (pc := 113) (c := 419) (n := 8572) (c' := 420) (n' := 8574) (N := 2) K u_1_215 (by decide) (by decide) (by decide) (by decide) (by decide) dX4_init_113 rfl rfl ?_
      obtain ⟨g25, h⟩ := wgd h
      refine Vw.putR (pc := 115) (k := 8) (f := 136) K cls2 rfl rfl u_2_19 g25 (Or.inr ⟨rfl, E.2.2.1, rfl⟩) (wAn _ _) (wAf _ _) dX4_init_115 ?_
      refine Vw.aload_n (pc := 118) (x := x0) K dX4_init_118 rfl ?_
      refine Vw.getR (pc := 119) (k := 8) (f := 136) K cls2 rfl rfl u_2_19 g25 dX4_init_119 ?_
      refine Vw.iconst (pc := 122) (v := (0 : Int32)) K (by decide) dX4_init_122 ?_
      refine Vw.iconst (pc := 123) (v := (5 : Int32)) K (by decide) dX4_init_123 ?_
      obtain ⟨g26, h⟩ := wgd h
      obtain ⟨g27, h⟩ := wgd h
      refine Vw.iastore (pc := 124) K g26 g27 dX4_init_124 ?_
      refine Vw.aload_n (pc := 125) (x := x0) K dX4_init_125 rfl ?_
      refine Vw.getR (pc := 126) (k := 8) (f := 136) K cls2 rfl rfl u_2_19 g25 dX4_init_126 ?_
      refine Vw.iconst (pc := 129) (v := (1 : Int32)) K (by decide) dX4_init_129 ?_
      refine Vw.bipush (pc := 130) (v := (20 : Int32)) K (by decide) dX4_init_130 ?_
      obtain ⟨g28, h⟩ := wgd h
      obtain ⟨g29, h⟩ := wgd h
      refine Vw.iastore (pc := 132) K g28 g29 dX4_init_132 ?_
      refine Vw.aload_n (pc := 133) (x := x0) K dX4_init_133 rfl ?_
      refine Vw.bipush (pc := 134) (v := (7 : Int32)) K (by decide) dX4_init_134 ?_
      refine Vw.newI_ (pc := 136) (c := 420) (n := 8574) (c' := 421) (n' := 8581) (N := 7) K u_1_215 (by decide) (by decide) (by decide) (by decide) (by decide) dX4_init_136 rfl rfl ?_
      obtain ⟨g30, h⟩ := wgd h
      refine Vw.putR (pc := 138) (k := 9) (f := 137) K cls2 rfl rfl u_2_21 g30 (Or.inr ⟨rfl, E.2.2.1, rfl⟩) (wAn _ _) (wAf _ _) dX4_init_138 ?_
      exact Vw.loc rfl (s_X4_init_141 K E  h)
    · have h := wneg c2 h
      refine Vw.aload_n (pc := 21) (x := x0) K dX4_init_21 rfl ?_
      obtain ⟨g31, h⟩ := wgd h
      refine Vw.getR (pc := 22) (k := 0) (f := 128) K cls2 rfl rfl u_2_5 g31 dX4_init_22 ?_
      refine Vw.iload_n (pc := 25) (x := x1) K dX4_init_25 rfl ?_
      refine Vw.newc (pc := 26) (c := c) (n := n) (c' := c + 1) (n' := n + 13) K cls1 clsd1 u_1_123 (by omega) (by omega) dX4_init_26 rfl rfl ?_
      refine Vw.dup (pc := 29) K rfl dX4_init_29 ?_
      obtain ⟨g32, h⟩ := wgd h
      obtain ⟨A34, e33, h⟩ := wbd h
      refine Vw.cI0K (pc := 30) (c' := c + 9) (n' := n + 139) K (s_X1_init K.tr e33) cal_X1_init u_1_126 g32 rfl ⟨by decide, by decide⟩ ⟨by omega, by omega⟩ rfl (Nat.le_of_ble_eq_true rfl) dX4_init_30 rfl rfl ?_
      obtain ⟨g35, h⟩ := wgd h
      obtain ⟨g36, h⟩ := wgd h
      obtain ⟨g37, h⟩ := wgd h
      refine Vw.aastoreC (pc := 33) K g35 g36 g37 dX4_init_33 ?_
      refine Vw.iinc (pc := 34) (x := x1) (v := (1 : Int32)) K dX4_init_34 rfl (by decide) (by decide) ?_
      refine Vw.goto (pc := 37) (tgt := 15) K dX4_init_37 (by decide) ?_
      exact Vw.loc rfl (hr15 _ _ _ _ (by omega) (by omega) h)
def f_X4_init (A : Hp) (x0 : Nat) : Option (Hp) := if (hsh A x0).1 = 3 then if (hsh (hmk A 13 41) x0).1 = 3 then k_X4_init_15 x0 42 (hsR (hmk A 13 41) 128 x0 0 (hsz A)) (0 : Int32) else none else none
set_option maxRecDepth 100000 in
theorem s_X4_init {l : Launch} {g : GT} (hl : l.stackTraces = false) {A : Hp} {x0 : Nat} {B : Hp} (h : f_X4_init A x0 = some B) : MetV l g yX4_init (.code yX4_init cX4_init 2 none) [.inr (.inr x0)] A (.inl none) B 3 65 421 8581 := by
  refine MetV.ofV hl (by decide +kernel) (Nat.le_of_ble_eq_true rfl) (fun κ K E => ?_)
  have K : Cx κ cX4_init 2 RX4 3 65 421 8581 := K
  have E : Ed κ none "<init>" (.inl none) B 421 8581 := E
  unfold f_X4_init at h
  change Vw κ A 0 0 0 [(0, .inr (.inr x0))] []
  refine Vw.aload_n (pc := 0) (x := x0) K dX4_init_0 rfl ?_
  obtain ⟨g38, h⟩ := wgd h
  refine Vw.objInitK (pc := 1) K u_1_122 u_1_30 u_1_31 g38 (by decide) (Nat.le_of_ble_eq_true rfl) dX4_init_1 ?_
  refine Vw.aload_n (pc := 4) (x := x0) K dX4_init_4 rfl ?_
  refine Vw.bipush (pc := 5) (v := (41 : Int32)) K (by decide) dX4_init_5 ?_
  refine Vw.newqC_ (pc := 7) (c := 0) (n := 0) (c' := 1) (n' := 41) (N := 41) K u_1_123 (by decide) (by decide) (by decide) (by decide) (by decide) dX4_init_7 rfl rfl ?_
  obtain ⟨g39, h⟩ := wgd h
  refine Vw.putR (pc := 10) (k := 0) (f := 128) K cls2 rfl rfl u_2_5 g39 (Or.inr ⟨rfl, E.2.2.1, rfl⟩) (wAn _ _) (wAf _ _) dX4_init_10 ?_
  refine Vw.iconst (pc := 13) (v := (0 : Int32)) K (by decide) dX4_init_13 ?_
  refine Vw.istore_n (pc := 14) K dX4_init_14 (by decide) ?_
  exact Vw.loc rfl (s_X4_init_15 K E _ _ _ _ _ (by decide) (by decide) h)
theorem cal_X4_init : wCalI yX4_init (.code yX4_init cX4_init 2 none) 0 := ⟨by decide +kernel, u_1_120, u_1_5, u_1_121, rfl⟩
def k_X4_isCrossSite_51  (A : Hp)   : Option (Int32) := some (1 : Int32)
set_option maxRecDepth 100000 in
theorem s_X4_isCrossSite_51 {κ : KT} {r : Int32} {A : Hp}    (K : Cx κ cX4_isCrossSite 1 RX4 5 111 0 0) (E : Ed κ (some .boolean) "isCrossSite" (.inl (some (.inl r))) A 0 0)  (h : k_X4_isCrossSite_51  A   = some r) : Vw κ A 0 0 51 [] [] := by
  unfold k_X4_isCrossSite_51 at h
  refine Vw.iconst (pc := 51) (v := (1 : Int32)) K (by decide) dX4_isCrossSite_51 ?_
  refine Vw.goto (pc := 52) (tgt := 56) K dX4_isCrossSite_52 (by decide) ?_
  exact Vw.zretE (pc := 56) K (Or.inr rfl) (Option.some.inj h) rfl E (by decide) (by decide) dX4_isCrossSite_56
def f_X4_isCrossSite (A : Hp) (x0 : Nat) : Option (Int32) := if (hsh A x0).1 = 3 then if (hsh A (hgR A 133 x0 0)).1 = 1 then (if (hgI A 2 (hgR A 133 x0 0) 0) = (0 : Int32) then some (0 : Int32) else if (hsh A (hgR A 134 x0 0)).1 = 1 then (if (hgI A 3 (hgR A 133 x0 0) 0) = (hgI A 3 (hgR A 134 x0 0) 0) then if (hsh A (hgR A 132 x0 0)).1 = 6 then ((f_X7_sameSites A (hgR A 132 x0 0) (hgR A 0 (hgR A 133 x0 0) 0) (hgR A 0 (hgR A 134 x0 0) 0)).bind fun v8 => (if v8 = (0 : Int32) then k_X4_isCrossSite_51 A else some (0 : Int32))) else none else k_X4_isCrossSite_51 A) else none) else none else none
set_option maxRecDepth 100000 in
theorem s_X4_isCrossSite {l : Launch} {g : GT} (hl : l.stackTraces = false) {A : Hp} {x0 : Nat} {r : Int32} (h : f_X4_isCrossSite A x0 = some r) : MetV l g yX4_isCrossSite (.code yX4_isCrossSite cX4_isCrossSite 1 (some .boolean)) [.inr (.inr x0)] A (.inl (some (.inl r))) A 5 111 0 0 := by
  refine MetV.ofV hl (by decide +kernel) (Nat.le_of_ble_eq_true rfl) (fun κ K E => ?_)
  have K : Cx κ cX4_isCrossSite 1 RX4 5 111 0 0 := K
  have E : Ed κ (some .boolean) "isCrossSite" (.inl (some (.inl r))) A 0 0 := E
  unfold f_X4_isCrossSite at h
  change Vw κ A 0 0 0 [(0, .inr (.inr x0))] []
  refine Vw.aload_n (pc := 0) (x := x0) K dX4_isCrossSite_0 rfl ?_
  obtain ⟨g1, h⟩ := wgd h
  refine Vw.getR (pc := 1) (k := 5) (f := 133) K cls2 rfl rfl u_2_13 g1 dX4_isCrossSite_1 ?_
  obtain ⟨g2, h⟩ := wgd h
  refine Vw.getI (pc := 4) (k := 2) (f := 2) K cls0 rfl rfl u_1_230 g2 dX4_isCrossSite_4 ?_
  refine Vw.if_eq (pc := 7) (tgt := 55) K dX4_isCrossSite_7 (by decide) (fun c3 => ?_) (fun c3 => ?_)
  · have h := wpos c3 h
    refine Vw.iconst (pc := 55) (v := (0 : Int32)) K (by decide) dX4_isCrossSite_55 ?_
    exact Vw.zretE (pc := 56) K (Or.inl rfl) (Option.some.inj h) rfl E (by decide) (by decide) dX4_isCrossSite_56
  · have h := wneg c3 h
    refine Vw.aload_n (pc := 10) (x := x0) K dX4_isCrossSite_10 rfl ?_
    refine Vw.getR (pc := 11) (k := 5) (f := 133) K cls2 rfl rfl u_2_13 g1 dX4_isCrossSite_11 ?_
    refine Vw.getI (pc := 14) (k := 3) (f := 3) K cls0 rfl rfl u_1_233 g2 dX4_isCrossSite_14 ?_
    refine Vw.aload_n (pc := 17) (x := x0) K dX4_isCrossSite_17 rfl ?_
    refine Vw.getR (pc := 18) (k := 6) (f := 134) K cls2 rfl rfl u_2_15 g1 dX4_isCrossSite_18 ?_
    obtain ⟨g4, h⟩ := wgd h
    refine Vw.getI (pc := 21) (k := 3) (f := 3) K cls0 rfl rfl u_1_233 g4 dX4_isCrossSite_21 ?_
    refine Vw.icmp_ne (pc := 24) (tgt := 51) K dX4_isCrossSite_24 (by decide) (fun c5 => ?_) (fun c5 => ?_)
    · have h := wneg c5 h
      exact Vw.loc rfl (s_X4_isCrossSite_51 K E  h)
    · have h := wpos c5 h
      refine Vw.aload_n (pc := 27) (x := x0) K dX4_isCrossSite_27 rfl ?_
      refine Vw.getR (pc := 28) (k := 4) (f := 132) K cls2 rfl rfl u_2_11 g1 dX4_isCrossSite_28 ?_
      refine Vw.aload_n (pc := 31) (x := x0) K dX4_isCrossSite_31 rfl ?_
      refine Vw.getR (pc := 32) (k := 5) (f := 133) K cls2 rfl rfl u_2_13 g1 dX4_isCrossSite_32 ?_
      refine Vw.getR (pc := 35) (k := 0) (f := 0) K cls0 rfl rfl u_1_225 g2 dX4_isCrossSite_35 ?_
      refine Vw.aload_n (pc := 38) (x := x0) K dX4_isCrossSite_38 rfl ?_
      refine Vw.getR (pc := 39) (k := 6) (f := 134) K cls2 rfl rfl u_2_15 g1 dX4_isCrossSite_39 ?_
      refine Vw.getR (pc := 42) (k := 0) (f := 0) K cls0 rfl rfl u_1_225 g4 dX4_isCrossSite_42 ?_
      obtain ⟨g6, h⟩ := wgd h
      obtain ⟨v8, e7, h⟩ := wbd h
      refine Vw.cV1 (pc := 45) (v := .inl v8) (c' := 0) (n' := 0) K (s_X7_sameSites K.tr e7) cal_X7_sameSites cls5 u_3_135 g6 rfl ⟨by decide, by decide⟩ ⟨by decide, by decide⟩ rfl (Nat.le_of_ble_eq_true rfl) dX4_isCrossSite_45 rfl rfl ?_
      refine Vw.if_ne (pc := 48) (tgt := 55) K dX4_isCrossSite_48 (by decide) (fun c9 => ?_) (fun c9 => ?_)
      · have h := wneg c9 h
        refine Vw.iconst (pc := 55) (v := (0 : Int32)) K (by decide) dX4_isCrossSite_55 ?_
        exact Vw.zretE (pc := 56) K (Or.inl rfl) (Option.some.inj h) rfl E (by decide) (by decide) dX4_isCrossSite_56
      · have h := wpos c9 h
        exact Vw.loc rfl (s_X4_isCrossSite_51 K E  h)
theorem cal_X4_isCrossSite : wCalV RX4 yX4_isCrossSite (.code yX4_isCrossSite cX4_isCrossSite 1 (some .boolean)) 0 := ⟨by decide +kernel, u_3_132, u_3_133, u_1_5, u_3_134⟩
def k_X4_causeInText_47  (A : Hp)   : Option (Int32) := some (13 : Int32)
set_option maxRecDepth 100000 in
theorem s_X4_causeInText_47 {κ : KT} {r : Int32} {A : Hp}    (K : Cx κ cX4_causeInText 1 RX4 0 0 0 0) (E : Ed κ (some .int) "causeInText" (.inl (some (.inl r))) A 0 0)  (h : k_X4_causeInText_47  A   = some r) : Vw κ A 0 0 47 [] [] := by
  unfold k_X4_causeInText_47 at h
  refine Vw.bipush (pc := 47) (v := (13 : Int32)) K (by decide) dX4_causeInText_47 ?_
  refine Vw.goto (pc := 49) (tgt := 53) K dX4_causeInText_49 (by decide) ?_
  exact Vw.iretE (pc := 53) K (Option.some.inj h) rfl E (by decide) (by decide) dX4_causeInText_53
def f_X4_causeInText (A : Hp) (x0 : Nat) : Option (Int32) := if (hsh A x0).1 = 4 then (if (hgI A 198 x0 0) = (0 : Int32) then some (11 : Int32) else if (hsh A (hgR A 192 x0 0)).1 = 5 then (if (hgI A 257 (hgR A 192 x0 0) 0) = (0 : Int32) then some (12 : Int32) else (if (16 : Int32) < (hgI A 257 (hgR A 192 x0 0) 0) then k_X4_causeInText_47 A else if (hsh A (hgR A 193 x0 0)).1 = 5 then (if (hgI A 257 (hgR A 193 x0 0) 0) ≤ (32 : Int32) then some (0 : Int32) else k_X4_causeInText_47 A) else none)) else none) else none
set_option maxRecDepth 100000 in
theorem s_X4_causeInText {l : Launch} {g : GT} (hl : l.stackTraces = false) {A : Hp} {x0 : Nat} {r : Int32} (h : f_X4_causeInText A x0 = some r) : MetV l g yX4_causeInText (.code yX4_causeInText cX4_causeInText 1 (some .int)) [.inr (.inr x0)] A (.inl (some (.inl r))) A 0 0 0 0 := by
  refine MetV.ofV hl (by decide +kernel) (Nat.le_of_ble_eq_true rfl) (fun κ K E => ?_)
  have K : Cx κ cX4_causeInText 1 RX4 0 0 0 0 := K
  have E : Ed κ (some .int) "causeInText" (.inl (some (.inl r))) A 0 0 := E
  unfold f_X4_causeInText at h
  change Vw κ A 0 0 0 [(0, .inr (.inr x0))] []
  refine Vw.aload_n (pc := 0) (x := x0) K dX4_causeInText_0 rfl ?_
  obtain ⟨g1, h⟩ := wgd h
  refine Vw.getI (pc := 1) (k := 6) (f := 198) K cls3 rfl rfl u_1_76 g1 dX4_causeInText_1 ?_
  refine Vw.if_ne (pc := 4) (tgt := 10) K dX4_causeInText_4 (by decide) (fun c2 => ?_) (fun c2 => ?_)
  · have h := wneg c2 h
    refine Vw.aload_n (pc := 10) (x := x0) K dX4_causeInText_10 rfl ?_
    refine Vw.getR (pc := 11) (k := 0) (f := 192) K cls3 rfl rfl u_1_66 g1 dX4_causeInText_11 ?_
    obtain ⟨g3, h⟩ := wgd h
    refine Vw.getI (pc := 14) (k := 1) (f := 257) K cls4 rfl rfl u_1_50 g3 dX4_causeInText_14 ?_
    refine Vw.if_ne (pc := 17) (tgt := 23) K dX4_causeInText_17 (by decide) (fun c4 => ?_) (fun c4 => ?_)
    · have h := wneg c4 h
      refine Vw.aload_n (pc := 23) (x := x0) K dX4_causeInText_23 rfl ?_
      refine Vw.getR (pc := 24) (k := 0) (f := 192) K cls3 rfl rfl u_1_66 g1 dX4_causeInText_24 ?_
      refine Vw.getI (pc := 27) (k := 1) (f := 257) K cls4 rfl rfl u_1_50 g3 dX4_causeInText_27 ?_
      refine Vw.bipush (pc := 30) (v := (16 : Int32)) K (by decide) dX4_causeInText_30 ?_
      refine Vw.icmp_gt (pc := 32) (tgt := 47) K dX4_causeInText_32 (by decide) (fun c5 => ?_) (fun c5 => ?_)
      · have h := wpos c5 h
        exact Vw.loc rfl (s_X4_causeInText_47 K E  h)
      · have h := wneg c5 h
        refine Vw.aload_n (pc := 35) (x := x0) K dX4_causeInText_35 rfl ?_
        refine Vw.getR (pc := 36) (k := 1) (f := 193) K cls3 rfl rfl u_1_68 g1 dX4_causeInText_36 ?_
        obtain ⟨g6, h⟩ := wgd h
        refine Vw.getI (pc := 39) (k := 1) (f := 257) K cls4 rfl rfl u_1_50 g6 dX4_causeInText_39 ?_
        refine Vw.bipush (pc := 42) (v := (32 : Int32)) K (by decide) dX4_causeInText_42 ?_
        refine Vw.icmp_le (pc := 44) (tgt := 52) K dX4_causeInText_44 (by decide) (fun c7 => ?_) (fun c7 => ?_)
        · have h := wpos c7 h
          refine Vw.iconst (pc := 52) (v := (0 : Int32)) K (by decide) dX4_causeInText_52 ?_
          exact Vw.iretE (pc := 53) K (Option.some.inj h) rfl E (by decide) (by decide) dX4_causeInText_53
        · have h := wneg c7 h
          exact Vw.loc rfl (s_X4_causeInText_47 K E  h)
    · have h := wpos c4 h
      refine Vw.bipush (pc := 20) (v := (12 : Int32)) K (by decide) dX4_causeInText_20 ?_
      exact Vw.iretE (pc := 22) K (Option.some.inj h) rfl E (by decide) (by decide) dX4_causeInText_22
  · have h := wpos c2 h
    refine Vw.bipush (pc := 7) (v := (11 : Int32)) K (by decide) dX4_causeInText_7 ?_
    exact Vw.iretE (pc := 9) K (Option.some.inj h) rfl E (by decide) (by decide) dX4_causeInText_9
theorem cal_X4_causeInText : wCalS yX4_causeInText (.code yX4_causeInText cX4_causeInText 1 (some .int)) 1 := ⟨by decide +kernel, u_4_103, u_1_5, u_4_104⟩
def f_X4_causeInDomain (A : Hp) (x0 : Nat) (x1 : Nat) : Option (Int32) := if (hsh A x1).1 = 5 then (if (hgI A 257 x1 0) = (0 : Int32) then some (0 : Int32) else ((f_X3_isDomain A x1).bind fun v4 => (if v4 = (0 : Int32) then some (22 : Int32) else if (hsh A x0).1 = 3 then if (hsh A (hgR A 132 x0 0)).1 = 6 then ((f_X7_isPublic A (hgR A 132 x0 0) x1).bind fun v9 => (if v9 = (0 : Int32) then if (hsh A (hgR A 134 x0 0)).1 = 1 then if (hsh A (hgR A 0 (hgR A 134 x0 0) 0)).1 = 5 then ((f_X6_domainMatches A (hgR A 0 (hgR A 134 x0 0) 0) x1).bind fun v14 => (if v14 = (0 : Int32) then some (22 : Int32) else some (0 : Int32))) else none else none else if (hsh A (hgR A 134 x0 0)).1 = 1 then ((f_X6_same A x1 (hgR A 0 (hgR A 134 x0 0) 0)).bind fun v18 => (if v18 = (0 : Int32) then some (21 : Int32) else some (0 : Int32))) else none)) else none else none))) else none
set_option maxRecDepth 100000 in
theorem s_X4_causeInDomain {l : Launch} {g : GT} (hl : l.stackTraces = false) {A : Hp} {x0 : Nat} {x1 : Nat} {r : Int32} (h : f_X4_causeInDomain A x0 x1 = some r) : MetV l g yX4_causeInDomain (.code yX4_causeInDomain cX4_causeInDomain 2 (some .int)) [.inr (.inr x0), .inr (.inr x1)] A (.inl (some (.inl r))) A 4 88 0 0 := by
  refine MetV.ofV hl (by decide +kernel) (Nat.le_of_ble_eq_true rfl) (fun κ K E => ?_)
  have K : Cx κ cX4_causeInDomain 2 RX4 4 88 0 0 := K
  have E : Ed κ (some .int) "causeInDomain" (.inl (some (.inl r))) A 0 0 := E
  unfold f_X4_causeInDomain at h
  change Vw κ A 0 0 0 [(0, .inr (.inr x0)), (1, .inr (.inr x1))] []
  refine Vw.aload_n (pc := 0) (x := x1) K dX4_causeInDomain_0 rfl ?_
  obtain ⟨g1, h⟩ := wgd h
  refine Vw.getI (pc := 1) (k := 1) (f := 257) K cls4 rfl rfl u_1_50 g1 dX4_causeInDomain_1 ?_
  refine Vw.if_ne (pc := 4) (tgt := 9) K dX4_causeInDomain_4 (by decide) (fun c2 => ?_) (fun c2 => ?_)
  · have h := wneg c2 h
    refine Vw.aload_n (pc := 9) (x := x1) K dX4_causeInDomain_9 rfl ?_
    obtain ⟨v4, e3, h⟩ := wbd h
    refine Vw.cS1 (pc := 10) (v := .inl v4) (c' := 0) (n' := 0) K (s_X3_isDomain K.tr e3) cal_X3_isDomain u_4_109 rfl ⟨by decide, by decide⟩ ⟨by decide, by decide⟩ rfl (Nat.le_of_ble_eq_true rfl) dX4_causeInDomain_10 rfl rfl ?_
    refine Vw.if_ne (pc := 13) (tgt := 19) K dX4_causeInDomain_13 (by decide) (fun c5 => ?_) (fun c5 => ?_)
    · have h := wneg c5 h
      refine Vw.aload_n (pc := 19) (x := x0) K dX4_causeInDomain_19 rfl ?_
      obtain ⟨g6, h⟩ := wgd h
      refine Vw.getR (pc := 20) (k := 4) (f := 132) K cls2 rfl rfl u_2_11 g6 dX4_causeInDomain_20 ?_
      refine Vw.aload_n (pc := 23) (x := x1) K dX4_causeInDomain_23 rfl ?_
      obtain ⟨g7, h⟩ := wgd h
      obtain ⟨v9, e8, h⟩ := wbd h
      refine Vw.cV1 (pc := 24) (v := .inl v9) (c' := 0) (n' := 0) K (s_X7_isPublic K.tr e8) cal_X7_isPublic cls5 u_4_110 g7 rfl ⟨by decide, by decide⟩ ⟨by decide, by decide⟩ rfl (Nat.le_of_ble_eq_true rfl) dX4_causeInDomain_24 rfl rfl ?_
      refine Vw.if_eq (pc := 27) (tgt := 51) K dX4_causeInDomain_27 (by decide) (fun c10 => ?_) (fun c10 => ?_)
      · have h := wpos c10 h
        refine Vw.aload_n (pc := 51) (x := x0) K dX4_causeInDomain_51 rfl ?_
        refine Vw.getR (pc := 52) (k := 6) (f := 134) K cls2 rfl rfl u_2_15 g6 dX4_causeInDomain_52 ?_
        obtain ⟨g11, h⟩ := wgd h
        refine Vw.getR (pc := 55) (k := 0) (f := 0) K cls0 rfl rfl u_1_225 g11 dX4_causeInDomain_55 ?_
        refine Vw.aload_n (pc := 58) (x := x1) K dX4_causeInDomain_58 rfl ?_
        obtain ⟨g12, h⟩ := wgd h
        obtain ⟨v14, e13, h⟩ := wbd h
        refine Vw.cV1 (pc := 59) (v := .inl v14) (c' := 0) (n' := 0) K (s_X6_domainMatches K.tr e13) cal_X6_domainMatches cls4 u_4_115 g12 rfl ⟨by decide, by decide⟩ ⟨by decide, by decide⟩ rfl (Nat.le_of_ble_eq_true rfl) dX4_causeInDomain_59 rfl rfl ?_
        refine Vw.if_eq (pc := 62) (tgt := 69) K dX4_causeInDomain_62 (by decide) (fun c15 => ?_) (fun c15 => ?_)
        · have h := wpos c15 h
          refine Vw.bipush (pc := 69) (v := (22 : Int32)) K (by decide) dX4_causeInDomain_69 ?_
          exact Vw.iretE (pc := 71) K (Option.some.inj h) rfl E (by decide) (by decide) dX4_causeInDomain_71
        · have h := wneg c15 h
          refine Vw.iconst (pc := 65) (v := (0 : Int32)) K (by decide) dX4_causeInDomain_65 ?_
          refine Vw.goto (pc := 66) (tgt := 71) K dX4_causeInDomain_66 (by decide) ?_
          exact Vw.iretE (pc := 71) K (Option.some.inj h) rfl E (by decide) (by decide) dX4_causeInDomain_71
      · have h := wneg c10 h
        refine Vw.aload_n (pc := 30) (x := x1) K dX4_causeInDomain_30 rfl ?_
        refine Vw.aload_n (pc := 31) (x := x0) K dX4_causeInDomain_31 rfl ?_
        refine Vw.getR (pc := 32) (k := 6) (f := 134) K cls2 rfl rfl u_2_15 g6 dX4_causeInDomain_32 ?_
        obtain ⟨g16, h⟩ := wgd h
        refine Vw.getR (pc := 35) (k := 0) (f := 0) K cls0 rfl rfl u_1_225 g16 dX4_causeInDomain_35 ?_
        obtain ⟨v18, e17, h⟩ := wbd h
        refine Vw.cV1 (pc := 38) (v := .inl v18) (c' := 0) (n' := 0) K (s_X6_same K.tr e17) cal_X6_same cls4 u_4_114 g1 rfl ⟨by decide, by decide⟩ ⟨by decide, by decide⟩ rfl (Nat.le_of_ble_eq_true rfl) dX4_causeInDomain_38 rfl rfl ?_
        refine Vw.if_eq (pc := 41) (tgt := 48) K dX4_causeInDomain_41 (by decide) (fun c19 => ?_) (fun c19 => ?_)
        · have h := wpos c19 h
          refine Vw.bipush (pc := 48) (v := (21 : Int32)) K (by decide) dX4_causeInDomain_48 ?_
          exact Vw.iretE (pc := 50) K (Option.some.inj h) rfl E (by decide) (by decide) dX4_causeInDomain_50
        · have h := wneg c19 h
          refine Vw.iconst (pc := 44) (v := (0 : Int32)) K (by decide) dX4_causeInDomain_44 ?_
          refine Vw.goto (pc := 45) (tgt := 50) K dX4_causeInDomain_45 (by decide) ?_
          exact Vw.iretE (pc := 50) K (Option.some.inj h) rfl E (by decide) (by decide) dX4_causeInDomain_50
    · have h := wpos c5 h
      refine Vw.bipush (pc := 16) (v := (22 : Int32)) K (by decide) dX4_causeInDomain_16 ?_
      exact Vw.iretE (pc := 18) K (Option.some.inj h) rfl E (by decide) (by decide) dX4_causeInDomain_18
  · have h := wpos c2 h
    refine Vw.iconst (pc := 7) (v := (0 : Int32)) K (by decide) dX4_causeInDomain_7 ?_
    exact Vw.iretE (pc := 8) K (Option.some.inj h) rfl E (by decide) (by decide) dX4_causeInDomain_8
theorem cal_X4_causeInDomain : wCalV RX4 yX4_causeInDomain (.code yX4_causeInDomain cX4_causeInDomain 2 (some .int)) 1 := ⟨by decide +kernel, u_4_107, us_1_15, u_1_5, u_4_108⟩
def f_X4_reject (A : Hp) (x0 : Nat) : Option (Int32 × Hp) := if (hsh A x0).1 = 3 then if (hsh A (hgR A 137 x0 0)).1 = 10 then if wix (5 : Int32) (hsh A (hgR A 137 x0 0)).2 then some ((0 : Int32), (hsI A 1034 (hgR A 137 x0 0) (5 : Int32).toNatClampNeg ((hgI A 1034 (hgR A 137 x0 0) (5 : Int32).toNatClampNeg) + (1 : Int32)))) else none else none else none
set_option maxRecDepth 100000 in
theorem s_X4_reject {l : Launch} {g : GT} (hl : l.stackTraces = false) {A : Hp} {x0 : Nat} {r : Int32} {B : Hp} (h : f_X4_reject A x0 = some (r, B)) : MetV l g yX4_reject (.code yX4_reject cX4_reject 1 (some .int)) [.inr (.inr x0)] A (.inl (some (.inl r))) B 0 0 0 0 := by
  refine MetV.ofV hl (by decide +kernel) (Nat.le_of_ble_eq_true rfl) (fun κ K E => ?_)
  have K : Cx κ cX4_reject 1 RX4 0 0 0 0 := K
  have E : Ed κ (some .int) "reject" (.inl (some (.inl r))) B 0 0 := E
  unfold f_X4_reject at h
  change Vw κ A 0 0 0 [(0, .inr (.inr x0))] []
  refine Vw.aload_n (pc := 0) (x := x0) K dX4_reject_0 rfl ?_
  obtain ⟨g1, h⟩ := wgd h
  refine Vw.getR (pc := 1) (k := 9) (f := 137) K cls2 rfl rfl u_2_21 g1 dX4_reject_1 ?_
  refine Vw.iconst (pc := 4) (v := (5 : Int32)) K (by decide) dX4_reject_4 ?_
  refine Vw.dup2 (pc := 5) K rfl rfl dX4_reject_5 ?_
  obtain ⟨g2, h⟩ := wgd h
  obtain ⟨g3, h⟩ := wgd h
  refine Vw.iaload (pc := 6) K g2 g3 dX4_reject_6 ?_
  refine Vw.iconst (pc := 7) (v := (1 : Int32)) K (by decide) dX4_reject_7 ?_
  refine Vw.iadd (pc := 8) K dX4_reject_8 ?_
  refine Vw.iastore (pc := 9) K g2 g3 dX4_reject_9 ?_
  refine Vw.iconst (pc := 10) (v := (0 : Int32)) K (by decide) dX4_reject_10 ?_
  exact Vw.iretH (pc := 11) K h E (by decide) (by decide) dX4_reject_11
theorem cal_X4_reject : wCalV RX4 yX4_reject (.code yX4_reject cX4_reject 1 (some .int)) 0 := ⟨by decide +kernel, u_4_118, us_2_0, u_1_5, u_4_119⟩
def k_X4_takeDefaultPath_39  (A : Hp) (x0 : Nat) (x1 : Nat) (x2 : Int32)  : Option (Hp) := if (hsh A x0).1 = 3 then if (hsh A (hgR A 134 x0 0)).1 = 1 then if (hsh A x1).1 = 5 then ((f_X6_take A x1 (hgR A 1 (hgR A 134 x0 0) 0) (0 : Int32) x2).bind fun A5 => if (hsh A5 x1).1 = 5 then (if (hgI A5 257 x1 0) = (0 : Int32) then ((f_X6_add A5 x1 (47 : Int32)).bind fun A9 => some A9) else some A5) else none) else none else none else none
set_option maxRecDepth 100000 in
theorem s_X4_takeDefaultPath_39 {κ : KT} {B : Hp} {A : Hp} {x0 : Nat} {x1 : Nat} {x2 : Int32}   (K : Cx κ cX4_takeDefaultPath 3 RX4 2 48 0 0) (E : Ed κ none "takeDefaultPath" (.inl none) B 0 0)  (h : k_X4_takeDefaultPath_39  A x0 x1 x2  = some B) : Vw κ A 0 0 39 [(0, .inr (.inr x0)), (1, .inr (.inr x1)), (2, .inl x2)] [] := by
  unfold k_X4_takeDefaultPath_39 at h
  refine Vw.aload_n (pc := 39) (x := x1) K dX4_takeDefaultPath_39 rfl ?_
  refine Vw.aload_n (pc := 40) (x := x0) K dX4_takeDefaultPath_40 rfl ?_
  obtain ⟨g1, h⟩ := wgd h
  refine Vw.getR (pc := 41) (k := 6) (f := 134) K cls2 rfl rfl u_2_15 g1 dX4_takeDefaultPath_41 ?_
  obtain ⟨g2, h⟩ := wgd h
  refine Vw.getR (pc := 44) (k := 1) (f := 1) K cls0 rfl rfl u_1_228 g2 dX4_takeDefaultPath_44 ?_
  refine Vw.iconst (pc := 47) (v := (0 : Int32)) K (by decide) dX4_takeDefaultPath_47 ?_
  refine Vw.iload_n (pc := 48) (x := x2) K dX4_takeDefaultPath_48 rfl ?_
  obtain ⟨g3, h⟩ := wgd h
  obtain ⟨A5, e4, h⟩ := wbd h
  refine Vw.cV0 (pc := 49) (c' := 0) (n' := 0) K (s_X6_take K.tr e4) cal_X6_take cls4 u_4_130 g3 rfl ⟨by decide, by decide⟩ ⟨by decide, by decide⟩ rfl (Nat.le_of_ble_eq_true rfl) dX4_takeDefaultPath_49 rfl rfl ?_
  refine Vw.aload_n (pc := 52) (x := x1) K dX4_takeDefaultPath_52 rfl ?_
  obtain ⟨g6, h⟩ := wgd h
  refine Vw.getI (pc := 53) (k := 1) (f := 257) K cls4 rfl rfl u_1_50 g6 dX4_takeDefaultPath_53 ?_
  refine Vw.if_ne (pc := 56) (tgt := 65) K dX4_takeDefaultPath_56 (by decide) (fun c7 => ?_) (fun c7 => ?_)
  · have h := wneg c7 h
    exact Vw.vretE (pc := 65) K (Option.some.inj h) E (by decide) (by decide) dX4_takeDefaultPath_65
  · have h := wpos c7 h
    refine Vw.aload_n (pc := 59) (x := x1) K dX4_takeDefaultPath_59 rfl ?_
    refine Vw.bipush (pc := 60) (v := (47 : Int32)) K (by decide) dX4_takeDefaultPath_60 ?_
    obtain ⟨A9, e8, h⟩ := wbd h
    refine Vw.cV0 (pc := 62) (c' := 0) (n' := 0) K (s_X6_add K.tr e8) cal_X6_add cls4 u_4_131 g6 rfl ⟨by decide, by decide⟩ ⟨by decide, by decide⟩ rfl (Nat.le_of_ble_eq_true rfl) dX4_takeDefaultPath_62 rfl rfl ?_
    exact Vw.vretE (pc := 65) K (Option.some.inj h) E (by decide) (by decide) dX4_takeDefaultPath_65
def k_X4_takeDefaultPath_13s  (x0 : Nat) (x1 : Nat)  (rec13 : Hp → Int32 → Option (Hp)) (A : Hp) (x2 : Int32) : Option (Hp) := (if x2 ≤ (0 : Int32) then k_X4_takeDefaultPath_39 A x0 x1 x2 else if (hsh A x0).1 = 3 then if (hsh A (hgR A 134 x0 0)).1 = 1 then if (hsh A (hgR A 1 (hgR A 134 x0 0) 0)).1 = 5 then ((f_X6_at A (hgR A 1 (hgR A 134 x0 0) 0) x2).bind fun v15 => (if v15 = (47 : Int32) then k_X4_takeDefaultPath_39 A x0 x1 x2 else rec13 A (x2 + (-1 : Int32)))) else none else none else none)
def k_X4_takeDefaultPath_13  (x0 : Nat) (x1 : Nat)  : Nat → Hp → Int32 → Option (Hp)
  | 0 => fun _ _ => none
  | fu + 1 => k_X4_takeDefaultPath_13s x0 x1  (k_X4_takeDefaultPath_13 x0 x1  fu)
set_option maxRecDepth 100000 in
theorem s_X4_takeDefaultPath_13 {κ : KT} {B : Hp}  {x0 : Nat} {x1 : Nat}  (K : Cx κ cX4_takeDefaultPath 3 RX4 2 48 0 0) (E : Ed κ none "takeDefaultPath" (.inl none) B 0 0)  : ∀ (fu : Nat) (A : Hp) (x2 : Int32),  k_X4_takeDefaultPath_13 x0 x1  fu A x2 = some B → Vw κ A 0 0 13 [(0, .inr (.inr x0)), (1, .inr (.inr x1)), (2, .inl x2)] [] := by
  intro fu
  induction fu with
  | zero => intro A x2 h; cases h
  | succ fu hr13 =>
    intro A x2 h
    have h : k_X4_takeDefaultPath_13s x0 x1  (k_X4_takeDefaultPath_13 x0 x1  fu) A x2 = some B := h
    unfold k_X4_takeDefaultPath_13s at h
    refine Vw.iload_n (pc := 13) (x := x2) K dX4_takeDefaultPath_13 rfl ?_
    refine Vw.if_le (pc := 14) (tgt := 39) K dX4_takeDefaultPath_14 (by decide) (fun c10 => ?_) (fun c10 => ?_)
    · have h := wpos c10 h
      exact Vw.loc rfl (s_X4_takeDefaultPath_39 K E  h)
    · have h := wneg c10 h
      refine Vw.aload_n (pc := 17) (x := x0) K dX4_takeDefaultPath_17 rfl ?_
      obtain ⟨g11, h⟩ := wgd h
      refine Vw.getR (pc := 18) (k := 6) (f := 134) K cls2 rfl rfl u_2_15 g11 dX4_takeDefaultPath_18 ?_
      obtain ⟨g12, h⟩ := wgd h
      refine Vw.getR (pc := 21) (k := 1) (f := 1) K cls0 rfl rfl u_1_228 g12 dX4_takeDefaultPath_21 ?_
      refine Vw.iload_n (pc := 24) (x := x2) K dX4_takeDefaultPath_24 rfl ?_
      obtain ⟨g13, h⟩ := wgd h
      obtain ⟨v15, e14, h⟩ := wbd h
      refine Vw.cV1 (pc := 25) (v := .inl v15) (c' := 0) (n' := 0) K (s_X6_at K.tr e14) cal_X6_at cls4 u_4_129 g13 rfl ⟨by decide, by decide⟩ ⟨by decide, by decide⟩ rfl (Nat.le_of_ble_eq_true rfl) dX4_takeDefaultPath_25 rfl rfl ?_
      refine Vw.bipush (pc := 28) (v := (47 : Int32)) K (by decide) dX4_takeDefaultPath_28 ?_
      refine Vw.icmp_eq (pc := 30) (tgt := 39) K dX4_takeDefaultPath_30 (by decide) (fun c16 => ?_) (fun c16 => ?_)
      · have h := wpos c16 h
        exact Vw.loc rfl (s_X4_takeDefaultPath_39 K E  h)
      · have h := wneg c16 h
        refine Vw.iinc (pc := 33) (x := x2) (v := (-1 : Int32)) K dX4_takeDefaultPath_33 rfl (by decide) (by decide) ?_
        refine Vw.goto (pc := 36) (tgt := 13) K dX4_takeDefaultPath_36 (by decide) ?_
        exact Vw.loc rfl (hr13 _ _ h)
def f_X4_takeDefaultPath (A : Hp) (x0 : Nat) (x1 : Nat) : Option (Hp) := if (hsh A x0).1 = 3 then if (hsh A (hgR A 134 x0 0)).1 = 1 then if (hsh A (hgR A 1 (hgR A 134 x0 0) 0)).1 = 5 then k_X4_takeDefaultPath_13 x0 x1 FU A ((hgI A 257 (hgR A 1 (hgR A 134 x0 0) 0) 0) - (1 : Int32)) else none else none else none
set_option maxRecDepth 100000 in
theorem s_X4_takeDefaultPath {l : Launch} {g : GT} (hl : l.stackTraces = false) {A : Hp} {x0 : Nat} {x1 : Nat} {B : Hp} (h : f_X4_takeDefaultPath A x0 x1 = some B) : MetV l g yX4_takeDefaultPath (.code yX4_takeDefaultPath cX4_takeDefaultPath 3 none) [.inr (.inr x0), .inr (.inr x1)] A (.inl none) B 2 48 0 0 := by
  refine MetV.ofV hl (by decide +kernel) (Nat.le_of_ble_eq_true rfl) (fun κ K E => ?_)
  have K : Cx κ cX4_takeDefaultPath 3 RX4 2 48 0 0 := K
  have E : Ed κ none "takeDefaultPath" (.inl none) B 0 0 := E
  unfold f_X4_takeDefaultPath at h
  change Vw κ A 0 0 0 [(0, .inr (.inr x0)), (1, .inr (.inr x1))] []
  refine Vw.aload_n (pc := 0) (x := x0) K dX4_takeDefaultPath_0 rfl ?_
  obtain ⟨g17, h⟩ := wgd h
  refine Vw.getR (pc := 1) (k := 6) (f := 134) K cls2 rfl rfl u_2_15 g17 dX4_takeDefaultPath_1 ?_
  obtain ⟨g18, h⟩ := wgd h
  refine Vw.getR (pc := 4) (k := 1) (f := 1) K cls0 rfl rfl u_1_228 g18 dX4_takeDefaultPath_4 ?_
  obtain ⟨g19, h⟩ := wgd h
  refine Vw.getI (pc := 7) (k := 1) (f := 257) K cls4 rfl rfl u_1_50 g19 dX4_takeDefaultPath_7 ?_
  refine Vw.iconst (pc := 10) (v := (1 : Int32)) K (by decide) dX4_takeDefaultPath_10 ?_
  refine Vw.isub (pc := 11) K dX4_takeDefaultPath_11 ?_
  refine Vw.istore_n (pc := 12) K dX4_takeDefaultPath_12 (by decide) ?_
  exact Vw.loc rfl (s_X4_takeDefaultPath_13 K E  _ _ _ h)
theorem cal_X4_takeDefaultPath : wCalV RX4 yX4_takeDefaultPath (.code yX4_takeDefaultPath cX4_takeDefaultPath 3 none) 1 := ⟨by decide +kernel, u_4_127, us_2_2, u_1_5, u_4_128⟩
def k_X4_shape_208  (A : Hp) (x0 : Nat) (x1 : Nat)  : Option (Hp) := if (hsh A x0).1 = 3 then if (hsh A x1).1 = 4 then if (hsh A (hgR A 130 x0 0)).1 = 2 then if (hsh (hsI A 75 (hgR A 130 x0 0) 0 (hgI A 204 x1 0)) (hgR (hsI A 75 (hgR A 130 x0 0) 0 (hgI A 204 x1 0)) 130 x0 0)).1 = 2 then some (hsI (hsI A 75 (hgR A 130 x0 0) 0 (hgI A 204 x1 0)) 76 (hgR (hsI A 75 (hgR A 130 x0 0) 0 (hgI A 204 x1 0)) 130 x0 0) 0 (hgI (hsI A 75 (hgR A 130 x0 0) 0 (hgI A 204 x1 0)) 205 x1 0)) else none else none else none else none
set_option maxRecDepth 100000 in
theorem s_X4_shape_208 {κ : KT} {B : Hp} {A : Hp} {x0 : Nat} {x1 : Nat}   (K : Cx κ cX4_shape 2 RX4 4 88 0 0) (E : Ed κ none "shape" (.inl none) B 0 0)  (h : k_X4_shape_208  A x0 x1  = some B) : Vw κ A 0 0 208 [(0, .inr (.inr x0)), (1, .inr (.inr x1))] [] := by
  unfold k_X4_shape_208 at h
  refine Vw.aload_n (pc := 208) (x := x0) K dX4_shape_208 rfl ?_
  obtain ⟨g1, h⟩ := wgd h
  refine Vw.getR (pc := 209) (k := 2) (f := 130) K cls2 rfl rfl u_2_9 g1 dX4_shape_209 ?_
  refine Vw.aload_n (pc := 212) (x := x1) K dX4_shape_212 rfl ?_
  obtain ⟨g2, h⟩ := wgd h
  refine Vw.getI (pc := 213) (k := 12) (f := 204) K cls3 rfl rfl u_1_85 g2 dX4_shape_213 ?_
  obtain ⟨g3, h⟩ := wgd h
  refine Vw.putI (pc := 216) (k := 11) (f := 75) K cls1 rfl rfl u_1_166 g3 (Or.inl rfl) rfl rfl dX4_shape_216 ?_
  refine Vw.aload_n (pc := 219) (x := x0) K dX4_shape_219 rfl ?_
  refine Vw.getR (pc := 220) (k := 2) (f := 130) K cls2 rfl rfl u_2_9 g1 dX4_shape_220 ?_
  refine Vw.aload_n (pc := 223) (x := x1) K dX4_shape_223 rfl ?_
  refine Vw.getI (pc := 224) (k := 13) (f := 205) K cls3 rfl rfl u_1_87 g2 dX4_shape_224 ?_
  obtain ⟨g4, h⟩ := wgd h
  refine Vw.putI (pc := 227) (k := 12) (f := 76) K cls1 rfl rfl u_1_169 g4 (Or.inl rfl) rfl rfl dX4_shape_227 ?_
  exact Vw.vretE (pc := 230) K (Option.some.inj h) E (by decide) (by decide) dX4_shape_230
def k_X4_shape_136  (A : Hp) (x0 : Nat) (x1 : Nat)  : Option (Hp) := if (hsh A x0).1 = 3 then if (hsh A x1).1 = 4 then ((f_X5_expiryAt A x1 (hgL A 140 x0 0)).bind fun v8 => if (hsh A (hgR A 130 x0 0)).1 = 2 then if (hsh (hsL A 68 (hgR A 130 x0 0) 0 v8) (hgR (hsL A 68 (hgR A 130 x0 0) 0 v8) 130 x0 0)).1 = 2 then if (hsh (hsL (hsL A 68 (hgR A 130 x0 0) 0 v8) 69 (hgR (hsL A 68 (hgR A 130 x0 0) 0 v8) 130 x0 0) 0 (hgL (hsL A 68 (hgR A 130 x0 0) 0 v8) 140 x0 0)) (hgR (hsL (hsL A 68 (hgR A 130 x0 0) 0 v8) 69 (hgR (hsL A 68 (hgR A 130 x0 0) 0 v8) 130 x0 0) 0 (hgL (hsL A 68 (hgR A 130 x0 0) 0 v8) 140 x0 0)) 130 x0 0)).1 = 2 then if (hsh (hsL (hsL (hsL A 68 (hgR A 130 x0 0) 0 v8) 69 (hgR (hsL A 68 (hgR A 130 x0 0) 0 v8) 130 x0 0) 0 (hgL (hsL A 68 (hgR A 130 x0 0) 0 v8) 140 x0 0)) 70 (hgR (hsL (hsL A 68 (hgR A 130 x0 0) 0 v8) 69 (hgR (hsL A 68 (hgR A 130 x0 0) 0 v8) 130 x0 0) 0 (hgL (hsL A 68 (hgR A 130 x0 0) 0 v8) 140 x0 0)) 130 x0 0) 0 (hgL (hsL (hsL A 68 (hgR A 130 x0 0) 0 v8) 69 (hgR (hsL A 68 (hgR A 130 x0 0) 0 v8) 130 x0 0) 0 (hgL (hsL A 68 (hgR A 130 x0 0) 0 v8) 140 x0 0)) 140 x0 0)) (hgR (hsL (hsL (hsL A 68 (hgR A 130 x0 0) 0 v8) 69 (hgR (hsL A 68 (hgR A 130 x0 0) 0 v8) 130 x0 0) 0 (hgL (hsL A 68 (hgR A 130 x0 0) 0 v8) 140 x0 0)) 70 (hgR (hsL (hsL A 68 (hgR A 130 x0 0) 0 v8) 69 (hgR (hsL A 68 (hgR A 130 x0 0) 0 v8) 130 x0 0) 0 (hgL (hsL A 68 (hgR A 130 x0 0) 0 v8) 140 x0 0)) 130 x0 0) 0 (hgL (hsL (hsL A 68 (hgR A 130 x0 0) 0 v8) 69 (hgR (hsL A 68 (hgR A 130 x0 0) 0 v8) 130 x0 0) 0 (hgL (hsL A 68 (hgR A 130 x0 0) 0 v8) 140 x0 0)) 140 x0 0)) 137 x0 0)).1 = 10 then if wix (0 : Int32) (hsh (hsL (hsL (hsL A 68 (hgR A 130 x0 0) 0 v8) 69 (hgR (hsL A 68 (hgR A 130 x0 0) 0 v8) 130 x0 0) 0 (hgL (hsL A 68 (hgR A 130 x0 0) 0 v8) 140 x0 0)) 70 (hgR (hsL (hsL A 68 (hgR A 130 x0 0) 0 v8) 69 (hgR (hsL A 68 (hgR A 130 x0 0) 0 v8) 130 x0 0) 0 (hgL (hsL A 68 (hgR A 130 x0 0) 0 v8) 140 x0 0)) 130 x0 0) 0 (hgL (hsL (hsL A 68 (hgR A 130 x0 0) 0 v8) 69 (hgR (hsL A 68 (hgR A 130 x0 0) 0 v8) 130 x0 0) 0 (hgL (hsL A 68 (hgR A 130 x0 0) 0 v8) 140 x0 0)) 140 x0 0)) (hgR (hsL (hsL (hsL A 68 (hgR A 130 x0 0) 0 v8) 69 (hgR (hsL A 68 (hgR A 130 x0 0) 0 v8) 130 x0 0) 0 (hgL (hsL A 68 (hgR A 130 x0 0) 0 v8) 140 x0 0)) 70 (hgR (hsL (hsL A 68 (hgR A 130 x0 0) 0 v8) 69 (hgR (hsL A 68 (hgR A 130 x0 0) 0 v8) 130 x0 0) 0 (hgL (hsL A 68 (hgR A 130 x0 0) 0 v8) 140 x0 0)) 130 x0 0) 0 (hgL (hsL (hsL A 68 (hgR A 130 x0 0) 0 v8) 69 (hgR (hsL A 68 (hgR A 130 x0 0) 0 v8) 130 x0 0) 0 (hgL (hsL A 68 (hgR A 130 x0 0) 0 v8) 140 x0 0)) 140 x0 0)) 137 x0 0)).2 then if (hsh (hsL (hsL (hsL A 68 (hgR A 130 x0 0) 0 v8) 69 (hgR (hsL A 68 (hgR A 130 x0 0) 0 v8) 130 x0 0) 0 (hgL (hsL A 68 (hgR A 130 x0 0) 0 v8) 140 x0 0)) 70 (hgR (hsL (hsL A 68 (hgR A 130 x0 0) 0 v8) 69 (hgR (hsL A 68 (hgR A 130 x0 0) 0 v8) 130 x0 0) 0 (hgL (hsL A 68 (hgR A 130 x0 0) 0 v8) 140 x0 0)) 130 x0 0) 0 (hgL (hsL (hsL A 68 (hgR A 130 x0 0) 0 v8) 69 (hgR (hsL A 68 (hgR A 130 x0 0) 0 v8) 130 x0 0) 0 (hgL (hsL A 68 (hgR A 130 x0 0) 0 v8) 140 x0 0)) 140 x0 0)) (hgR (hsL (hsL (hsL A 68 (hgR A 130 x0 0) 0 v8) 69 (hgR (hsL A 68 (hgR A 130 x0 0) 0 v8) 130 x0 0) 0 (hgL (hsL A 68 (hgR A 130 x0 0) 0 v8) 140 x0 0)) 70 (hgR (hsL (hsL A 68 (hgR A 130 x0 0) 0 v8) 69 (hgR (hsL A 68 (hgR A 130 x0 0) 0 v8) 130 x0 0) 0 (hgL (hsL A 68 (hgR A 130 x0 0) 0 v8) 140 x0 0)) 130 x0 0) 0 (hgL (hsL (hsL A 68 (hgR A 130 x0 0) 0 v8) 69 (hgR (hsL A 68 (hgR A 130 x0 0) 0 v8) 130 x0 0) 0 (hgL (hsL A 68 (hgR A 130 x0 0) 0 v8) 140 x0 0)) 140 x0 0)) 130 x0 0)).1 = 2 then if (hsh (hsI (hsL (hsL (hsL A 68 (hgR A 130 x0 0) 0 v8) 69 (hgR (hsL A 68 (hgR A 130 x0 0) 0 v8) 130 x0 0) 0 (hgL (hsL A 68 (hgR A 130 x0 0) 0 v8) 140 x0 0)) 70 (hgR (hsL (hsL A 68 (hgR A 130 x0 0) 0 v8) 69 (hgR (hsL A 68 (hgR A 130 x0 0) 0 v8) 130 x0 0) 0 (hgL (hsL A 68 (hgR A 130 x0 0) 0 v8) 140 x0 0)) 130 x0 0) 0 (hgL (hsL (hsL A 68 (hgR A 130 x0 0) 0 v8) 69 (hgR (hsL A 68 (hgR A 130 x0 0) 0 v8) 130 x0 0) 0 (hgL (hsL A 68 (hgR A 130 x0 0) 0 v8) 140 x0 0)) 140 x0 0)) 71 (hgR (hsL (hsL (hsL A 68 (hgR A 130 x0 0) 0 v8) 69 (hgR (hsL A 68 (hgR A 130 x0 0) 0 v8) 130 x0 0) 0 (hgL (hsL A 68 (hgR A 130 x0 0) 0 v8) 140 x0 0)) 70 (hgR (hsL (hsL A 68 (hgR A 130 x0 0) 0 v8) 69 (hgR (hsL A 68 (hgR A 130 x0 0) 0 v8) 130 x0 0) 0 (hgL (hsL A 68 (hgR A 130 x0 0) 0 v8) 140 x0 0)) 130 x0 0) 0 (hgL (hsL (hsL A 68 (hgR A 130 x0 0) 0 v8) 69 (hgR (hsL A 68 (hgR A 130 x0 0) 0 v8) 130 x0 0) 0 (hgL (hsL A 68 (hgR A 130 x0 0) 0 v8) 140 x0 0)) 140 x0 0)) 130 x0 0) 0 (hgI (hsL (hsL (hsL A 68 (hgR A 130 x0 0) 0 v8) 69 (hgR (hsL A 68 (hgR A 130 x0 0) 0 v8) 130 x0 0) 0 (hgL (hsL A 68 (hgR A 130 x0 0) 0 v8) 140 x0 0)) 70 (hgR (hsL (hsL A 68 (hgR A 130 x0 0) 0 v8) 69 (hgR (hsL A 68 (hgR A 130 x0 0) 0 v8) 130 x0 0) 0 (hgL (hsL A 68 (hgR A 130 x0 0) 0 v8) 140 x0 0)) 130 x0 0) 0 (hgL (hsL (hsL A 68 (hgR A 130 x0 0) 0 v8) 69 (hgR (hsL A 68 (hgR A 130 x0 0) 0 v8) 130 x0 0) 0 (hgL (hsL A 68 (hgR A 130 x0 0) 0 v8) 140 x0 0)) 140 x0 0)) 1034 (hgR (hsL (hsL (hsL A 68 (hgR A 130 x0 0) 0 v8) 69 (hgR (hsL A 68 (hgR A 130 x0 0) 0 v8) 130 x0 0) 0 (hgL (hsL A 68 (hgR A 130 x0 0) 0 v8) 140 x0 0)) 70 (hgR (hsL (hsL A 68 (hgR A 130 x0 0) 0 v8) 69 (hgR (hsL A 68 (hgR A 130 x0 0) 0 v8) 130 x0 0) 0 (hgL (hsL A 68 (hgR A 130 x0 0) 0 v8) 140 x0 0)) 130 x0 0) 0 (hgL (hsL (hsL A 68 (hgR A 130 x0 0) 0 v8) 69 (hgR (hsL A 68 (hgR A 130 x0 0) 0 v8) 130 x0 0) 0 (hgL (hsL A 68 (hgR A 130 x0 0) 0 v8) 140 x0 0)) 140 x0 0)) 137 x0 0) (0 : Int32).toNatClampNeg)) (hgR (hsI (hsL (hsL (hsL A 68 (hgR A 130 x0 0) 0 v8) 69 (hgR (hsL A 68 (hgR A 130 x0 0) 0 v8) 130 x0 0) 0 (hgL (hsL A 68 (hgR A 130 x0 0) 0 v8) 140 x0 0)) 70 (hgR (hsL (hsL A 68 (hgR A 130 x0 0) 0 v8) 69 (hgR (hsL A 68 (hgR A 130 x0 0) 0 v8) 130 x0 0) 0 (hgL (hsL A 68 (hgR A 130 x0 0) 0 v8) 140 x0 0)) 130 x0 0) 0 (hgL (hsL (hsL A 68 (hgR A 130 x0 0) 0 v8) 69 (hgR (hsL A 68 (hgR A 130 x0 0) 0 v8) 130 x0 0) 0 (hgL (hsL A 68 (hgR A 130 x0 0) 0 v8) 140 x0 0)) 140 x0 0)) 71 (hgR (hsL (hsL (hsL A 68 (hgR A 130 x0 0) 0 v8) 69 (hgR (hsL A 68 (hgR A 130 x0 0) 0 v8) 130 x0 0) 0 (hgL (hsL A 68 (hgR A 130 x0 0) 0 v8) 140 x0 0)) 70 (hgR (hsL (hsL A 68 (hgR A 130 x0 0) 0 v8) 69 (hgR (hsL A 68 (hgR A 130 x0 0) 0 v8) 130 x0 0) 0 (hgL (hsL A 68 (hgR A 130 x0 0) 0 v8) 140 x0 0)) 130 x0 0) 0 (hgL (hsL (hsL A 68 (hgR A 130 x0 0) 0 v8) 69 (hgR (hsL A 68 (hgR A 130 x0 0) 0 v8) 130 x0 0) 0 (hgL (hsL A 68 (hgR A 130 x0 0) 0 v8) 140 x0 0)) 140 x0 0)) 130 x0 0) 0 (hgI (hsL (hsL (hsL A 68 (hgR A 130 x0 0) 0 v8) 69 (hgR (hsL A 68 (hgR A 130 x0 0) 0 v8) 130 x0 0) 0 (hgL (hsL A 68 (hgR A 130 x0 0) 0 v8) 140 x0 0)) 70 (hgR (hsL (hsL A 68 (hgR A 130 x0 0) 0 v8) 69 (hgR (hsL A 68 (hgR A 130 x0 0) 0 v8) 130 x0 0) 0 (hgL (hsL A 68 (hgR A 130 x0 0) 0 v8) 140 x0 0)) 130 x0 0) 0 (hgL (hsL (hsL A 68 (hgR A 130 x0 0) 0 v8) 69 (hgR (hsL A 68 (hgR A 130 x0 0) 0 v8) 130 x0 0) 0 (hgL (hsL A 68 (hgR A 130 x0 0) 0 v8) 140 x0 0)) 140 x0 0)) 1034 (hgR (hsL (hsL (hsL A 68 (hgR A 130 x0 0) 0 v8) 69 (hgR (hsL A 68 (hgR A 130 x0 0) 0 v8) 130 x0 0) 0 (hgL (hsL A 68 (hgR A 130 x0 0) 0 v8) 140 x0 0)) 70 (hgR (hsL (hsL A 68 (hgR A 130 x0 0) 0 v8) 69 (hgR (hsL A 68 (hgR A 130 x0 0) 0 v8) 130 x0 0) 0 (hgL (hsL A 68 (hgR A 130 x0 0) 0 v8) 140 x0 0)) 130 x0 0) 0 (hgL (hsL (hsL A 68 (hgR A 130 x0 0) 0 v8) 69 (hgR (hsL A 68 (hgR A 130 x0 0) 0 v8) 130 x0 0) 0 (hgL (hsL A 68 (hgR A 130 x0 0) 0 v8) 140 x0 0)) 140 x0 0)) 137 x0 0) (0 : Int32).toNatClampNeg)) 130 x0 0)).1 = 2 then if wZ (hgI (hsI (hsL (hsL (hsL A 68 (hgR A 130 x0 0) 0 v8) 69 (hgR (hsL A 68 (hgR A 130 x0 0) 0 v8) 130 x0 0) 0 (hgL (hsL A 68 (hgR A 130 x0 0) 0 v8) 140 x0 0)) 70 (hgR (hsL (hsL A 68 (hgR A 130 x0 0) 0 v8) 69 (hgR (hsL A 68 (hgR A 130 x0 0) 0 v8) 130 x0 0) 0 (hgL (hsL A 68 (hgR A 130 x0 0) 0 v8) 140 x0 0)) 130 x0 0) 0 (hgL (hsL (hsL A 68 (hgR A 130 x0 0) 0 v8) 69 (hgR (hsL A 68 (hgR A 130 x0 0) 0 v8) 130 x0 0) 0 (hgL (hsL A 68 (hgR A 130 x0 0) 0 v8) 140 x0 0)) 140 x0 0)) 71 (hgR (hsL (hsL (hsL A 68 (hgR A 130 x0 0) 0 v8) 69 (hgR (hsL A 68 (hgR A 130 x0 0) 0 v8) 130 x0 0) 0 (hgL (hsL A 68 (hgR A 130 x0 0) 0 v8) 140 x0 0)) 70 (hgR (hsL (hsL A 68 (hgR A 130 x0 0) 0 v8) 69 (hgR (hsL A 68 (hgR A 130 x0 0) 0 v8) 130 x0 0) 0 (hgL (hsL A 68 (hgR A 130 x0 0) 0 v8) 140 x0 0)) 130 x0 0) 0 (hgL (hsL (hsL A 68 (hgR A 130 x0 0) 0 v8) 69 (hgR (hsL A 68 (hgR A 130 x0 0) 0 v8) 130 x0 0) 0 (hgL (hsL A 68 (hgR A 130 x0 0) 0 v8) 140 x0 0)) 140 x0 0)) 130 x0 0) 0 (hgI (hsL (hsL (hsL A 68 (hgR A 130 x0 0) 0 v8) 69 (hgR (hsL A 68 (hgR A 130 x0 0) 0 v8) 130 x0 0) 0 (hgL (hsL A 68 (hgR A 130 x0 0) 0 v8) 140 x0 0)) 70 (hgR (hsL (hsL A 68 (hgR A 130 x0 0) 0 v8) 69 (hgR (hsL A 68 (hgR A 130 x0 0) 0 v8) 130 x0 0) 0 (hgL (hsL A 68 (hgR A 130 x0 0) 0 v8) 140 x0 0)) 130 x0 0) 0 (hgL (hsL (hsL A 68 (hgR A 130 x0 0) 0 v8) 69 (hgR (hsL A 68 (hgR A 130 x0 0) 0 v8) 130 x0 0) 0 (hgL (hsL A 68 (hgR A 130 x0 0) 0 v8) 140 x0 0)) 140 x0 0)) 1034 (hgR (hsL (hsL (hsL A 68 (hgR A 130 x0 0) 0 v8) 69 (hgR (hsL A 68 (hgR A 130 x0 0) 0 v8) 130 x0 0) 0 (hgL (hsL A 68 (hgR A 130 x0 0) 0 v8) 140 x0 0)) 70 (hgR (hsL (hsL A 68 (hgR A 130 x0 0) 0 v8) 69 (hgR (hsL A 68 (hgR A 130 x0 0) 0 v8) 130 x0 0) 0 (hgL (hsL A 68 (hgR A 130 x0 0) 0 v8) 140 x0 0)) 130 x0 0) 0 (hgL (hsL (hsL A 68 (hgR A 130 x0 0) 0 v8) 69 (hgR (hsL A 68 (hgR A 130 x0 0) 0 v8) 130 x0 0) 0 (hgL (hsL A 68 (hgR A 130 x0 0) 0 v8) 140 x0 0)) 140 x0 0)) 137 x0 0) (0 : Int32).toNatClampNeg)) 202 x1 0) then if (hsh (hsI (hsI (hsL (hsL (hsL A 68 (hgR A 130 x0 0) 0 v8) 69 (hgR (hsL A 68 (hgR A 130 x0 0) 0 v8) 130 x0 0) 0 (hgL (hsL A 68 (hgR A 130 x0 0) 0 v8) 140 x0 0)) 70 (hgR (hsL (hsL A 68 (hgR A 130 x0 0) 0 v8) 69 (hgR (hsL A 68 (hgR A 130 x0 0) 0 v8) 130 x0 0) 0 (hgL (hsL A 68 (hgR A 130 x0 0) 0 v8) 140 x0 0)) 130 x0 0) 0 (hgL (hsL (hsL A 68 (hgR A 130 x0 0) 0 v8) 69 (hgR (hsL A 68 (hgR A 130 x0 0) 0 v8) 130 x0 0) 0 (hgL (hsL A 68 (hgR A 130 x0 0) 0 v8) 140 x0 0)) 140 x0 0)) 71 (hgR (hsL (hsL (hsL A 68 (hgR A 130 x0 0) 0 v8) 69 (hgR (hsL A 68 (hgR A 130 x0 0) 0 v8) 130 x0 0) 0 (hgL (hsL A 68 (hgR A 130 x0 0) 0 v8) 140 x0 0)) 70 (hgR (hsL (hsL A 68 (hgR A 130 x0 0) 0 v8) 69 (hgR (hsL A 68 (hgR A 130 x0 0) 0 v8) 130 x0 0) 0 (hgL (hsL A 68 (hgR A 130 x0 0) 0 v8) 140 x0 0)) 130 x0 0) 0 (hgL (hsL (hsL A 68 (hgR A 130 x0 0) 0 v8) 69 (hgR (hsL A 68 (hgR A 130 x0 0) 0 v8) 130 x0 0) 0 (hgL (hsL A 68 (hgR A 130 x0 0) 0 v8) 140 x0 0)) 140 x0 0)) 130 x0 0) 0 (hgI (hsL (hsL (hsL A 68 (hgR A 130 x0 0) 0 v8) 69 (hgR (hsL A 68 (hgR A 130 x0 0) 0 v8) 130 x0 0) 0 (hgL (hsL A 68 (hgR A 130 x0 0) 0 v8) 140 x0 0)) 70 (hgR (hsL (hsL A 68 (hgR A 130 x0 0) 0 v8) 69 (hgR (hsL A 68 (hgR A 130 x0 0) 0 v8) 130 x0 0) 0 (hgL (hsL A 68 (hgR A 130 x0 0) 0 v8) 140 x0 0)) 130 x0 0) 0 (hgL (hsL (hsL A 68 (hgR A 130 x0 0) 0 v8) 69 (hgR (hsL A 68 (hgR A 130 x0 0) 0 v8) 130 x0 0) 0 (hgL (hsL A 68 (hgR A 130 x0 0) 0 v8) 140 x0 0)) 140 x0 0)) 1034 (hgR (hsL (hsL (hsL A 68 (hgR A 130 x0 0) 0 v8) 69 (hgR (hsL A 68 (hgR A 130 x0 0) 0 v8) 130 x0 0) 0 (hgL (hsL A 68 (hgR A 130 x0 0) 0 v8) 140 x0 0)) 70 (hgR (hsL (hsL A 68 (hgR A 130 x0 0) 0 v8) 69 (hgR (hsL A 68 (hgR A 130 x0 0) 0 v8) 130 x0 0) 0 (hgL (hsL A 68 (hgR A 130 x0 0) 0 v8) 140 x0 0)) 130 x0 0) 0 (hgL (hsL (hsL A 68 (hgR A 130 x0 0) 0 v8) 69 (hgR (hsL A 68 (hgR A 130 x0 0) 0 v8) 130 x0 0) 0 (hgL (hsL A 68 (hgR A 130 x0 0) 0 v8) 140 x0 0)) 140 x0 0)) 137 x0 0) (0 : Int32).toNatClampNeg)) 73 (hgR (hsI (hsL (hsL (hsL A 68 (hgR A 130 x0 0) 0 v8) 69 (hgR (hsL A 68 (hgR A 130 x0 0) 0 v8) 130 x0 0) 0 (hgL (hsL A 68 (hgR A 130 x0 0) 0 v8) 140 x0 0)) 70 (hgR (hsL (hsL A 68 (hgR A 130 x0 0) 0 v8) 69 (hgR (hsL A 68 (hgR A 130 x0 0) 0 v8) 130 x0 0) 0 (hgL (hsL A 68 (hgR A 130 x0 0) 0 v8) 140 x0 0)) 130 x0 0) 0 (hgL (hsL (hsL A 68 (hgR A 130 x0 0) 0 v8) 69 (hgR (hsL A 68 (hgR A 130 x0 0) 0 v8) 130 x0 0) 0 (hgL (hsL A 68 (hgR A 130 x0 0) 0 v8) 140 x0 0)) 140 x0 0)) 71 (hgR (hsL (hsL (hsL A 68 (hgR A 130 x0 0) 0 v8) 69 (hgR (hsL A 68 (hgR A 130 x0 0) 0 v8) 130 x0 0) 0 (hgL (hsL A 68 (hgR A 130 x0 0) 0 v8) 140 x0 0)) 70 (hgR (hsL (hsL A 68 (hgR A 130 x0 0) 0 v8) 69 (hgR (hsL A 68 (hgR A 130 x0 0) 0 v8) 130 x0 0) 0 (hgL (hsL A 68 (hgR A 130 x0 0) 0 v8) 140 x0 0)) 130 x0 0) 0 (hgL (hsL (hsL A 68 (hgR A 130 x0 0) 0 v8) 69 (hgR (hsL A 68 (hgR A 130 x0 0) 0 v8) 130 x0 0) 0 (hgL (hsL A 68 (hgR A 130 x0 0) 0 v8) 140 x0 0)) 140 x0 0)) 130 x0 0) 0 (hgI (hsL (hsL (hsL A 68 (hgR A 130 x0 0) 0 v8) 69 (hgR (hsL A 68 (hgR A 130 x0 0) 0 v8) 130 x0 0) 0 (hgL (hsL A 68 (hgR A 130 x0 0) 0 v8) 140 x0 0)) 70 (hgR (hsL (hsL A 68 (hgR A 130 x0 0) 0 v8) 69 (hgR (hsL A 68 (hgR A 130 x0 0) 0 v8) 130 x0 0) 0 (hgL (hsL A 68 (hgR A 130 x0 0) 0 v8) 140 x0 0)) 130 x0 0) 0 (hgL (hsL (hsL A 68 (hgR A 130 x0 0) 0 v8) 69 (hgR (hsL A 68 (hgR A 130 x0 0) 0 v8) 130 x0 0) 0 (hgL (hsL A 68 (hgR A 130 x0 0) 0 v8) 140 x0 0)) 140 x0 0)) 1034 (hgR (hsL (hsL (hsL A 68 (hgR A 130 x0 0) 0 v8) 69 (hgR (hsL A 68 (hgR A 130 x0 0) 0 v8) 130 x0 0) 0 (hgL (hsL A 68 (hgR A 130 x0 0) 0 v8) 140 x0 0)) 70 (hgR (hsL (hsL A 68 (hgR A 130 x0 0) 0 v8) 69 (hgR (hsL A 68 (hgR A 130 x0 0) 0 v8) 130 x0 0) 0 (hgL (hsL A 68 (hgR A 130 x0 0) 0 v8) 140 x0 0)) 130 x0 0) 0 (hgL (hsL (hsL A 68 (hgR A 130 x0 0) 0 v8) 69 (hgR (hsL A 68 (hgR A 130 x0 0) 0 v8) 130 x0 0) 0 (hgL (hsL A 68 (hgR A 130 x0 0) 0 v8) 140 x0 0)) 140 x0 0)) 137 x0 0) (0 : Int32).toNatClampNeg)) 130 x0 0) 0 (hgI (hsI (hsL (hsL (hsL A 68 (hgR A 130 x0 0) 0 v8) 69 (hgR (hsL A 68 (hgR A 130 x0 0) 0 v8) 130 x0 0) 0 (hgL (hsL A 68 (hgR A 130 x0 0) 0 v8) 140 x0 0)) 70 (hgR (hsL (hsL A 68 (hgR A 130 x0 0) 0 v8) 69 (hgR (hsL A 68 (hgR A 130 x0 0) 0 v8) 130 x0 0) 0 (hgL (hsL A 68 (hgR A 130 x0 0) 0 v8) 140 x0 0)) 130 x0 0) 0 (hgL (hsL (hsL A 68 (hgR A 130 x0 0) 0 v8) 69 (hgR (hsL A 68 (hgR A 130 x0 0) 0 v8) 130 x0 0) 0 (hgL (hsL A 68 (hgR A 130 x0 0) 0 v8) 140 x0 0)) 140 x0 0)) 71 (hgR (hsL (hsL (hsL A 68 (hgR A 130 x0 0) 0 v8) 69 (hgR (hsL A 68 (hgR A 130 x0 0) 0 v8) 130 x0 0) 0 (hgL (hsL A 68 (hgR A 130 x0 0) 0 v8) 140 x0 0)) 70 (hgR (hsL (hsL A 68 (hgR A 130 x0 0) 0 v8) 69 (hgR (hsL A 68 (hgR A 130 x0 0) 0 v8) 130 x0 0) 0 (hgL (hsL A 68 (hgR A 130 x0 0) 0 v8) 140 x0 0)) 130 x0 0) 0 (hgL (hsL (hsL A 68 (hgR A 130 x0 0) 0 v8) 69 (hgR (hsL A 68 (hgR A 130 x0 0) 0 v8) 130 x0 0) 0 (hgL (hsL A 68 (hgR A 130 x0 0) 0 v8) 140 x0 0)) 140 x0 0)) 130 x0 0) 0 (hgI (hsL (hsL (hsL A 68 (hgR A 130 x0 0) 0 v8) 69 (hgR (hsL A 68 (hgR A 130 x0 0) 0 v8) 130 x0 0) 0 (hgL (hsL A 68 (hgR A 130 x0 0) 0 v8) 140 x0 0)) 70 (hgR (hsL (hsL A 68 (hgR A 130 x0 0) 0 v8) 69 (hgR (hsL A 68 (hgR A 130 x0 0) 0 v8) 130 x0 0) 0 (hgL (hsL A 68 (hgR A 130 x0 0) 0 v8) 140 x0 0)) 130 x0 0) 0 (hgL (hsL (hsL A 68 (hgR A 130 x0 0) 0 v8) 69 (hgR (hsL A 68 (hgR A 130 x0 0) 0 v8) 130 x0 0) 0 (hgL (hsL A 68 (hgR A 130 x0 0) 0 v8) 140 x0 0)) 140 x0 0)) 1034 (hgR (hsL (hsL (hsL A 68 (hgR A 130 x0 0) 0 v8) 69 (hgR (hsL A 68 (hgR A 130 x0 0) 0 v8) 130 x0 0) 0 (hgL (hsL A 68 (hgR A 130 x0 0) 0 v8) 140 x0 0)) 70 (hgR (hsL (hsL A 68 (hgR A 130 x0 0) 0 v8) 69 (hgR (hsL A 68 (hgR A 130 x0 0) 0 v8) 130 x0 0) 0 (hgL (hsL A 68 (hgR A 130 x0 0) 0 v8) 140 x0 0)) 130 x0 0) 0 (hgL (hsL (hsL A 68 (hgR A 130 x0 0) 0 v8) 69 (hgR (hsL A 68 (hgR A 130 x0 0) 0 v8) 130 x0 0) 0 (hgL (hsL A 68 (hgR A 130 x0 0) 0 v8) 140 x0 0)) 140 x0 0)) 137 x0 0) (0 : Int32).toNatClampNeg)) 202 x1 0)) (hgR (hsI (hsI (hsL (hsL (hsL A 68 (hgR A 130 x0 0) 0 v8) 69 (hgR (hsL A 68 (hgR A 130 x0 0) 0 v8) 130 x0 0) 0 (hgL (hsL A 68 (hgR A 130 x0 0) 0 v8) 140 x0 0)) 70 (hgR (hsL (hsL A 68 (hgR A 130 x0 0) 0 v8) 69 (hgR (hsL A 68 (hgR A 130 x0 0) 0 v8) 130 x0 0) 0 (hgL (hsL A 68 (hgR A 130 x0 0) 0 v8) 140 x0 0)) 130 x0 0) 0 (hgL (hsL (hsL A 68 (hgR A 130 x0 0) 0 v8) 69 (hgR (hsL A 68 (hgR A 130 x0 0) 0 v8) 130 x0 0) 0 (hgL (hsL A 68 (hgR A 130 x0 0) 0 v8) 140 x0 0)) 140 x0 0)) 71 (hgR (hsL (hsL (hsL A 68 (hgR A 130 x0 0) 0 v8) 69 (hgR (hsL A 68 (hgR A 130 x0 0) 0 v8) 130 x0 0) 0 (hgL (hsL A 68 (hgR A 130 x0 0) 0 v8) 140 x0 0)) 70 (hgR (hsL (hsL A 68 (hgR A 130 x0 0) 0 v8) 69 (hgR (hsL A 68 (hgR A 130 x0 0) 0 v8) 130 x0 0) 0 (hgL (hsL A 68 (hgR A 130 x0 0) 0 v8) 140 x0 0)) 130 x0 0) 0 (hgL (hsL (hsL A 68 (hgR A 130 x0 0) 0 v8) 69 (hgR (hsL A 68 (hgR A 130 x0 0) 0 v8) 130 x0 0) 0 (hgL (hsL A 68 (hgR A 130 x0 0) 0 v8) 140 x0 0)) 140 x0 0)) 130 x0 0) 0 (hgI (hsL (hsL (hsL A 68 (hgR A 130 x0 0) 0 v8) 69 (hgR (hsL A 68 (hgR A 130 x0 0) 0 v8) 130 x0 0) 0 (hgL (hsL A 68 (hgR A 130 x0 0) 0 v8) 140 x0 0)) 70 (hgR (hsL (hsL A 68 (hgR A 130 x0 0) 0 v8) 69 (hgR (hsL A 68 (hgR A 130 x0 0) 0 v8) 130 x0 0) 0 (hgL (hsL A 68 (hgR A 130 x0 0) 0 v8) 140 x0 0)) 130 x0 0) 0 (hgL (hsL (hsL A 68 (hgR A 130 x0 0) 0 v8) 69 (hgR (hsL A 68 (hgR A 130 x0 0) 0 v8) 130 x0 0) 0 (hgL (hsL A 68 (hgR A 130 x0 0) 0 v8) 140 x0 0)) 140 x0 0)) 1034 (hgR (hsL (hsL (hsL A 68 (hgR A 130 x0 0) 0 v8) 69 (hgR (hsL A 68 (hgR A 130 x0 0) 0 v8) 130 x0 0) 0 (hgL (hsL A 68 (hgR A 130 x0 0) 0 v8) 140 x0 0)) 70 (hgR (hsL (hsL A 68 (hgR A 130 x0 0) 0 v8) 69 (hgR (hsL A 68 (hgR A 130 x0 0) 0 v8) 130 x0 0) 0 (hgL (hsL A 68 (hgR A 130 x0 0) 0 v8) 140 x0 0)) 130 x0 0) 0 (hgL (hsL (hsL A 68 (hgR A 130 x0 0) 0 v8) 69 (hgR (hsL A 68 (hgR A 130 x0 0) 0 v8) 130 x0 0) 0 (hgL (hsL A 68 (hgR A 130 x0 0) 0 v8) 140 x0 0)) 140 x0 0)) 137 x0 0) (0 : Int32).toNatClampNeg)) 73 (hgR (hsI (hsL (hsL (hsL A 68 (hgR A 130 x0 0) 0 v8) 69 (hgR (hsL A 68 (hgR A 130 x0 0) 0 v8) 130 x0 0) 0 (hgL (hsL A 68 (hgR A 130 x0 0) 0 v8) 140 x0 0)) 70 (hgR (hsL (hsL A 68 (hgR A 130 x0 0) 0 v8) 69 (hgR (hsL A 68 (hgR A 130 x0 0) 0 v8) 130 x0 0) 0 (hgL (hsL A 68 (hgR A 130 x0 0) 0 v8) 140 x0 0)) 130 x0 0) 0 (hgL (hsL (hsL A 68 (hgR A 130 x0 0) 0 v8) 69 (hgR (hsL A 68 (hgR A 130 x0 0) 0 v8) 130 x0 0) 0 (hgL (hsL A 68 (hgR A 130 x0 0) 0 v8) 140 x0 0)) 140 x0 0)) 71 (hgR (hsL (hsL (hsL A 68 (hgR A 130 x0 0) 0 v8) 69 (hgR (hsL A 68 (hgR A 130 x0 0) 0 v8) 130 x0 0) 0 (hgL (hsL A 68 (hgR A 130 x0 0) 0 v8) 140 x0 0)) 70 (hgR (hsL (hsL A 68 (hgR A 130 x0 0) 0 v8) 69 (hgR (hsL A 68 (hgR A 130 x0 0) 0 v8) 130 x0 0) 0 (hgL (hsL A 68 (hgR A 130 x0 0) 0 v8) 140 x0 0)) 130 x0 0) 0 (hgL (hsL (hsL A 68 (hgR A 130 x0 0) 0 v8) 69 (hgR (hsL A 68 (hgR A 130 x0 0) 0 v8) 130 x0 0) 0 (hgL (hsL A 68 (hgR A 130 x0 0) 0 v8) 140 x0 0)) 140 x0 0)) 130 x0 0) 0 (hgI (hsL (hsL (hsL A 68 (hgR A 130 x0 0) 0 v8) 69 (hgR (hsL A 68 (hgR A 130 x0 0) 0 v8) 130 x0 0) 0 (hgL (hsL A 68 (hgR A 130 x0 0) 0 v8) 140 x0 0)) 70 (hgR (hsL (hsL A 68 (hgR A 130 x0 0) 0 v8) 69 (hgR (hsL A 68 (hgR A 130 x0 0) 0 v8) 130 x0 0) 0 (hgL (hsL A 68 (hgR A 130 x0 0) 0 v8) 140 x0 0)) 130 x0 0) 0 (hgL (hsL (hsL A 68 (hgR A 130 x0 0) 0 v8) 69 (hgR (hsL A 68 (hgR A 130 x0 0) 0 v8) 130 x0 0) 0 (hgL (hsL A 68 (hgR A 130 x0 0) 0 v8) 140 x0 0)) 140 x0 0)) 1034 (hgR (hsL (hsL (hsL A 68 (hgR A 130 x0 0) 0 v8) 69 (hgR (hsL A 68 (hgR A 130 x0 0) 0 v8) 130 x0 0) 0 (hgL (hsL A 68 (hgR A 130 x0 0) 0 v8) 140 x0 0)) 70 (hgR (hsL (hsL A 68 (hgR A 130 x0 0) 0 v8) 69 (hgR (hsL A 68 (hgR A 130 x0 0) 0 v8) 130 x0 0) 0 (hgL (hsL A 68 (hgR A 130 x0 0) 0 v8) 140 x0 0)) 130 x0 0) 0 (hgL (hsL (hsL A 68 (hgR A 130 x0 0) 0 v8) 69 (hgR (hsL A 68 (hgR A 130 x0 0) 0 v8) 130 x0 0) 0 (hgL (hsL A 68 (hgR A 130 x0 0) 0 v8) 140 x0 0)) 140 x0 0)) 137 x0 0) (0 : Int32).toNatClampNeg)) 130 x0 0) 0 (hgI (hsI (hsL (hsL (hsL A 68 (hgR A 130 x0 0) 0 v8) 69 (hgR (hsL A 68 (hgR A 130 x0 0) 0 v8) 130 x0 0) 0 (hgL (hsL A 68 (hgR A 130 x0 0) 0 v8) 140 x0 0)) 70 (hgR (hsL (hsL A 68 (hgR A 130 x0 0) 0 v8) 69 (hgR (hsL A 68 (hgR A 130 x0 0) 0 v8) 130 x0 0) 0 (hgL (hsL A 68 (hgR A 130 x0 0) 0 v8) 140 x0 0)) 130 x0 0) 0 (hgL (hsL (hsL A 68 (hgR A 130 x0 0) 0 v8) 69 (hgR (hsL A 68 (hgR A 130 x0 0) 0 v8) 130 x0 0) 0 (hgL (hsL A 68 (hgR A 130 x0 0) 0 v8) 140 x0 0)) 140 x0 0)) 71 (hgR (hsL (hsL (hsL A 68 (hgR A 130 x0 0) 0 v8) 69 (hgR (hsL A 68 (hgR A 130 x0 0) 0 v8) 130 x0 0) 0 (hgL (hsL A 68 (hgR A 130 x0 0) 0 v8) 140 x0 0)) 70 (hgR (hsL (hsL A 68 (hgR A 130 x0 0) 0 v8) 69 (hgR (hsL A 68 (hgR A 130 x0 0) 0 v8) 130 x0 0) 0 (hgL (hsL A 68 (hgR A 130 x0 0) 0 v8) 140 x0 0)) 130 x0 0) 0 (hgL (hsL (hsL A 68 (hgR A 130 x0 0) 0 v8) 69 (hgR (hsL A 68 (hgR A 130 x0 0) 0 v8) 130 x0 0) 0 (hgL (hsL A 68 (hgR A 130 x0 0) 0 v8) 140 x0 0)) 140 x0 0)) 130 x0 0) 0 (hgI (hsL (hsL (hsL A 68 (hgR A 130 x0 0) 0 v8) 69 (hgR (hsL A 68 (hgR A 130 x0 0) 0 v8) 130 x0 0) 0 (hgL (hsL A 68 (hgR A 130 x0 0) 0 v8) 140 x0 0)) 70 (hgR (hsL (hsL A 68 (hgR A 130 x0 0) 0 v8) 69 (hgR (hsL A 68 (hgR A 130 x0 0) 0 v8) 130 x0 0) 0 (hgL (hsL A 68 (hgR A 130 x0 0) 0 v8) 140 x0 0)) 130 x0 0) 0 (hgL (hsL (hsL A 68 (hgR A 130 x0 0) 0 v8) 69 (hgR (hsL A 68 (hgR A 130 x0 0) 0 v8) 130 x0 0) 0 (hgL (hsL A 68 (hgR A 130 x0 0) 0 v8) 140 x0 0)) 140 x0 0)) 1034 (hgR (hsL (hsL (hsL A 68 (hgR A 130 x0 0) 0 v8) 69 (hgR (hsL A 68 (hgR A 130 x0 0) 0 v8) 130 x0 0) 0 (hgL (hsL A 68 (hgR A 130 x0 0) 0 v8) 140 x0 0)) 70 (hgR (hsL (hsL A 68 (hgR A 130 x0 0) 0 v8) 69 (hgR (hsL A 68 (hgR A 130 x0 0) 0 v8) 130 x0 0) 0 (hgL (hsL A 68 (hgR A 130 x0 0) 0 v8) 140 x0 0)) 130 x0 0) 0 (hgL (hsL (hsL A 68 (hgR A 130 x0 0) 0 v8) 69 (hgR (hsL A 68 (hgR A 130 x0 0) 0 v8) 130 x0 0) 0 (hgL (hsL A 68 (hgR A 130 x0 0) 0 v8) 140 x0 0)) 140 x0 0)) 137 x0 0) (0 : Int32).toNatClampNeg)) 202 x1 0)) 130 x0 0)).1 = 2 then if wZ (hgI (hsI (hsI (hsL (hsL (hsL A 68 (hgR A 130 x0 0) 0 v8) 69 (hgR (hsL A 68 (hgR A 130 x0 0) 0 v8) 130 x0 0) 0 (hgL (hsL A 68 (hgR A 130 x0 0) 0 v8) 140 x0 0)) 70 (hgR (hsL (hsL A 68 (hgR A 130 x0 0) 0 v8) 69 (hgR (hsL A 68 (hgR A 130 x0 0) 0 v8) 130 x0 0) 0 (hgL (hsL A 68 (hgR A 130 x0 0) 0 v8) 140 x0 0)) 130 x0 0) 0 (hgL (hsL (hsL A 68 (hgR A 130 x0 0) 0 v8) 69 (hgR (hsL A 68 (hgR A 130 x0 0) 0 v8) 130 x0 0) 0 (hgL (hsL A 68 (hgR A 130 x0 0) 0 v8) 140 x0 0)) 140 x0 0)) 71 (hgR (hsL (hsL (hsL A 68 (hgR A 130 x0 0) 0 v8) 69 (hgR (hsL A 68 (hgR A 130 x0 0) 0 v8) 130 x0 0) 0 (hgL (hsL A 68 (hgR A 130 x0 0) 0 v8) 140 x0 0)) 70 (hgR (hsL (hsL A 68 (hgR A 130 x0 0) 0 v8) 69 (hgR (hsL A 68 (hgR A 130 x0 0) 0 v8) 130 x0 0) 0 (hgL (hsL A 68 (hgR A 130 x0 0) 0 v8) 140 x0 0)) 130 x0 0) 0 (hgL (hsL (hsL A 68 (hgR A 130 x0 0) 0 v8) 69 (hgR (hsL A 68 (hgR A 130 x0 0) 0 v8) 130 x0 0) 0 (hgL (hsL A 68 (hgR A 130 x0 0) 0 v8) 140 x0 0)) 140 x0 0)) 130 x0 0) 0 (hgI (hsL (hsL (hsL A 68 (hgR A 130 x0 0) 0 v8) 69 (hgR (hsL A 68 (hgR A 130 x0 0) 0 v8) 130 x0 0) 0 (hgL (hsL A 68 (hgR A 130 x0 0) 0 v8) 140 x0 0)) 70 (hgR (hsL (hsL A 68 (hgR A 130 x0 0) 0 v8) 69 (hgR (hsL A 68 (hgR A 130 x0 0) 0 v8) 130 x0 0) 0 (hgL (hsL A 68 (hgR A 130 x0 0) 0 v8) 140 x0 0)) 130 x0 0) 0 (hgL (hsL (hsL A 68 (hgR A 130 x0 0) 0 v8) 69 (hgR (hsL A 68 (hgR A 130 x0 0) 0 v8) 130 x0 0) 0 (hgL (hsL A 68 (hgR A 130 x0 0) 0 v8) 140 x0 0)) 140 x0 0)) 1034 (hgR (hsL (hsL (hsL A 68 (hgR A 130 x0 0) 0 v8) 69 (hgR (hsL A 68 (hgR A 130 x0 0) 0 v8) 130 x0 0) 0 (hgL (hsL A 68 (hgR A 130 x0 0) 0 v8) 140 x0 0)) 70 (hgR (hsL (hsL A 68 (hgR A 130 x0 0) 0 v8) 69 (hgR (hsL A 68 (hgR A 130 x0 0) 0 v8) 130 x0 0) 0 (hgL (hsL A 68 (hgR A 130 x0 0) 0 v8) 140 x0 0)) 130 x0 0) 0 (hgL (hsL (hsL A 68 (hgR A 130 x0 0) 0 v8) 69 (hgR (hsL A 68 (hgR A 130 x0 0) 0 v8) 130 x0 0) 0 (hgL (hsL A 68 (hgR A 130 x0 0) 0 v8) 140 x0 0)) 140 x0 0)) 137 x0 0) (0 : Int32).toNatClampNeg)) 73 (hgR (hsI (hsL (hsL (hsL A 68 (hgR A 130 x0 0) 0 v8) 69 (hgR (hsL A 68 (hgR A 130 x0 0) 0 v8) 130 x0 0) 0 (hgL (hsL A 68 (hgR A 130 x0 0) 0 v8) 140 x0 0)) 70 (hgR (hsL (hsL A 68 (hgR A 130 x0 0) 0 v8) 69 (hgR (hsL A 68 (hgR A 130 x0 0) 0 v8) 130 x0 0) 0 (hgL (hsL A 68 (hgR A 130 x0 0) 0 v8) 140 x0 0)) 130 x0 0) 0 (hgL (hsL (hsL A 68 (hgR A 130 x0 0) 0 v8) 69 (hgR (hsL A 68 (hgR A 130 x0 0) 0 v8) 130 x0 0) 0 (hgL (hsL A 68 (hgR A 130 x0 0) 0 v8) 140 x0 0)) 140 x0 0)) 71 (hgR (hsL (hsL (hsL A 68 (hgR A 130 x0 0) 0 v8) 69 (hgR (hsL A 68 (hgR A 130 x0 0) 0 v8) 130 x0 0) 0 (hgL (hsL A 68 (hgR A 130 x0 0) 0 v8) 140 x0 0)) 70 (hgR (hsL (hsL A 68 (hgR A 130 x0 0) 0 v8) 69 (hgR (hsL A 68 (hgR A 130 x0 0) 0 v8) 130 x0 0) 0 (hgL (hsL A 68 (hgR A 130 x0 0) 0 v8) 140 x0 0)) 130 x0 0) 0 (hgL (hsL (hsL A 68 (hgR A 130 x0 0) 0 v8) 69 (hgR (hsL A 68 (hgR A 130 x0 0) 0 v8) 130 x0 0) 0 (hgL (hsL A 68 (hgR A 130 x0 0) 0 v8) 140 x0 0)) 140 x0 0)) 130 x0 0) 0 (hgI (hsL (hsL (hsL A 68 (hgR A 130 x0 0) 0 v8) 69 (hgR (hsL A 68 (hgR A 130 x0 0) 0 v8) 130 x0 0) 0 (hgL (hsL A 68 (hgR A 130 x0 0) 0 v8) 140 x0 0)) 70 (hgR (hsL (hsL A 68 (hgR A 130 x0 0) 0 v8) 69 (hgR (hsL A 68 (hgR A 130 x0 0) 0 v8) 130 x0 0) 0 (hgL (hsL A 68 (hgR A 130 x0 0) 0 v8) 140 x0 0)) 130 x0 0) 0 (hgL (hsL (hsL A 68 (hgR A 130 x0 0) 0 v8) 69 (hgR (hsL A 68 (hgR A 130 x0 0) 0 v8) 130 x0 0) 0 (hgL (hsL A 68 (hgR A 130 x0 0) 0 v8) 140 x0 0)) 140 x0 0)) 1034 (hgR (hsL (hsL (hsL A 68 (hgR A 130 x0 0) 0 v8) 69 (hgR (hsL A 68 (hgR A 130 x0 0) 0 v8) 130 x0 0) 0 (hgL (hsL A 68 (hgR A 130 x0 0) 0 v8) 140 x0 0)) 70 (hgR (hsL (hsL A 68 (hgR A 130 x0 0) 0 v8) 69 (hgR (hsL A 68 (hgR A 130 x0 0) 0 v8) 130 x0 0) 0 (hgL (hsL A 68 (hgR A 130 x0 0) 0 v8) 140 x0 0)) 130 x0 0) 0 (hgL (hsL (hsL A 68 (hgR A 130 x0 0) 0 v8) 69 (hgR (hsL A 68 (hgR A 130 x0 0) 0 v8) 130 x0 0) 0 (hgL (hsL A 68 (hgR A 130 x0 0) 0 v8) 140 x0 0)) 140 x0 0)) 137 x0 0) (0 : Int32).toNatClampNeg)) 130 x0 0) 0 (hgI (hsI (hsL (hsL (hsL A 68 (hgR A 130 x0 0) 0 v8) 69 (hgR (hsL A 68 (hgR A 130 x0 0) 0 v8) 130 x0 0) 0 (hgL (hsL A 68 (hgR A 130 x0 0) 0 v8) 140 x0 0)) 70 (hgR (hsL (hsL A 68 (hgR A 130 x0 0) 0 v8) 69 (hgR (hsL A 68 (hgR A 130 x0 0) 0 v8) 130 x0 0) 0 (hgL (hsL A 68 (hgR A 130 x0 0) 0 v8) 140 x0 0)) 130 x0 0) 0 (hgL (hsL (hsL A 68 (hgR A 130 x0 0) 0 v8) 69 (hgR (hsL A 68 (hgR A 130 x0 0) 0 v8) 130 x0 0) 0 (hgL (hsL A 68 (hgR A 130 x0 0) 0 v8) 140 x0 0)) 140 x0 0)) 71 (hgR (hsL (hsL (hsL A 68 (hgR A 130 x0 0) 0 v8) 69 (hgR (hsL A 68 (hgR A 130 x0 0) 0 v8) 130 x0 0) 0 (hgL (hsL A 68 (hgR A 130 x0 0) 0 v8) 140 x0 0)) 70 (hgR (hsL (hsL A 68 (hgR A 130 x0 0) 0 v8) 69 (hgR (hsL A 68 (hgR A 130 x0 0) 0 v8) 130 x0 0) 0 (hgL (hsL A 68 (hgR A 130 x0 0) 0 v8) 140 x0 0)) 130 x0 0) 0 (hgL (hsL (hsL A 68 (hgR A 130 x0 0) 0 v8) 69 (hgR (hsL A 68 (hgR A 130 x0 0) 0 v8) 130 x0 0) 0 (hgL (hsL A 68 (hgR A 130 x0 0) 0 v8) 140 x0 0)) 140 x0 0)) 130 x0 0) 0 (hgI (hsL (hsL (hsL A 68 (hgR A 130 x0 0) 0 v8) 69 (hgR (hsL A 68 (hgR A 130 x0 0) 0 v8) 130 x0 0) 0 (hgL (hsL A 68 (hgR A 130 x0 0) 0 v8) 140 x0 0)) 70 (hgR (hsL (hsL A 68 (hgR A 130 x0 0) 0 v8) 69 (hgR (hsL A 68 (hgR A 130 x0 0) 0 v8) 130 x0 0) 0 (hgL (hsL A 68 (hgR A 130 x0 0) 0 v8) 140 x0 0)) 130 x0 0) 0 (hgL (hsL (hsL A 68 (hgR A 130 x0 0) 0 v8) 69 (hgR (hsL A 68 (hgR A 130 x0 0) 0 v8) 130 x0 0) 0 (hgL (hsL A 68 (hgR A 130 x0 0) 0 v8) 140 x0 0)) 140 x0 0)) 1034 (hgR (hsL (hsL (hsL A 68 (hgR A 130 x0 0) 0 v8) 69 (hgR (hsL A 68 (hgR A 130 x0 0) 0 v8) 130 x0 0) 0 (hgL (hsL A 68 (hgR A 130 x0 0) 0 v8) 140 x0 0)) 70 (hgR (hsL (hsL A 68 (hgR A 130 x0 0) 0 v8) 69 (hgR (hsL A 68 (hgR A 130 x0 0) 0 v8) 130 x0 0) 0 (hgL (hsL A 68 (hgR A 130 x0 0) 0 v8) 140 x0 0)) 130 x0 0) 0 (hgL (hsL (hsL A 68 (hgR A 130 x0 0) 0 v8) 69 (hgR (hsL A 68 (hgR A 130 x0 0) 0 v8) 130 x0 0) 0 (hgL (hsL A 68 (hgR A 130 x0 0) 0 v8) 140 x0 0)) 140 x0 0)) 137 x0 0) (0 : Int32).toNatClampNeg)) 202 x1 0)) 203 x1 0) then k_X4_shape_208 (hsI (hsI (hsI (hsL (hsL (hsL A 68 (hgR A 130 x0 0) 0 v8) 69 (hgR (hsL A 68 (hgR A 130 x0 0) 0 v8) 130 x0 0) 0 (hgL (hsL A 68 (hgR A 130 x0 0) 0 v8) 140 x0 0)) 70 (hgR (hsL (hsL A 68 (hgR A 130 x0 0) 0 v8) 69 (hgR (hsL A 68 (hgR A 130 x0 0) 0 v8) 130 x0 0) 0 (hgL (hsL A 68 (hgR A 130 x0 0) 0 v8) 140 x0 0)) 130 x0 0) 0 (hgL (hsL (hsL A 68 (hgR A 130 x0 0) 0 v8) 69 (hgR (hsL A 68 (hgR A 130 x0 0) 0 v8) 130 x0 0) 0 (hgL (hsL A 68 (hgR A 130 x0 0) 0 v8) 140 x0 0)) 140 x0 0)) 71 (hgR (hsL (hsL (hsL A 68 (hgR A 130 x0 0) 0 v8) 69 (hgR (hsL A 68 (hgR A 130 x0 0) 0 v8) 130 x0 0) 0 (hgL (hsL A 68 (hgR A 130 x0 0) 0 v8) 140 x0 0)) 70 (hgR (hsL (hsL A 68 (hgR A 130 x0 0) 0 v8) 69 (hgR (hsL A 68 (hgR A 130 x0 0) 0 v8) 130 x0 0) 0 (hgL (hsL A 68 (hgR A 130 x0 0) 0 v8) 140 x0 0)) 130 x0 0) 0 (hgL (hsL (hsL A 68 (hgR A 130 x0 0) 0 v8) 69 (hgR (hsL A 68 (hgR A 130 x0 0) 0 v8) 130 x0 0) 0 (hgL (hsL A 68 (hgR A 130 x0 0) 0 v8) 140 x0 0)) 140 x0 0)) 130 x0 0) 0 (hgI (hsL (hsL (hsL A 68 (hgR A 130 x0 0) 0 v8) 69 (hgR (hsL A 68 (hgR A 130 x0 0) 0 v8) 130 x0 0) 0 (hgL (hsL A 68 (hgR A 130 x0 0) 0 v8) 140 x0 0)) 70 (hgR (hsL (hsL A 68 (hgR A 130 x0 0) 0 v8) 69 (hgR (hsL A 68 (hgR A 130 x0 0) 0 v8) 130 x0 0) 0 (hgL (hsL A 68 (hgR A 130 x0 0) 0 v8) 140 x0 0)) 130 x0 0) 0 (hgL (hsL (hsL A 68 (hgR A 130 x0 0) 0 v8) 69 (hgR (hsL A 68 (hgR A 130 x0 0) 0 v8) 130 x0 0) 0 (hgL (hsL A 68 (hgR A 130 x0 0) 0 v8) 140 x0 0)) 140 x0 0)) 1034 (hgR (hsL (hsL (hsL A 68 (hgR A 130 x0 0) 0 v8) 69 (hgR (hsL A 68 (hgR A 130 x0 0) 0 v8) 130 x0 0) 0 (hgL (hsL A 68 (hgR A 130 x0 0) 0 v8) 140 x0 0)) 70 (hgR (hsL (hsL A 68 (hgR A 130 x0 0) 0 v8) 69 (hgR (hsL A 68 (hgR A 130 x0 0) 0 v8) 130 x0 0) 0 (hgL (hsL A 68 (hgR A 130 x0 0) 0 v8) 140 x0 0)) 130 x0 0) 0 (hgL (hsL (hsL A 68 (hgR A 130 x0 0) 0 v8) 69 (hgR (hsL A 68 (hgR A 130 x0 0) 0 v8) 130 x0 0) 0 (hgL (hsL A 68 (hgR A 130 x0 0) 0 v8) 140 x0 0)) 140 x0 0)) 137 x0 0) (0 : Int32).toNatClampNeg)) 73 (hgR (hsI (hsL (hsL (hsL A 68 (hgR A 130 x0 0) 0 v8) 69 (hgR (hsL A 68 (hgR A 130 x0 0) 0 v8) 130 x0 0) 0 (hgL (hsL A 68 (hgR A 130 x0 0) 0 v8) 140 x0 0)) 70 (hgR (hsL (hsL A 68 (hgR A 130 x0 0) 0 v8) 69 (hgR (hsL A 68 (hgR A 130 x0 0) 0 v8) 130 x0 0) 0 (hgL (hsL A 68 (hgR A 130 x0 0) 0 v8) 140 x0 0)) 130 x0 0) 0 (hgL (hsL (hsL A 68 (hgR A 130 x0 0) 0 v8) 69 (hgR (hsL A 68 (hgR A 130 x0 0) 0 v8) 130 x0 0) 0 (hgL (hsL A 68 (hgR A 130 x0 0) 0 v8) 140 x0 0)) 140 x0 0)) 71 (hgR (hsL (hsL (hsL A 68 (hgR A 130 x0 0) 0 v8) 69 (hgR (hsL A 68 (hgR A 130 x0 0) 0 v8) 130 x0 0) 0 (hgL (hsL A 68 (hgR A 130 x0 0) 0 v8) 140 x0 0)) 70 (hgR (hsL (hsL A 68 (hgR A 130 x0 0) 0 v8) 69 (hgR (hsL A 68 (hgR A 130 x0 0) 0 v8) 130 x0 0) 0 (hgL (hsL A 68 (hgR A 130 x0 0) 0 v8) 140 x0 0)) 130 x0 0) 0 (hgL (hsL (hsL A 68 (hgR A 130 x0 0) 0 v8) 69 (hgR (hsL A 68 (hgR A 130 x0 0) 0 v8) 130 x0 0) 0 (hgL (hsL A 68 (hgR A 130 x0 0) 0 v8) 140 x0 0)) 140 x0 0)) 130 x0 0) 0 (hgI (hsL (hsL (hsL A 68 (hgR A 130 x0 0) 0 v8) 69 (hgR (hsL A 68 (hgR A 130 x0 0) 0 v8) 130 x0 0) 0 (hgL (hsL A 68 (hgR A 130 x0 0) 0 v8) 140 x0 0)) 70 (hgR (hsL (hsL A 68 (hgR A 130 x0 0) 0 v8) 69 (hgR (hsL A 68 (hgR A 130 x0 0) 0 v8) 130 x0 0) 0 (hgL (hsL A 68 (hgR A 130 x0 0) 0 v8) 140 x0 0)) 130 x0 0) 0 (hgL (hsL (hsL A 68 (hgR A 130 x0 0) 0 v8) 69 (hgR (hsL A 68 (hgR A 130 x0 0) 0 v8) 130 x0 0) 0 (hgL (hsL A 68 (hgR A 130 x0 0) 0 v8) 140 x0 0)) 140 x0 0)) 1034 (hgR (hsL (hsL (hsL A 68 (hgR A 130 x0 0) 0 v8) 69 (hgR (hsL A 68 (hgR A 130 x0 0) 0 v8) 130 x0 0) 0 (hgL (hsL A 68 (hgR A 130 x0 0) 0 v8) 140 x0 0)) 70 (hgR (hsL (hsL A 68 (hgR A 130 x0 0) 0 v8) 69 (hgR (hsL A 68 (hgR A 130 x0 0) 0 v8) 130 x0 0) 0 (hgL (hsL A 68 (hgR A 130 x0 0) 0 v8) 140 x0 0)) 130 x0 0) 0 (hgL (hsL (hsL A 68 (hgR A 130 x0 0) 0 v8) 69 (hgR (hsL A 68 (hgR A 130 x0 0) 0 v8) 130 x0 0) 0 (hgL (hsL A 68 (hgR A 130 x0 0) 0 v8) 140 x0 0)) 140 x0 0)) 137 x0 0) (0 : Int32).toNatClampNeg)) 130 x0 0) 0 (hgI (hsI (hsL (hsL (hsL A 68 (hgR A 130 x0 0) 0 v8) 69 (hgR (hsL A 68 (hgR A 130 x0 0) 0 v8) 130 x0 0) 0 (hgL (hsL A 68 (hgR A 130 x0 0) 0 v8) 140 x0 0)) 70 (hgR (hsL (hsL A 68 (hgR A 130 x0 0) 0 v8) 69 (hgR (hsL A 68 (hgR A 130 x0 0) 0 v8) 130 x0 0) 0 (hgL (hsL A 68 (hgR A 130 x0 0) 0 v8) 140 x0 0)) 130 x0 0) 0 (hgL (hsL (hsL A 68 (hgR A 130 x0 0) 0 v8) 69 (hgR (hsL A 68 (hgR A 130 x0 0) 0 v8) 130 x0 0) 0 (hgL (hsL A 68 (hgR A 130 x0 0) 0 v8) 140 x0 0)) 140 x0 0)) 71 (hgR (hsL (hsL (hsL A 68 (hgR A 130 x0 0) 0 v8) 69 (hgR (hsL A 68 (hgR A 130 x0 0) 0 v8) 130 x0 0) 0 (hgL (hsL A 68 (hgR A 130 x0 0) 0 v8) 140 x0 0)) 70 (hgR (hsL (hsL A 68 (hgR A 130 x0 0) 0 v8) 69 (hgR (hsL A 68 (hgR A 130 x0 0) 0 v8) 130 x0 0) 0 (hgL (hsL A 68 (hgR A 130 x0 0) 0 v8) 140 x0 0)) 130 x0 0) 0 (hgL (hsL (hsL A 68 (hgR A 130 x0 0) 0 v8) 69 (hgR (hsL A 68 (hgR A 130 x0 0) 0 v8) 130 x0 0) 0 (hgL (hsL A 68 (hgR A 130 x0 0) 0 v8) 140 x0 0)) 140 x0 0)) 130 x0 0) 0 (hgI (hsL (hsL (hsL A 68 (hgR A 130 x0 0) 0 v8) 69 (hgR (hsL A 68 (hgR A 130 x0 0) 0 v8) 130 x0 0) 0 (hgL (hsL A 68 (hgR A 130 x0 0) 0 v8) 140 x0 0)) 70 (hgR (hsL (hsL A 68 (hgR A 130 x0 0) 0 v8) 69 (hgR (hsL A 68 (hgR A 130 x0 0) 0 v8) 130 x0 0) 0 (hgL (hsL A 68 (hgR A 130 x0 0) 0 v8) 140 x0 0)) 130 x0 0) 0 (hgL (hsL (hsL A 68 (hgR A 130 x0 0) 0 v8) 69 (hgR (hsL A 68 (hgR A 130 x0 0) 0 v8) 130 x0 0) 0 (hgL (hsL A 68 (hgR A 130 x0 0) 0 v8) 140 x0 0)) 140 x0 0)) 1034 (hgR (hsL (hsL (hsL A 68 (hgR A 130 x0 0) 0 v8) 69 (hgR (hsL A 68 (hgR A 130 x0 0) 0 v8) 130 x0 0) 0 (hgL (hsL A 68 (hgR A 130 x0 0) 0 v8) 140 x0 0)) 70 (hgR (hsL (hsL A 68 (hgR A 130 x0 0) 0 v8) 69 (hgR (hsL A 68 (hgR A 130 x0 0) 0 v8) 130 x0 0) 0 (hgL (hsL A 68 (hgR A 130 x0 0) 0 v8) 140 x0 0)) 130 x0 0) 0 (hgL (hsL (hsL A 68 (hgR A 130 x0 0) 0 v8) 69 (hgR (hsL A 68 (hgR A 130 x0 0) 0 v8) 130 x0 0) 0 (hgL (hsL A 68 (hgR A 130 x0 0) 0 v8) 140 x0 0)) 140 x0 0)) 137 x0 0) (0 : Int32).toNatClampNeg)) 202 x1 0)) 74 (hgR (hsI (hsI (hsL (hsL (hsL A 68 (hgR A 130 x0 0) 0 v8) 69 (hgR (hsL A 68 (hgR A 130 x0 0) 0 v8) 130 x0 0) 0 (hgL (hsL A 68 (hgR A 130 x0 0) 0 v8) 140 x0 0)) 70 (hgR (hsL (hsL A 68 (hgR A 130 x0 0) 0 v8) 69 (hgR (hsL A 68 (hgR A 130 x0 0) 0 v8) 130 x0 0) 0 (hgL (hsL A 68 (hgR A 130 x0 0) 0 v8) 140 x0 0)) 130 x0 0) 0 (hgL (hsL (hsL A 68 (hgR A 130 x0 0) 0 v8) 69 (hgR (hsL A 68 (hgR A 130 x0 0) 0 v8) 130 x0 0) 0 (hgL (hsL A 68 (hgR A 130 x0 0) 0 v8) 140 x0 0)) 140 x0 0)) 71 (hgR (hsL (hsL (hsL A 68 (hgR A 130 x0 0) 0 v8) 69 (hgR (hsL A 68 (hgR A 130 x0 0) 0 v8) 130 x0 0) 0 (hgL (hsL A 68 (hgR A 130 x0 0) 0 v8) 140 x0 0)) 70 (hgR (hsL (hsL A 68 (hgR A 130 x0 0) 0 v8) 69 (hgR (hsL A 68 (hgR A 130 x0 0) 0 v8) 130 x0 0) 0 (hgL (hsL A 68 (hgR A 130 x0 0) 0 v8) 140 x0 0)) 130 x0 0) 0 (hgL (hsL (hsL A 68 (hgR A 130 x0 0) 0 v8) 69 (hgR (hsL A 68 (hgR A 130 x0 0) 0 v8) 130 x0 0) 0 (hgL (hsL A 68 (hgR A 130 x0 0) 0 v8) 140 x0 0)) 140 x0 0)) 130 x0 0) 0 (hgI (hsL (hsL (hsL A 68 (hgR A 130 x0 0) 0 v8) 69 (hgR (hsL A 68 (hgR A 130 x0 0) 0 v8) 130 x0 0) 0 (hgL (hsL A 68 (hgR A 130 x0 0) 0 v8) 140 x0 0)) 70 (hgR (hsL (hsL A 68 (hgR A 130 x0 0) 0 v8) 69 (hgR (hsL A 68 (hgR A 130 x0 0) 0 v8) 130 x0 0) 0 (hgL (hsL A 68 (hgR A 130 x0 0) 0 v8) 140 x0 0)) 130 x0 0) 0 (hgL (hsL (hsL A 68 (hgR A 130 x0 0) 0 v8) 69 (hgR (hsL A 68 (hgR A 130 x0 0) 0 v8) 130 x0 0) 0 (hgL (hsL A 68 (hgR A 130 x0 0) 0 v8) 140 x0 0)) 140 x0 0)) 1034 (hgR (hsL (hsL (hsL A 68 (hgR A 130 x0 0) 0 v8) 69 (hgR (hsL A 68 (hgR A 130 x0 0) 0 v8) 130 x0 0) 0 (hgL (hsL A 68 (hgR A 130 x0 0) 0 v8) 140 x0 0)) 70 (hgR (hsL (hsL A 68 (hgR A 130 x0 0) 0 v8) 69 (hgR (hsL A 68 (hgR A 130 x0 0) 0 v8) 130 x0 0) 0 (hgL (hsL A 68 (hgR A 130 x0 0) 0 v8) 140 x0 0)) 130 x0 0) 0 (hgL (hsL (hsL A 68 (hgR A 130 x0 0) 0 v8) 69 (hgR (hsL A 68 (hgR A 130 x0 0) 0 v8) 130 x0 0) 0 (hgL (hsL A 68 (hgR A 130 x0 0) 0 v8) 140 x0 0)) 140 x0 0)) 137 x0 0) (0 : Int32).toNatClampNeg)) 73 (hgR (hsI (hsL (hsL (hsL A 68 (hgR A 130 x0 0) 0 v8) 69 (hgR (hsL A 68 (hgR A 130 x0 0) 0 v8) 130 x0 0) 0 (hgL (hsL A 68 (hgR A 130 x0 0) 0 v8) 140 x0 0)) 70 (hgR (hsL (hsL A 68 (hgR A 130 x0 0) 0 v8) 69 (hgR (hsL A 68 (hgR A 130 x0 0) 0 v8) 130 x0 0) 0 (hgL (hsL A 68 (hgR A 130 x0 0) 0 v8) 140 x0 0)) 130 x0 0) 0 (hgL (hsL (hsL A 68 (hgR A 130 x0 0) 0 v8) 69 (hgR (hsL A 68 (hgR A 130 x0 0) 0 v8) 130 x0 0) 0 (hgL (hsL A 68 (hgR A 130 x0 0) 0 v8) 140 x0 0)) 140 x0 0)) 71 (hgR (hsL (hsL (hsL A 68 (hgR A 130 x0 0) 0 v8) 69 (hgR (hsL A 68 (hgR A 130 x0 0) 0 v8) 130 x0 0) 0 (hgL (hsL A 68 (hgR A 130 x0 0) 0 v8) 140 x0 0)) 70 (hgR (hsL (hsL A 68 (hgR A 130 x0 0) 0 v8) 69 (hgR (hsL A 68 (hgR A 130 x0 0) 0 v8) 130 x0 0) 0 (hgL (hsL A 68 (hgR A 130 x0 0) 0 v8) 140 x0 0)) 130 x0 0) 0 (hgL (hsL (hsL A 68 (hgR A 130 x0 0) 0 v8) 69 (hgR (hsL A 68 (hgR A 130 x0 0) 0 v8) 130 x0 0) 0 (hgL (hsL A 68 (hgR A 130 x0 0) 0 v8) 140 x0 0)) 140 x0 0)) 130 x0 0) 0 (hgI (hsL (hsL (hsL A 68 (hgR A 130 x0 0) 0 v8) 69 (hgR (hsL A 68 (hgR A 130 x0 0) 0 v8) 130 x0 0) 0 (hgL (hsL A 68 (hgR A 130 x0 0) 0 v8) 140 x0 0)) 70 (hgR (hsL (hsL A 68 (hgR A 130 x0 0) 0 v8) 69 (hgR (hsL A 68 (hgR A 130 x0 0) 0 v8) 130 x0 0) 0 (hgL (hsL A 68 (hgR A 130 x0 0) 0 v8) 140 x0 0)) 130 x0 0) 0 (hgL (hsL (hsL A 68 (hgR A 130 x0 0) 0 v8) 69 (hgR (hsL A 68 (hgR A 130 x0 0) 0 v8) 130 x0 0) 0 (hgL (hsL A 68 (hgR A 130 x0 0) 0 v8) 140 x0 0)) 140 x0 0)) 1034 (hgR (hsL (hsL (hsL A 68 (hgR A 130 x0 0) 0 v8) 69 (hgR (hsL A 68 (hgR A 130 x0 0) 0 v8) 130 x0 0) 0 (hgL (hsL A 68 (hgR A 130 x0 0) 0 v8) 140 x0 0)) 70 (hgR (hsL (hsL A 68 (hgR A 130 x0 0) 0 v8) 69 (hgR (hsL A 68 (hgR A 130 x0 0) 0 v8) 130 x0 0) 0 (hgL (hsL A 68 (hgR A 130 x0 0) 0 v8) 140 x0 0)) 130 x0 0) 0 (hgL (hsL (hsL A 68 (hgR A 130 x0 0) 0 v8) 69 (hgR (hsL A 68 (hgR A 130 x0 0) 0 v8) 130 x0 0) 0 (hgL (hsL A 68 (hgR A 130 x0 0) 0 v8) 140 x0 0)) 140 x0 0)) 137 x0 0) (0 : Int32).toNatClampNeg)) 130 x0 0) 0 (hgI (hsI (hsL (hsL (hsL A 68 (hgR A 130 x0 0) 0 v8) 69 (hgR (hsL A 68 (hgR A 130 x0 0) 0 v8) 130 x0 0) 0 (hgL (hsL A 68 (hgR A 130 x0 0) 0 v8) 140 x0 0)) 70 (hgR (hsL (hsL A 68 (hgR A 130 x0 0) 0 v8) 69 (hgR (hsL A 68 (hgR A 130 x0 0) 0 v8) 130 x0 0) 0 (hgL (hsL A 68 (hgR A 130 x0 0) 0 v8) 140 x0 0)) 130 x0 0) 0 (hgL (hsL (hsL A 68 (hgR A 130 x0 0) 0 v8) 69 (hgR (hsL A 68 (hgR A 130 x0 0) 0 v8) 130 x0 0) 0 (hgL (hsL A 68 (hgR A 130 x0 0) 0 v8) 140 x0 0)) 140 x0 0)) 71 (hgR (hsL (hsL (hsL A 68 (hgR A 130 x0 0) 0 v8) 69 (hgR (hsL A 68 (hgR A 130 x0 0) 0 v8) 130 x0 0) 0 (hgL (hsL A 68 (hgR A 130 x0 0) 0 v8) 140 x0 0)) 70 (hgR (hsL (hsL A 68 (hgR A 130 x0 0) 0 v8) 69 (hgR (hsL A 68 (hgR A 130 x0 0) 0 v8) 130 x0 0) 0 (hgL (hsL A 68 (hgR A 130 x0 0) 0 v8) 140 x0 0)) 130 x0 0) 0 (hgL (hsL (hsL A 68 (hgR A 130 x0 0) 0 v8) 69 (hgR (hsL A 68 (hgR A 130 x0 0) 0 v8) 130 x0 0) 0 (hgL (hsL A 68 (hgR A 130 x0 0) 0 v8) 140 x0 0)) 140 x0 0)) 130 x0 0) 0 (hgI (hsL (hsL (hsL A 68 (hgR A 130 x0 0) 0 v8) 69 (hgR (hsL A 68 (hgR A 130 x0 0) 0 v8) 130 x0 0) 0 (hgL (hsL A 68 (hgR A 130 x0 0) 0 v8) 140 x0 0)) 70 (hgR (hsL (hsL A 68 (hgR A 130 x0 0) 0 v8) 69 (hgR (hsL A 68 (hgR A 130 x0 0) 0 v8) 130 x0 0) 0 (hgL (hsL A 68 (hgR A 130 x0 0) 0 v8) 140 x0 0)) 130 x0 0) 0 (hgL (hsL (hsL A 68 (hgR A 130 x0 0) 0 v8) 69 (hgR (hsL A 68 (hgR A 130 x0 0) 0 v8) 130 x0 0) 0 (hgL (hsL A 68 (hgR A 130 x0 0) 0 v8) 140 x0 0)) 140 x0 0)) 1034 (hgR (hsL (hsL (hsL A 68 (hgR A 130 x0 0) 0 v8) 69 (hgR (hsL A 68 (hgR A 130 x0 0) 0 v8) 130 x0 0) 0 (hgL (hsL A 68 (hgR A 130 x0 0) 0 v8) 140 x0 0)) 70 (hgR (hsL (hsL A 68 (hgR A 130 x0 0) 0 v8) 69 (hgR (hsL A 68 (hgR A 130 x0 0) 0 v8) 130 x0 0) 0 (hgL (hsL A 68 (hgR A 130 x0 0) 0 v8) 140 x0 0)) 130 x0 0) 0 (hgL (hsL (hsL A 68 (hgR A 130 x0 0) 0 v8) 69 (hgR (hsL A 68 (hgR A 130 x0 0) 0 v8) 130 x0 0) 0 (hgL (hsL A 68 (hgR A 130 x0 0) 0 v8) 140 x0 0)) 140 x0 0)) 137 x0 0) (0 : Int32).toNatClampNeg)) 202 x1 0)) 130 x0 0) 0 (hgI (hsI (hsI (hsL (hsL (hsL A 68 (hgR A 130 x0 0) 0 v8) 69 (hgR (hsL A 68 (hgR A 130 x0 0) 0 v8) 130 x0 0) 0 (hgL (hsL A 68 (hgR A 130 x0 0) 0 v8) 140 x0 0)) 70 (hgR (hsL (hsL A 68 (hgR A 130 x0 0) 0 v8) 69 (hgR (hsL A 68 (hgR A 130 x0 0) 0 v8) 130 x0 0) 0 (hgL (hsL A 68 (hgR A 130 x0 0) 0 v8) 140 x0 0)) 130 x0 0) 0 (hgL (hsL (hsL A 68 (hgR A 130 x0 0) 0 v8) 69 (hgR (hsL A 68 (hgR A 130 x0 0) 0 v8) 130 x0 0) 0 (hgL (hsL A 68 (hgR A 130 x0 0) 0 v8) 140 x0 0)) 140 x0 0)) 71 (hgR (hsL (hsL (hsL A 68 (hgR A 130 x0 0) 0 v8) 69 (hgR (hsL A 68 (hgR A 130 x0 0) 0 v8) 130 x0 0) 0 (hgL (hsL A 68 (hgR A 130 x0 0) 0 v8) 140 x0 0)) 70 (hgR (hsL (hsL A 68 (hgR A 130 x0 0) 0 v8) 69 (hgR (hsL A 68 (hgR A 130 x0 0) 0 v8) 130 x0 0) 0 (hgL (hsL A 68 (hgR A 130 x0 0) 0 v8) 140 x0 0)) 130 x0 0) 0 (hgL (hsL (hsL A 68 (hgR A 130 x0 0) 0 v8) 69 (hgR (hsL A 68 (hgR A 130 x0 0) 0 v8) 130 x0 0) 0 (hgL (hsL A 68 (hgR A 130 x0 0) 0 v8) 140 x0 0)) 140 x0 0)) 130 x0 0) 0 (hgI (hsL (hsL (hsL A 68 (hgR A 130 x0 0) 0 v8) 69 (hgR (hsL A 68 (hgR A 130 x0 0) 0 v8) 130 x0 0) 0 (hgL (hsL A 68 (hgR A 130 x0 0) 0 v8) 140 x0 0)) 70 (hgR (hsL (hsL A 68 (hgR A 130 x0 0) 0 v8) 69 (hgR (hsL A 68 (hgR A 130 x0 0) 0 v8) 130 x0 0) 0 (hgL (hsL A 68 (hgR A 130 x0 0) 0 v8) 140 x0 0)) 130 x0 0) 0 (hgL (hsL (hsL A 68 (hgR A 130 x0 0) 0 v8) 69 (hgR (hsL A 68 (hgR A 130 x0 0) 0 v8) 130 x0 0) 0 (hgL (hsL A 68 (hgR A 130 x0 0) 0 v8) 140 x0 0)) 140 x0 0)) 1034 (hgR (hsL (hsL (hsL A 68 (hgR A 130 x0 0) 0 v8) 69 (hgR (hsL A 68 (hgR A 130 x0 0) 0 v8) 130 x0 0) 0 (hgL (hsL A 68 (hgR A 130 x0 0) 0 v8) 140 x0 0)) 70 (hgR (hsL (hsL A 68 (hgR A 130 x0 0) 0 v8) 69 (hgR (hsL A 68 (hgR A 130 x0 0) 0 v8) 130 x0 0) 0 (hgL (hsL A 68 (hgR A 130 x0 0) 0 v8) 140 x0 0)) 130 x0 0) 0 (hgL (hsL (hsL A 68 (hgR A 130 x0 0) 0 v8) 69 (hgR (hsL A 68 (hgR A 130 x0 0) 0 v8) 130 x0 0) 0 (hgL (hsL A 68 (hgR A 130 x0 0) 0 v8) 140 x0 0)) 140 x0 0)) 137 x0 0) (0 : Int32).toNatClampNeg)) 73 (hgR (hsI (hsL (hsL (hsL A 68 (hgR A 130 x0 0) 0 v8) 69 (hgR (hsL A 68 (hgR A 130 x0 0) 0 v8) 130 x0 0) 0 (hgL (hsL A 68 (hgR A 130 x0 0) 0 v8) 140 x0 0)) 70 (hgR (hsL (hsL A 68 (hgR A 130 x0 0) 0 v8) 69 (hgR (hsL A 68 (hgR A 130 x0 0) 0 v8) 130 x0 0) 0 (hgL (hsL A 68 (hgR A 130 x0 0) 0 v8) 140 x0 0)) 130 x0 0) 0 (hgL (hsL (hsL A 68 (hgR A 130 x0 0) 0 v8) 69 (hgR (hsL A 68 (hgR A 130 x0 0) 0 v8) 130 x0 0) 0 (hgL (hsL A 68 (hgR A 130 x0 0) 0 v8) 140 x0 0)) 140 x0 0)) 71 (hgR (hsL (hsL (hsL A 68 (hgR A 130 x0 0) 0 v8) 69 (hgR (hsL A 68 (hgR A 130 x0 0) 0 v8) 130 x0 0) 0 (hgL (hsL A 68 (hgR A 130 x0 0) 0 v8) 140 x0 0)) 70 (hgR (hsL (hsL A 68 (hgR A 130 x0 0) 0 v8) 69 (hgR (hsL A 68 (hgR A 130 x0 0) 0 v8) 130 x0 0) 0 (hgL (hsL A 68 (hgR A 130 x0 0) 0 v8) 140 x0 0)) 130 x0 0) 0 (hgL (hsL (hsL A 68 (hgR A 130 x0 0) 0 v8) 69 (hgR (hsL A 68 (hgR A 130 x0 0) 0 v8) 130 x0 0) 0 (hgL (hsL A 68 (hgR A 130 x0 0) 0 v8) 140 x0 0)) 140 x0 0)) 130 x0 0) 0 (hgI (hsL (hsL (hsL A 68 (hgR A 130 x0 0) 0 v8) 69 (hgR (hsL A 68 (hgR A 130 x0 0) 0 v8) 130 x0 0) 0 (hgL (hsL A 68 (hgR A 130 x0 0) 0 v8) 140 x0 0)) 70 (hgR (hsL (hsL A 68 (hgR A 130 x0 0) 0 v8) 69 (hgR (hsL A 68 (hgR A 130 x0 0) 0 v8) 130 x0 0) 0 (hgL (hsL A 68 (hgR A 130 x0 0) 0 v8) 140 x0 0)) 130 x0 0) 0 (hgL (hsL (hsL A 68 (hgR A 130 x0 0) 0 v8) 69 (hgR (hsL A 68 (hgR A 130 x0 0) 0 v8) 130 x0 0) 0 (hgL (hsL A 68 (hgR A 130 x0 0) 0 v8) 140 x0 0)) 140 x0 0)) 1034 (hgR (hsL (hsL (hsL A 68 (hgR A 130 x0 0) 0 v8) 69 (hgR (hsL A 68 (hgR A 130 x0 0) 0 v8) 130 x0 0) 0 (hgL (hsL A 68 (hgR A 130 x0 0) 0 v8) 140 x0 0)) 70 (hgR (hsL (hsL A 68 (hgR A 130 x0 0) 0 v8) 69 (hgR (hsL A 68 (hgR A 130 x0 0) 0 v8) 130 x0 0) 0 (hgL (hsL A 68 (hgR A 130 x0 0) 0 v8) 140 x0 0)) 130 x0 0) 0 (hgL (hsL (hsL A 68 (hgR A 130 x0 0) 0 v8) 69 (hgR (hsL A 68 (hgR A 130 x0 0) 0 v8) 130 x0 0) 0 (hgL (hsL A 68 (hgR A 130 x0 0) 0 v8) 140 x0 0)) 140 x0 0)) 137 x0 0) (0 : Int32).toNatClampNeg)) 130 x0 0) 0 (hgI (hsI (hsL (hsL (hsL A 68 (hgR A 130 x0 0) 0 v8) 69 (hgR (hsL A 68 (hgR A 130 x0 0) 0 v8) 130 x0 0) 0 (hgL (hsL A 68 (hgR A 130 x0 0) 0 v8) 140 x0 0)) 70 (hgR (hsL (hsL A 68 (hgR A 130 x0 0) 0 v8) 69 (hgR (hsL A 68 (hgR A 130 x0 0) 0 v8) 130 x0 0) 0 (hgL (hsL A 68 (hgR A 130 x0 0) 0 v8) 140 x0 0)) 130 x0 0) 0 (hgL (hsL (hsL A 68 (hgR A 130 x0 0) 0 v8) 69 (hgR (hsL A 68 (hgR A 130 x0 0) 0 v8) 130 x0 0) 0 (hgL (hsL A 68 (hgR A 130 x0 0) 0 v8) 140 x0 0)) 140 x0 0)) 71 (hgR (hsL (hsL (hsL A 68 (hgR A 130 x0 0) 0 v8) 69 (hgR (hsL A 68 (hgR A 130 x0 0) 0 v8) 130 x0 0) 0 (hgL (hsL A 68 (hgR A 130 x0 0) 0 v8) 140 x0 0)) 70 (hgR (hsL (hsL A 68 (hgR A 130 x0 0) 0 v8) 69 (hgR (hsL A 68 (hgR A 130 x0 0) 0 v8) 130 x0 0) 0 (hgL (hsL A 68 (hgR A 130 x0 0) 0 v8) 140 x0 0)) 130 x0 0) 0 (hgL (hsL (hsL A 68 (hgR A 130 x0 0) 0 v8) 69 (hgR (hsL A 68 (hgR A 130 x0 0) 0 v8) 130 x0 0) 0 (hgL (hsL A 68 (hgR A 130 x0 0) 0 v8) 140 x0 0)) 140 x0 0)) 130 x0 0) 0 (hgI (hsL (hsL (hsL A 68 (hgR A 130 x0 0) 0 v8) 69 (hgR (hsL A 68 (hgR A 130 x0 0) 0 v8) 130 x0 0) 0 (hgL (hsL A 68 (hgR A 130 x0 0) 0 v8) 140 x0 0)) 70 (hgR (hsL (hsL A 68 (hgR A 130 x0 0) 0 v8) 69 (hgR (hsL A 68 (hgR A 130 x0 0) 0 v8) 130 x0 0) 0 (hgL (hsL A 68 (hgR A 130 x0 0) 0 v8) 140 x0 0)) 130 x0 0) 0 (hgL (hsL (hsL A 68 (hgR A 130 x0 0) 0 v8) 69 (hgR (hsL A 68 (hgR A 130 x0 0) 0 v8) 130 x0 0) 0 (hgL (hsL A 68 (hgR A 130 x0 0) 0 v8) 140 x0 0)) 140 x0 0)) 1034 (hgR (hsL (hsL (hsL A 68 (hgR A 130 x0 0) 0 v8) 69 (hgR (hsL A 68 (hgR A 130 x0 0) 0 v8) 130 x0 0) 0 (hgL (hsL A 68 (hgR A 130 x0 0) 0 v8) 140 x0 0)) 70 (hgR (hsL (hsL A 68 (hgR A 130 x0 0) 0 v8) 69 (hgR (hsL A 68 (hgR A 130 x0 0) 0 v8) 130 x0 0) 0 (hgL (hsL A 68 (hgR A 130 x0 0) 0 v8) 140 x0 0)) 130 x0 0) 0 (hgL (hsL (hsL A 68 (hgR A 130 x0 0) 0 v8) 69 (hgR (hsL A 68 (hgR A 130 x0 0) 0 v8) 130 x0 0) 0 (hgL (hsL A 68 (hgR A 130 x0 0) 0 v8) 140 x0 0)) 140 x0 0)) 137 x0 0) (0 : Int32).toNatClampNeg)) 202 x1 0)) 203 x1 0)) x0 x1 else none else none else none else none else none else none else none else none else none else none) else none else none
set_option maxRecDepth 100000 in
theorem s_X4_shape_136 {κ : KT} {B : Hp} {A : Hp} {x0 : Nat} {x1 : Nat}   (K : Cx κ cX4_shape 2 RX4 4 88 0 0) (E : Ed κ none "shape" (.inl none) B 0 0)  (h : k_X4_shape_136  A x0 x1  = some B) : Vw κ A 0 0 136 [(0, .inr (.inr x0)), (1, .inr (.inr x1))] [] := by
  unfold k_X4_shape_136 at h
  refine Vw.aload_n (pc := 136) (x := x0) K dX4_shape_136 rfl ?_
  obtain ⟨g5, h⟩ := wgd h
  refine Vw.getR (pc := 137) (k := 2) (f := 130) K cls2 rfl rfl u_2_9 g5 dX4_shape_137 ?_
  refine Vw.aload_n (pc := 140) (x := x1) K dX4_shape_140 rfl ?_
  refine Vw.aload_n (pc := 141) (x := x0) K dX4_shape_141 rfl ?_
  refine Vw.getL (pc := 142) (k := 12) (f := 140) K cls2 rfl rfl u_2_27 g5 dX4_shape_142 ?_
  obtain ⟨g6, h⟩ := wgd h
  obtain ⟨v8, e7, h⟩ := wbd h
  refine Vw.cV1 (pc := 145) (v := .inr (.inl v8)) (c' := 0) (n' := 0) K (s_X5_expiryAt K.tr e7) cal_X5_expiryAt cls3 u_4_132 g6 rfl ⟨by decide, by decide⟩ ⟨by decide, by decide⟩ rfl (Nat.le_of_ble_eq_true rfl) dX4_shape_145 rfl rfl ?_
  obtain ⟨g9, h⟩ := wgd h
  refine Vw.putL (pc := 148) (k := 4) (f := 68) K cls1 rfl rfl u_1_145 g9 (Or.inl rfl) rfl rfl dX4_shape_148 ?_
  refine Vw.aload_n (pc := 151) (x := x0) K dX4_shape_151 rfl ?_
  refine Vw.getR (pc := 152) (k := 2) (f := 130) K cls2 rfl rfl u_2_9 g5 dX4_shape_152 ?_
  refine Vw.aload_n (pc := 155) (x := x0) K dX4_shape_155 rfl ?_
  refine Vw.getL (pc := 156) (k := 12) (f := 140) K cls2 rfl rfl u_2_27 g5 dX4_shape_156 ?_
  obtain ⟨g10, h⟩ := wgd h
  refine Vw.putL (pc := 159) (k := 5) (f := 69) K cls1 rfl rfl u_1_148 g10 (Or.inl rfl) rfl rfl dX4_shape_159 ?_
  refine Vw.aload_n (pc := 162) (x := x0) K dX4_shape_162 rfl ?_
  refine Vw.getR (pc := 163) (k := 2) (f := 130) K cls2 rfl rfl u_2_9 g5 dX4_shape_163 ?_
  refine Vw.aload_n (pc := 166) (x := x0) K dX4_shape_166 rfl ?_
  refine Vw.getL (pc := 167) (k := 12) (f := 140) K cls2 rfl rfl u_2_27 g5 dX4_shape_167 ?_
  obtain ⟨g11, h⟩ := wgd h
  refine Vw.putL (pc := 170) (k := 6) (f := 70) K cls1 rfl rfl u_1_151 g11 (Or.inl rfl) rfl rfl dX4_shape_170 ?_
  refine Vw.aload_n (pc := 173) (x := x0) K dX4_shape_173 rfl ?_
  refine Vw.getR (pc := 174) (k := 2) (f := 130) K cls2 rfl rfl u_2_9 g5 dX4_shape_174 ?_
  refine Vw.aload_n (pc := 177) (x := x0) K dX4_shape_177 rfl ?_
  refine Vw.getR (pc := 178) (k := 9) (f := 137) K cls2 rfl rfl u_2_21 g5 dX4_shape_178 ?_
  refine Vw.iconst (pc := 181) (v := (0 : Int32)) K (by decide) dX4_shape_181 ?_
  obtain ⟨g12, h⟩ := wgd h
  obtain ⟨g13, h⟩ := wgd h
  refine Vw.iaload (pc := 182) K g12 g13 dX4_shape_182 ?_
  obtain ⟨g14, h⟩ := wgd h
  refine Vw.putI (pc := 183) (k := 7) (f := 71) K cls1 rfl rfl u_1_154 g14 (Or.inl rfl) rfl rfl dX4_shape_183 ?_
  refine Vw.aload_n (pc := 186) (x := x0) K dX4_shape_186 rfl ?_
  refine Vw.getR (pc := 187) (k := 2) (f := 130) K cls2 rfl rfl u_2_9 g5 dX4_shape_187 ?_
  refine Vw.aload_n (pc := 190) (x := x1) K dX4_shape_190 rfl ?_
  refine Vw.getI (pc := 191) (k := 10) (f := 202) K cls3 rfl rfl u_1_81 g6 dX4_shape_191 ?_
  obtain ⟨g15, h⟩ := wgd h
  obtain ⟨g16, h⟩ := wgd h
  refine Vw.putI (pc := 194) (k := 9) (f := 73) K cls1 rfl rfl u_1_160 g15 (Or.inl rfl) (wZ_n g16) (wZ_f g16) dX4_shape_194 ?_
  refine Vw.aload_n (pc := 197) (x := x0) K dX4_shape_197 rfl ?_
  refine Vw.getR (pc := 198) (k := 2) (f := 130) K cls2 rfl rfl u_2_9 g5 dX4_shape_198 ?_
  refine Vw.aload_n (pc := 201) (x := x1) K dX4_shape_201 rfl ?_
  refine Vw.getI (pc := 202) (k := 11) (f := 203) K cls3 rfl rfl u_1_83 g6 dX4_shape_202 ?_
  obtain ⟨g17, h⟩ := wgd h
  obtain ⟨g18, h⟩ := wgd h
  refine Vw.putI (pc := 205) (k := 10) (f := 74) K cls1 rfl rfl u_1_163 g17 (Or.inl rfl) (wZ_n g18) (wZ_f g18) dX4_shape_205 ?_
  exact Vw.loc rfl (s_X4_shape_208 K E  h)
def k_X4_shape_95  (A : Hp) (x0 : Nat) (x1 : Nat) (t0 : Nat) (t1 : Nat) : Option (Hp) := if (hsh A t0).1 = 5 then ((f_X6_copy A t0 t1).bind fun A21 => if (hsh A21 x1).1 = 4 then if (hsh A21 (hgR A21 195 x1 0)).1 = 5 then (if (hgI A21 257 (hgR A21 195 x1 0) 0) ≤ (0 : Int32) then if (hsh A21 x0).1 = 3 then if (hsh A21 (hgR A21 130 x0 0)).1 = 2 then ((f_X4_takeDefaultPath A21 x0 (hgR A21 67 (hgR A21 130 x0 0) 0)).bind fun A28 => k_X4_shape_136 A28 x0 x1) else none else none else if (hsh A21 x0).1 = 3 then if (hsh A21 (hgR A21 130 x0 0)).1 = 2 then if (hsh A21 (hgR A21 67 (hgR A21 130 x0 0) 0)).1 = 5 then ((f_X6_copy A21 (hgR A21 67 (hgR A21 130 x0 0) 0) (hgR A21 195 x1 0)).bind fun A33 => k_X4_shape_136 A33 x0 x1) else none else none else none) else none else none) else none
set_option maxRecDepth 100000 in
theorem s_X4_shape_95 {κ : KT} {B : Hp} {A : Hp} {x0 : Nat} {x1 : Nat} {t0 : Nat} {t1 : Nat}  (K : Cx κ cX4_shape 2 RX4 4 88 0 0) (E : Ed κ none "shape" (.inl none) B 0 0)  (h : k_X4_shape_95  A x0 x1 t0 t1 = some B) : Vw κ A 0 0 95 [(0, .inr (.inr x0)), (1, .inr (.inr x1))] [.inr (.inr t1), .inr (.inr t0)] := by
  unfold k_X4_shape_95 at h
  obtain ⟨g19, h⟩ := wgd h
  obtain ⟨A21, e20, h⟩ := wbd h
  refine Vw.cV0 (pc := 95) (c' := 0) (n' := 0) K (s_X6_copy K.tr e20) cal_X6_copy cls4 u_4_124 g19 rfl ⟨by decide, by decide⟩ ⟨by decide, by decide⟩ rfl (Nat.le_of_ble_eq_true rfl) dX4_shape_95 rfl rfl ?_
  refine Vw.aload_n (pc := 98) (x := x1) K dX4_shape_98 rfl ?_
  obtain ⟨g22, h⟩ := wgd h
  refine Vw.getR (pc := 99) (k := 3) (f := 195) K cls3 rfl rfl u_1_72 g22 dX4_shape_99 ?_
  obtain ⟨g23, h⟩ := wgd h
  refine Vw.getI (pc := 102) (k := 1) (f := 257) K cls4 rfl rfl u_1_50 g23 dX4_shape_102 ?_
  refine Vw.if_le (pc := 105) (tgt := 125) K dX4_shape_105 (by decide) (fun c24 => ?_) (fun c24 => ?_)
  · have h := wpos c24 h
    refine Vw.aload_n (pc := 125) (x := x0) K dX4_shape_125 rfl ?_
    refine Vw.aload_n (pc := 126) (x := x0) K dX4_shape_126 rfl ?_
    obtain ⟨g25, h⟩ := wgd h
    refine Vw.getR (pc := 127) (k := 2) (f := 130) K cls2 rfl rfl u_2_9 g25 dX4_shape_127 ?_
    obtain ⟨g26, h⟩ := wgd h
    refine Vw.getR (pc := 130) (k := 3) (f := 67) K cls1 rfl rfl u_1_142 g26 dX4_shape_130 ?_
    obtain ⟨A28, e27, h⟩ := wbd h
    refine Vw.cV0 (pc := 133) (c' := 0) (n' := 0) K (s_X4_takeDefaultPath K.tr e27) cal_X4_takeDefaultPath cls2 u_4_125 g25 rfl ⟨by decide, by decide⟩ ⟨by decide, by decide⟩ rfl (Nat.le_of_ble_eq_true rfl) dX4_shape_133 rfl rfl ?_
    exact Vw.loc rfl (s_X4_shape_136 K E  h)
  · have h := wneg c24 h
    refine Vw.aload_n (pc := 108) (x := x0) K dX4_shape_108 rfl ?_
    obtain ⟨g29, h⟩ := wgd h
    refine Vw.getR (pc := 109) (k := 2) (f := 130) K cls2 rfl rfl u_2_9 g29 dX4_shape_109 ?_
    obtain ⟨g30, h⟩ := wgd h
    refine Vw.getR (pc := 112) (k := 3) (f := 67) K cls1 rfl rfl u_1_142 g30 dX4_shape_112 ?_
    refine Vw.aload_n (pc := 115) (x := x1) K dX4_shape_115 rfl ?_
    refine Vw.getR (pc := 116) (k := 3) (f := 195) K cls3 rfl rfl u_1_72 g22 dX4_shape_116 ?_
    obtain ⟨g31, h⟩ := wgd h
    obtain ⟨A33, e32, h⟩ := wbd h
    refine Vw.cV0 (pc := 119) (c' := 0) (n' := 0) K (s_X6_copy K.tr e32) cal_X6_copy cls4 u_4_124 g31 rfl ⟨by decide, by decide⟩ ⟨by decide, by decide⟩ rfl (Nat.le_of_ble_eq_true rfl) dX4_shape_119 rfl rfl ?_
    refine Vw.goto (pc := 122) (tgt := 136) K dX4_shape_122 (by decide) ?_
    exact Vw.loc rfl (s_X4_shape_136 K E  h)
def k_X4_shape_61  (A : Hp) (x0 : Nat) (x1 : Nat) (t0 : Nat) (t1 : Int32) : Option (Hp) := if (hsh A t0).1 = 2 then if wZ t1 then if (hsh (hsI A 72 t0 0 t1) x0).1 = 3 then if (hsh (hsI A 72 t0 0 t1) (hgR (hsI A 72 t0 0 t1) 130 x0 0)).1 = 2 then (if (hgI (hsI A 72 t0 0 t1) 72 (hgR (hsI A 72 t0 0 t1) 130 x0 0) 0) = (0 : Int32) then if (hsh (hsI A 72 t0 0 t1) x1).1 = 4 then k_X4_shape_95 (hsI A 72 t0 0 t1) x0 x1 (hgR (hsI A 72 t0 0 t1) 66 (hgR (hsI A 72 t0 0 t1) 130 x0 0) 0) (hgR (hsI A 72 t0 0 t1) 194 x1 0) else none else if (hsh (hsI A 72 t0 0 t1) (hgR (hsI A 72 t0 0 t1) 134 x0 0)).1 = 1 then k_X4_shape_95 (hsI A 72 t0 0 t1) x0 x1 (hgR (hsI A 72 t0 0 t1) 66 (hgR (hsI A 72 t0 0 t1) 130 x0 0) 0) (hgR (hsI A 72 t0 0 t1) 0 (hgR (hsI A 72 t0 0 t1) 134 x0 0) 0) else none) else none else none else none else none
set_option maxRecDepth 100000 in
theorem s_X4_shape_61 {κ : KT} {B : Hp} {A : Hp} {x0 : Nat} {x1 : Nat} {t0 : Nat} {t1 : Int32}  (K : Cx κ cX4_shape 2 RX4 4 88 0 0) (E : Ed κ none "shape" (.inl none) B 0 0)  (h : k_X4_shape_61  A x0 x1 t0 t1 = some B) : Vw κ A 0 0 61 [(0, .inr (.inr x0)), (1, .inr (.inr x1))] [.inl t1, .inr (.inr t0)] := by
  unfold k_X4_shape_61 at h
  obtain ⟨g34, h⟩ := wgd h
  obtain ⟨g35, h⟩ := wgd h
  refine Vw.putI (pc := 61) (k := 8) (f := 72) K cls1 rfl rfl u_1_157 g34 (Or.inl rfl) (wZ_n g35) (wZ_f g35) dX4_shape_61 ?_
  refine Vw.aload_n (pc := 64) (x := x0) K dX4_shape_64 rfl ?_
  obtain ⟨g36, h⟩ := wgd h
  refine Vw.getR (pc := 65) (k := 2) (f := 130) K cls2 rfl rfl u_2_9 g36 dX4_shape_65 ?_
  obtain ⟨g37, h⟩ := wgd h
  refine Vw.getR (pc := 68) (k := 2) (f := 66) K cls1 rfl rfl u_1_139 g37 dX4_shape_68 ?_
  refine Vw.aload_n (pc := 71) (x := x0) K dX4_shape_71 rfl ?_
  refine Vw.getR (pc := 72) (k := 2) (f := 130) K cls2 rfl rfl u_2_9 g36 dX4_shape_72 ?_
  refine Vw.getI (pc := 75) (k := 8) (f := 72) K cls1 rfl rfl u_1_157 g37 dX4_shape_75 ?_
  refine Vw.if_eq (pc := 78) (tgt := 91) K dX4_shape_78 (by decide) (fun c38 => ?_) (fun c38 => ?_)
  · have h := wpos c38 h
    refine Vw.aload_n (pc := 91) (x := x1) K dX4_shape_91 rfl ?_
    obtain ⟨g39, h⟩ := wgd h
    refine Vw.getR (pc := 92) (k := 2) (f := 194) K cls3 rfl rfl u_1_70 g39 dX4_shape_92 ?_
    exact Vw.loc rfl (s_X4_shape_95 K E  h)
  · have h := wneg c38 h
    refine Vw.aload_n (pc := 81) (x := x0) K dX4_shape_81 rfl ?_
    refine Vw.getR (pc := 82) (k := 6) (f := 134) K cls2 rfl rfl u_2_15 g36 dX4_shape_82 ?_
    obtain ⟨g40, h⟩ := wgd h
    refine Vw.getR (pc := 85) (k := 0) (f := 0) K cls0 rfl rfl u_1_225 g40 dX4_shape_85 ?_
    refine Vw.goto (pc := 88) (tgt := 95) K dX4_shape_88 (by decide) ?_
    exact Vw.loc rfl (s_X4_shape_95 K E  h)
def k_X4_shape_56  (A : Hp) (x0 : Nat) (x1 : Nat) (t0 : Nat) : Option (Hp) := k_X4_shape_61 A x0 x1 t0 (1 : Int32)
set_option maxRecDepth 100000 in
theorem s_X4_shape_56 {κ : KT} {B : Hp} {A : Hp} {x0 : Nat} {x1 : Nat} {t0 : Nat}  (K : Cx κ cX4_shape 2 RX4 4 88 0 0) (E : Ed κ none "shape" (.inl none) B 0 0)  (h : k_X4_shape_56  A x0 x1 t0 = some B) : Vw κ A 0 0 56 [(0, .inr (.inr x0)), (1, .inr (.inr x1))] [.inr (.inr t0)] := by
  unfold k_X4_shape_56 at h
  refine Vw.iconst (pc := 56) (v := (1 : Int32)) K (by decide) dX4_shape_56 ?_
  refine Vw.goto (pc := 57) (tgt := 61) K dX4_shape_57 (by decide) ?_
  exact Vw.loc rfl (s_X4_shape_61 K E  h)
def f_X4_shape (A : Hp) (x0 : Nat) (x1 : Nat) : Option (Hp) := if (hsh A x0).1 = 3 then if (hsh A (hgR A 130 x0 0)).1 = 2 then if (hsh A x1).1 = 4 then if (hsh A (hgR A 64 (hgR A 130 x0 0) 0)).1 = 5 then ((f_X6_copy A (hgR A 64 (hgR A 130 x0 0) 0) (hgR A 192 x1 0)).bind fun A46 => if (hsh A46 x0).1 = 3 then if (hsh A46 (hgR A46 130 x0 0)).1 = 2 then if (hsh A46 x1).1 = 4 then if (hsh A46 (hgR A46 65 (hgR A46 130 x0 0) 0)).1 = 5 then ((f_X6_copy A46 (hgR A46 65 (hgR A46 130 x0 0) 0) (hgR A46 193 x1 0)).bind fun A52 => if (hsh A52 x0).1 = 3 then if (hsh A52 x1).1 = 4 then if (hsh A52 (hgR A52 194 x1 0)).1 = 5 then (if (hgI A52 257 (hgR A52 194 x1 0) 0) = (0 : Int32) then k_X4_shape_56 A52 x0 x1 (hgR A52 130 x0 0) else if (hsh A52 (hgR A52 132 x0 0)).1 = 6 then ((f_X7_isPublic A52 (hgR A52 132 x0 0) (hgR A52 194 x1 0)).bind fun v59 => (if v59 = (0 : Int32) then k_X4_shape_61 A52 x0 x1 (hgR A52 130 x0 0) (0 : Int32) else k_X4_shape_56 A52 x0 x1 (hgR A52 130 x0 0))) else none) else none else none else none) else none else none else none else none) else none else none else none else none
set_option maxRecDepth 100000 in
theorem s_X4_shape {l : Launch} {g : GT} (hl : l.stackTraces = false) {A : Hp} {x0 : Nat} {x1 : Nat} {B : Hp} (h : f_X4_shape A x0 x1 = some B) : MetV l g yX4_shape (.code yX4_shape cX4_shape 2 none) [.inr (.inr x0), .inr (.inr x1)] A (.inl none) B 4 88 0 0 := by
  refine MetV.ofV hl (by decide +kernel) (Nat.le_of_ble_eq_true rfl) (fun κ K E => ?_)
  have K : Cx κ cX4_shape 2 RX4 4 88 0 0 := K
  have E : Ed κ none "shape" (.inl none) B 0 0 := E
  unfold f_X4_shape at h
  change Vw κ A 0 0 0 [(0, .inr (.inr x0)), (1, .inr (.inr x1))] []
  refine Vw.aload_n (pc := 0) (x := x0) K dX4_shape_0 rfl ?_
  obtain ⟨g41, h⟩ := wgd h
  refine Vw.getR (pc := 1) (k := 2) (f := 130) K cls2 rfl rfl u_2_9 g41 dX4_shape_1 ?_
  obtain ⟨g42, h⟩ := wgd h
  refine Vw.getR (pc := 4) (k := 0) (f := 64) K cls1 rfl rfl u_1_133 g42 dX4_shape_4 ?_
  refine Vw.aload_n (pc := 7) (x := x1) K dX4_shape_7 rfl ?_
  obtain ⟨g43, h⟩ := wgd h
  refine Vw.getR (pc := 8) (k := 0) (f := 192) K cls3 rfl rfl u_1_66 g43 dX4_shape_8 ?_
  obtain ⟨g44, h⟩ := wgd h
  obtain ⟨A46, e45, h⟩ := wbd h
  refine Vw.cV0 (pc := 11) (c' := 0) (n' := 0) K (s_X6_copy K.tr e45) cal_X6_copy cls4 u_4_124 g44 rfl ⟨by decide, by decide⟩ ⟨by decide, by decide⟩ rfl (Nat.le_of_ble_eq_true rfl) dX4_shape_11 rfl rfl ?_
  refine Vw.aload_n (pc := 14) (x := x0) K dX4_shape_14 rfl ?_
  obtain ⟨g47, h⟩ := wgd h
  refine Vw.getR (pc := 15) (k := 2) (f := 130) K cls2 rfl rfl u_2_9 g47 dX4_shape_15 ?_
  obtain ⟨g48, h⟩ := wgd h
  refine Vw.getR (pc := 18) (k := 1) (f := 65) K cls1 rfl rfl u_1_136 g48 dX4_shape_18 ?_
  refine Vw.aload_n (pc := 21) (x := x1) K dX4_shape_21 rfl ?_
  obtain ⟨g49, h⟩ := wgd h
  refine Vw.getR (pc := 22) (k := 1) (f := 193) K cls3 rfl rfl u_1_68 g49 dX4_shape_22 ?_
  obtain ⟨g50, h⟩ := wgd h
  obtain ⟨A52, e51, h⟩ := wbd h
  refine Vw.cV0 (pc := 25) (c' := 0) (n' := 0) K (s_X6_copy K.tr e51) cal_X6_copy cls4 u_4_124 g50 rfl ⟨by decide, by decide⟩ ⟨by decide, by decide⟩ rfl (Nat.le_of_ble_eq_true rfl) dX4_shape_25 rfl rfl ?_
  refine Vw.aload_n (pc := 28) (x := x0) K dX4_shape_28 rfl ?_
  obtain ⟨g53, h⟩ := wgd h
  refine Vw.getR (pc := 29) (k := 2) (f := 130) K cls2 rfl rfl u_2_9 g53 dX4_shape_29 ?_
  refine Vw.aload_n (pc := 32) (x := x1) K dX4_shape_32 rfl ?_
  obtain ⟨g54, h⟩ := wgd h
  refine Vw.getR (pc := 33) (k := 2) (f := 194) K cls3 rfl rfl u_1_70 g54 dX4_shape_33 ?_
  obtain ⟨g55, h⟩ := wgd h
  refine Vw.getI (pc := 36) (k := 1) (f := 257) K cls4 rfl rfl u_1_50 g55 dX4_shape_36 ?_
  refine Vw.if_eq (pc := 39) (tgt := 56) K dX4_shape_39 (by decide) (fun c56 => ?_) (fun c56 => ?_)
  · have h := wpos c56 h
    exact Vw.loc rfl (s_X4_shape_56 K E  h)
  · have h := wneg c56 h
    refine Vw.aload_n (pc := 42) (x := x0) K dX4_shape_42 rfl ?_
    refine Vw.getR (pc := 43) (k := 4) (f := 132) K cls2 rfl rfl u_2_11 g53 dX4_shape_43 ?_
    refine Vw.aload_n (pc := 46) (x := x1) K dX4_shape_46 rfl ?_
    refine Vw.getR (pc := 47) (k := 2) (f := 194) K cls3 rfl rfl u_1_70 g54 dX4_shape_47 ?_
    obtain ⟨g57, h⟩ := wgd h
    obtain ⟨v59, e58, h⟩ := wbd h
    refine Vw.cV1 (pc := 50) (v := .inl v59) (c' := 0) (n' := 0) K (s_X7_isPublic K.tr e58) cal_X7_isPublic cls5 u_4_110 g57 rfl ⟨by decide, by decide⟩ ⟨by decide, by decide⟩ rfl (Nat.le_of_ble_eq_true rfl) dX4_shape_50 rfl rfl ?_
    refine Vw.if_eq (pc := 53) (tgt := 60) K dX4_shape_53 (by decide) (fun c60 => ?_) (fun c60 => ?_)
    · have h := wpos c60 h
      refine Vw.iconst (pc := 60) (v := (0 : Int32)) K (by decide) dX4_shape_60 ?_
      exact Vw.loc rfl (s_X4_shape_61 K E  h)
    · have h := wneg c60 h
      exact Vw.loc rfl (s_X4_shape_56 K E  h)
theorem cal_X4_shape : wCalV RX4 yX4_shape (.code yX4_shape cX4_shape 2 none) 1 := ⟨by decide +kernel, u_4_122, us_2_1, u_1_5, u_4_123⟩
def k_X4_place_2s (A : Hp) (x0 : Nat)  (rec2 : Int32 → Option (Int32))  (x1 : Int32) : Option (Int32) := if (hsh A x0).1 = 3 then (if (hgI A 129 x0 0) ≤ x1 then some x1 else if (hsh A (hgR A 128 x0 0)).1 = 13 then if wix x1 (hsh A (hgR A 128 x0 0)).2 then if (hsh A (hgR A 1037 (hgR A 128 x0 0) x1.toNatClampNeg)).1 = 2 then ((f_X1_compareInList A (hgR A 1037 (hgR A 128 x0 0) x1.toNatClampNeg) (hgR A 130 x0 0)).bind fun v7 => (if (0 : Int32) ≤ v7 then some x1 else rec2 (x1 + (1 : Int32)))) else none else none else none) else none
def k_X4_place_2 (A : Hp) (x0 : Nat)  : Nat → Int32 → Option (Int32)
  | 0 => fun _ => none
  | fu + 1 => k_X4_place_2s A x0  (k_X4_place_2 A x0  fu)
set_option maxRecDepth 100000 in
theorem s_X4_place_2 {κ : KT} {r : Int32} {A : Hp} {x0 : Nat}  (K : Cx κ cX4_place 2 RX4 4 100 0 0) (E : Ed κ (some .int) "place" (.inl (some (.inl r))) A 0 0)  : ∀ (fu : Nat)  (x1 : Int32),  k_X4_place_2 A x0  fu x1 = some r → Vw κ A 0 0 2 [(0, .inr (.inr x0)), (1, .inl x1)] [] := by
  intro fu
  induction fu with
  | zero => intro x1 h; cases h
  | succ fu hr2 =>
    intro x1 h
    have h : k_X4_place_2s A x0  (k_X4_place_2 A x0  fu) x1 = some r := h
    unfold k_X4_place_2s at h
    refine Vw.iload_n (pc := 2) (x := x1) K dX4_place_2 rfl ?_
    refine Vw.aload_n (pc := 3) (x := x0) K dX4_place_3 rfl ?_
    obtain ⟨g1, h⟩ := wgd h
    refine Vw.getI (pc := 4) (k := 1) (f := 129) K cls2 rfl rfl u_2_7 g1 dX4_place_4 ?_
    refine Vw.icmp_ge (pc := 7) (tgt := 32) K dX4_place_7 (by decide) (fun c2 => ?_) (fun c2 => ?_)
    · have h := wpos c2 h
      refine Vw.iload_n (pc := 32) (x := x1) K dX4_place_32 rfl ?_
      exact Vw.iretE (pc := 33) K (Option.some.inj h) rfl E (by decide) (by decide) dX4_place_33
    · have h := wneg c2 h
      refine Vw.aload_n (pc := 10) (x := x0) K dX4_place_10 rfl ?_
      refine Vw.getR (pc := 11) (k := 0) (f := 128) K cls2 rfl rfl u_2_5 g1 dX4_place_11 ?_
      refine Vw.iload_n (pc := 14) (x := x1) K dX4_place_14 rfl ?_
      obtain ⟨g3, h⟩ := wgd h
      obtain ⟨g4, h⟩ := wgd h
      refine Vw.aaloadC (pc := 15) K g3 g4 dX4_place_15 ?_
      refine Vw.aload_n (pc := 16) (x := x0) K dX4_place_16 rfl ?_
      refine Vw.getR (pc := 17) (k := 2) (f := 130) K cls2 rfl rfl u_2_9 g1 dX4_place_17 ?_
      obtain ⟨g5, h⟩ := wgd h
      obtain ⟨v7, e6, h⟩ := wbd h
      refine Vw.cV1 (pc := 20) (v := .inl v7) (c' := 0) (n' := 0) K (s_X1_compareInList K.tr e6) cal_X1_compareInList cls1 u_4_146 g5 rfl ⟨by decide, by decide⟩ ⟨by decide, by decide⟩ rfl (Nat.le_of_ble_eq_true rfl) dX4_place_20 rfl rfl ?_
      refine Vw.if_ge (pc := 23) (tgt := 32) K dX4_place_23 (by decide) (fun c8 => ?_) (fun c8 => ?_)
      · have h := wpos c8 h
        refine Vw.iload_n (pc := 32) (x := x1) K dX4_place_32 rfl ?_
        exact Vw.iretE (pc := 33) K (Option.some.inj h) rfl E (by decide) (by decide) dX4_place_33
      · have h := wneg c8 h
        refine Vw.iinc (pc := 26) (x := x1) (v := (1 : Int32)) K dX4_place_26 rfl (by decide) (by decide) ?_
        refine Vw.goto (pc := 29) (tgt := 2) K dX4_place_29 (by decide) ?_
        exact Vw.loc rfl (hr2 _ h)
def f_X4_place (A : Hp) (x0 : Nat) : Option (Int32) := k_X4_place_2 A x0 FU (0 : Int32)
set_option maxRecDepth 100000 in
theorem s_X4_place {l : Launch} {g : GT} (hl : l.stackTraces = false) {A : Hp} {x0 : Nat} {r : Int32} (h : f_X4_place A x0 = some r) : MetV l g yX4_place (.code yX4_place cX4_place 2 (some .int)) [.inr (.inr x0)] A (.inl (some (.inl r))) A 4 100 0 0 := by
  refine MetV.ofV hl (by decide +kernel) (Nat.le_of_ble_eq_true rfl) (fun κ K E => ?_)
  have K : Cx κ cX4_place 2 RX4 4 100 0 0 := K
  have E : Ed κ (some .int) "place" (.inl (some (.inl r))) A 0 0 := E
  unfold f_X4_place at h
  change Vw κ A 0 0 0 [(0, .inr (.inr x0))] []
  refine Vw.iconst (pc := 0) (v := (0 : Int32)) K (by decide) dX4_place_0 ?_
  refine Vw.istore_n (pc := 1) K dX4_place_1 (by decide) ?_
  exact Vw.loc rfl (s_X4_place_2 K E  _ _ h)
theorem cal_X4_place : wCalV RX4 yX4_place (.code yX4_place cX4_place 2 (some .int)) 0 := ⟨by decide +kernel, u_4_144, us_2_3, u_1_5, u_4_145⟩
def f_X4_isAt (A : Hp) (x0 : Nat) (x1 : Int32) : Option (Int32) := if (hsh A x0).1 = 3 then (if (hgI A 129 x0 0) ≤ x1 then some (0 : Int32) else if (hsh A (hgR A 128 x0 0)).1 = 13 then if wix x1 (hsh A (hgR A 128 x0 0)).2 then if (hsh A (hgR A 1037 (hgR A 128 x0 0) x1.toNatClampNeg)).1 = 2 then ((f_X1_compareInList A (hgR A 1037 (hgR A 128 x0 0) x1.toNatClampNeg) (hgR A 130 x0 0)).bind fun v7 => (if v7 = (0 : Int32) then some (1 : Int32) else some (0 : Int32))) else none else none else none) else none
set_option maxRecDepth 100000 in
theorem s_X4_isAt {l : Launch} {g : GT} (hl : l.stackTraces = false) {A : Hp} {x0 : Nat} {x1 : Int32} {r : Int32} (h : f_X4_isAt A x0 x1 = some r) : MetV l g yX4_isAt (.code yX4_isAt cX4_isAt 2 (some .boolean)) [.inr (.inr x0), .inl x1] A (.inl (some (.inl r))) A 4 100 0 0 := by
  refine MetV.ofV hl (by decide +kernel) (Nat.le_of_ble_eq_true rfl) (fun κ K E => ?_)
  have K : Cx κ cX4_isAt 2 RX4 4 100 0 0 := K
  have E : Ed κ (some .boolean) "isAt" (.inl (some (.inl r))) A 0 0 := E
  unfold f_X4_isAt at h
  change Vw κ A 0 0 0 [(0, .inr (.inr x0)), (1, .inl x1)] []
  refine Vw.iload_n (pc := 0) (x := x1) K dX4_isAt_0 rfl ?_
  refine Vw.aload_n (pc := 1) (x := x0) K dX4_isAt_1 rfl ?_
  obtain ⟨g1, h⟩ := wgd h
  refine Vw.getI (pc := 2) (k := 1) (f := 129) K cls2 rfl rfl u_2_7 g1 dX4_isAt_2 ?_
  refine Vw.icmp_ge (pc := 5) (tgt := 28) K dX4_isAt_5 (by decide) (fun c2 => ?_) (fun c2 => ?_)
  · have h := wpos c2 h
    refine Vw.iconst (pc := 28) (v := (0 : Int32)) K (by decide) dX4_isAt_28 ?_
    exact Vw.zretE (pc := 29) K (Or.inl rfl) (Option.some.inj h) rfl E (by decide) (by decide) dX4_isAt_29
  · have h := wneg c2 h
    refine Vw.aload_n (pc := 8) (x := x0) K dX4_isAt_8 rfl ?_
    refine Vw.getR (pc := 9) (k := 0) (f := 128) K cls2 rfl rfl u_2_5 g1 dX4_isAt_9 ?_
    refine Vw.iload_n (pc := 12) (x := x1) K dX4_isAt_12 rfl ?_
    obtain ⟨g3, h⟩ := wgd h
    obtain ⟨g4, h⟩ := wgd h
    refine Vw.aaloadC (pc := 13) K g3 g4 dX4_isAt_13 ?_
    refine Vw.aload_n (pc := 14) (x := x0) K dX4_isAt_14 rfl ?_
    refine Vw.getR (pc := 15) (k := 2) (f := 130) K cls2 rfl rfl u_2_9 g1 dX4_isAt_15 ?_
    obtain ⟨g5, h⟩ := wgd h
    obtain ⟨v7, e6, h⟩ := wbd h
    refine Vw.cV1 (pc := 18) (v := .inl v7) (c' := 0) (n' := 0) K (s_X1_compareInList K.tr e6) cal_X1_compareInList cls1 u_4_146 g5 rfl ⟨by decide, by decide⟩ ⟨by decide, by decide⟩ rfl (Nat.le_of_ble_eq_true rfl) dX4_isAt_18 rfl rfl ?_
    refine Vw.if_ne (pc := 21) (tgt := 28) K dX4_isAt_21 (by decide) (fun c8 => ?_) (fun c8 => ?_)
    · have h := wneg c8 h
      refine Vw.iconst (pc := 28) (v := (0 : Int32)) K (by decide) dX4_isAt_28 ?_
      exact Vw.zretE (pc := 29) K (Or.inl rfl) (Option.some.inj h) rfl E (by decide) (by decide) dX4_isAt_29
    · have h := wpos c8 h
      refine Vw.iconst (pc := 24) (v := (1 : Int32)) K (by decide) dX4_isAt_24 ?_
      refine Vw.goto (pc := 25) (tgt := 29) K dX4_isAt_25 (by decide) ?_
      exact Vw.zretE (pc := 29) K (Or.inr rfl) (Option.some.inj h) rfl E (by decide) (by decide) dX4_isAt_29
theorem cal_X4_isAt : wCalV RX4 yX4_isAt (.code yX4_isAt cX4_isAt 2 (some .boolean)) 1 := ⟨by decide +kernel, u_4_162, us_2_4, u_1_5, u_4_163⟩
def k_X4_isGuarded_2s (A : Hp) (x0 : Nat)  (rec2 : Int32 → Option (Int32))  (x1 : Int32) : Option (Int32) := if (hsh A x0).1 = 3 then (if (hgI A 129 x0 0) ≤ x1 then some (0 : Int32) else if (hsh A (hgR A 128 x0 0)).1 = 13 then if wix x1 (hsh A (hgR A 128 x0 0)).2 then if (hsh A (hgR A 1037 (hgR A 128 x0 0) x1.toNatClampNeg)).1 = 2 then ((f_X1_guardsAgainst A (hgR A 1037 (hgR A 128 x0 0) x1.toNatClampNeg) (hgR A 130 x0 0)).bind fun v7 => (if v7 = (0 : Int32) then rec2 (x1 + (1 : Int32)) else some (1 : Int32))) else none else none else none) else none
def k_X4_isGuarded_2 (A : Hp) (x0 : Nat)  : Nat → Int32 → Option (Int32)
  | 0 => fun _ => none
  | fu + 1 => k_X4_isGuarded_2s A x0  (k_X4_isGuarded_2 A x0  fu)
set_option maxRecDepth 100000 in
theorem s_X4_isGuarded_2 {κ : KT} {r : Int32} {A : Hp} {x0 : Nat}  (K : Cx κ cX4_isGuarded 2 RX4 4 93 0 0) (E : Ed κ (some .boolean) "isGuarded" (.inl (some (.inl r))) A 0 0)  : ∀ (fu : Nat)  (x1 : Int32),  k_X4_isGuarded_2 A x0  fu x1 = some r → Vw κ A 0 0 2 [(0, .inr (.inr x0)), (1, .inl x1)] [] := by
  intro fu
  induction fu with
  | zero => intro x1 h; cases h
  | succ fu hr2 =>
    intro x1 h
    have h : k_X4_isGuarded_2s A x0  (k_X4_isGuarded_2 A x0  fu) x1 = some r := h
    unfold k_X4_isGuarded_2s at h
    refine Vw.iload_n (pc := 2) (x := x1) K dX4_isGuarded_2 rfl ?_
    refine Vw.aload_n (pc := 3) (x := x0) K dX4_isGuarded_3 rfl ?_
    obtain ⟨g1, h⟩ := wgd h
    refine Vw.getI (pc := 4) (k := 1) (f := 129) K cls2 rfl rfl u_2_7 g1 dX4_isGuarded_4 ?_
    refine Vw.icmp_ge (pc := 7) (tgt := 34) K dX4_isGuarded_7 (by decide) (fun c2 => ?_) (fun c2 => ?_)
    · have h := wpos c2 h
      refine Vw.iconst (pc := 34) (v := (0 : Int32)) K (by decide) dX4_isGuarded_34 ?_
      exact Vw.zretE (pc := 35) K (Or.inl rfl) (Option.some.inj h) rfl E (by decide) (by decide) dX4_isGuarded_35
    · have h := wneg c2 h
      refine Vw.aload_n (pc := 10) (x := x0) K dX4_isGuarded_10 rfl ?_
      refine Vw.getR (pc := 11) (k := 0) (f := 128) K cls2 rfl rfl u_2_5 g1 dX4_isGuarded_11 ?_
      refine Vw.iload_n (pc := 14) (x := x1) K dX4_isGuarded_14 rfl ?_
      obtain ⟨g3, h⟩ := wgd h
      obtain ⟨g4, h⟩ := wgd h
      refine Vw.aaloadC (pc := 15) K g3 g4 dX4_isGuarded_15 ?_
      refine Vw.aload_n (pc := 16) (x := x0) K dX4_isGuarded_16 rfl ?_
      refine Vw.getR (pc := 17) (k := 2) (f := 130) K cls2 rfl rfl u_2_9 g1 dX4_isGuarded_17 ?_
      obtain ⟨g5, h⟩ := wgd h
      obtain ⟨v7, e6, h⟩ := wbd h
      refine Vw.cV1 (pc := 20) (v := .inl v7) (c' := 0) (n' := 0) K (s_X1_guardsAgainst K.tr e6) cal_X1_guardsAgainst cls1 u_4_172 g5 rfl ⟨by decide, by decide⟩ ⟨by decide, by decide⟩ rfl (Nat.le_of_ble_eq_true rfl) dX4_isGuarded_20 rfl rfl ?_
      refine Vw.if_eq (pc := 23) (tgt := 28) K dX4_isGuarded_23 (by decide) (fun c8 => ?_) (fun c8 => ?_)
      · have h := wpos c8 h
        refine Vw.iinc (pc := 28) (x := x1) (v := (1 : Int32)) K dX4_isGuarded_28 rfl (by decide) (by decide) ?_
        refine Vw.goto (pc := 31) (tgt := 2) K dX4_isGuarded_31 (by decide) ?_
        exact Vw.loc rfl (hr2 _ h)
      · have h := wneg c8 h
        refine Vw.iconst (pc := 26) (v := (1 : Int32)) K (by decide) dX4_isGuarded_26 ?_
        exact Vw.zretE (pc := 27) K (Or.inr rfl) (Option.some.inj h) rfl E (by decide) (by decide) dX4_isGuarded_27
def f_X4_isGuarded (A : Hp) (x0 : Nat) : Option (Int32) := k_X4_isGuarded_2 A x0 FU (0 : Int32)
set_option maxRecDepth 100000 in
theorem s_X4_isGuarded {l : Launch} {g : GT} (hl : l.stackTraces = false) {A : Hp} {x0 : Nat} {r : Int32} (h : f_X4_isGuarded A x0 = some r) : MetV l g yX4_isGuarded (.code yX4_isGuarded cX4_isGuarded 2 (some .boolean)) [.inr (.inr x0)] A (.inl (some (.inl r))) A 4 93 0 0 := by
  refine MetV.ofV hl (by decide +kernel) (Nat.le_of_ble_eq_true rfl) (fun κ K E => ?_)
  have K : Cx κ cX4_isGuarded 2 RX4 4 93 0 0 := K
  have E : Ed κ (some .boolean) "isGuarded" (.inl (some (.inl r))) A 0 0 := E
  unfold f_X4_isGuarded at h
  change Vw κ A 0 0 0 [(0, .inr (.inr x0))] []
  refine Vw.iconst (pc := 0) (v := (0 : Int32)) K (by decide) dX4_isGuarded_0 ?_
  refine Vw.istore_n (pc := 1) K dX4_isGuarded_1 (by decide) ?_
  exact Vw.loc rfl (s_X4_isGuarded_2 K E  _ _ h)
theorem cal_X4_isGuarded : wCalV RX4 yX4_isGuarded (.code yX4_isGuarded cX4_isGuarded 2 (some .boolean)) 0 := ⟨by decide +kernel, u_4_170, us_2_6, u_1_5, u_4_171⟩
def k_X4_causeInProperties_161  (A : Hp) (x0 : Nat) (t0 : Int32) : Option (Int32) := if (hsh A x0).1 = 3 then if (hsh A (hgR A 130 x0 0)).1 = 2 then if (hsh A (hgR A 64 (hgR A 130 x0 0) 0)).1 = 5 then ((f_X6_begins A (hgR A 64 (hgR A 130 x0 0) 0) 6).bind fun v5 => (if v5 = (0 : Int32) then some (0 : Int32) else (if t0 = (0 : Int32) then some (42 : Int32) else some (0 : Int32)))) else none else none else none
set_option maxRecDepth 100000 in
theorem s_X4_causeInProperties_161 {κ : KT} {r : Int32} {A : Hp} {x0 : Nat} {t0 : Int32}  (K : Cx κ cX4_causeInProperties 3 RX4 6 128 0 0) (E : Ed κ (some .int) "causeInProperties" (.inl (some (.inl r))) A 0 0)  (h : k_X4_causeInProperties_161  A x0 t0 = some r) : Vw κ A 0 0 161 [(0, .inr (.inr x0))] [.inl t0] := by
  unfold k_X4_causeInProperties_161 at h
  refine Vw.istore_n (pc := 161) K dX4_causeInProperties_161 (by decide) ?_
  refine Vw.aload_n (pc := 162) (x := x0) K dX4_causeInProperties_162 rfl ?_
  obtain ⟨g1, h⟩ := wgd h
  refine Vw.getR (pc := 163) (k := 2) (f := 130) K cls2 rfl rfl u_2_9 g1 dX4_causeInProperties_163 ?_
  obtain ⟨g2, h⟩ := wgd h
  refine Vw.getR (pc := 166) (k := 0) (f := 64) K cls1 rfl rfl u_1_133 g2 dX4_causeInProperties_166 ?_
  refine Vw.ldcS (pc := 169) (k := 5) K rfl (by decide) dX4_causeInProperties_169 ?_
  obtain ⟨g3, h⟩ := wgd h
  obtain ⟨v5, e4, h⟩ := wbd h
  refine Vw.cV1 (pc := 171) (v := .inl v5) (c' := 0) (n' := 0) K (s_X6_begins K.tr e4) cal_X6_begins cls4 u_4_183 g3 rfl ⟨by decide, by decide⟩ ⟨by decide, by decide⟩ rfl (Nat.le_of_ble_eq_true rfl) dX4_causeInProperties_171 rfl rfl ?_
  refine Vw.if_eq (pc := 174) (tgt := 186) K dX4_causeInProperties_174 (by decide) (fun c6 => ?_) (fun c6 => ?_)
  · have h := wpos c6 h
    refine Vw.iconst (pc := 186) (v := (0 : Int32)) K (by decide) dX4_causeInProperties_186 ?_
    exact Vw.iretE (pc := 187) K (Option.some.inj h) rfl E (by decide) (by decide) dX4_causeInProperties_187
  · have h := wneg c6 h
    refine Vw.iload_n (pc := 177) (x := t0) K dX4_causeInProperties_177 rfl ?_
    refine Vw.if_ne (pc := 178) (tgt := 186) K dX4_causeInProperties_178 (by decide) (fun c7 => ?_) (fun c7 => ?_)
    · have h := wneg c7 h
      refine Vw.iconst (pc := 186) (v := (0 : Int32)) K (by decide) dX4_causeInProperties_186 ?_
      exact Vw.iretE (pc := 187) K (Option.some.inj h) rfl E (by decide) (by decide) dX4_causeInProperties_187
    · have h := wpos c7 h
      refine Vw.bipush (pc := 181) (v := (42 : Int32)) K (by decide) dX4_causeInProperties_181 ?_
      refine Vw.goto (pc := 183) (tgt := 187) K dX4_causeInProperties_183 (by decide) ?_
      exact Vw.iretE (pc := 187) K (Option.some.inj h) rfl E (by decide) (by decide) dX4_causeInProperties_187
def k_X4_causeInProperties_160  (A : Hp) (x0 : Nat)  : Option (Int32) := k_X4_causeInProperties_161 A x0 (0 : Int32)
set_option maxRecDepth 100000 in
theorem s_X4_causeInProperties_160 {κ : KT} {r : Int32} {A : Hp} {x0 : Nat}   (K : Cx κ cX4_causeInProperties 3 RX4 6 128 0 0) (E : Ed κ (some .int) "causeInProperties" (.inl (some (.inl r))) A 0 0)  (h : k_X4_causeInProperties_160  A x0  = some r) : Vw κ A 0 0 160 [(0, .inr (.inr x0))] [] := by
  unfold k_X4_causeInProperties_160 at h
  refine Vw.iconst (pc := 160) (v := (0 : Int32)) K (by decide) dX4_causeInProperties_160 ?_
  exact Vw.loc rfl (s_X4_causeInProperties_161 K E  h)
def k_X4_causeInProperties_121  (A : Hp) (x0 : Nat)  : Option (Int32) := if (hsh A x0).1 = 3 then if (hsh A (hgR A 130 x0 0)).1 = 2 then (if (hgI A 73 (hgR A 130 x0 0) 0) = (0 : Int32) then k_X4_causeInProperties_160 A x0 else (if (hgI A 72 (hgR A 130 x0 0) 0) = (0 : Int32) then k_X4_causeInProperties_160 A x0 else if (hsh A (hgR A 67 (hgR A 130 x0 0) 0)).1 = 5 then ((f_X6_is A (hgR A 67 (hgR A 130 x0 0) 0) 5).bind fun v14 => (if v14 = (0 : Int32) then k_X4_causeInProperties_160 A x0 else k_X4_causeInProperties_161 A x0 (1 : Int32))) else none)) else none else none
set_option maxRecDepth 100000 in
theorem s_X4_causeInProperties_121 {κ : KT} {r : Int32} {A : Hp} {x0 : Nat}   (K : Cx κ cX4_causeInProperties 3 RX4 6 128 0 0) (E : Ed κ (some .int) "causeInProperties" (.inl (some (.inl r))) A 0 0)  (h : k_X4_causeInProperties_121  A x0  = some r) : Vw κ A 0 0 121 [(0, .inr (.inr x0))] [] := by
  unfold k_X4_causeInProperties_121 at h
  refine Vw.aload_n (pc := 121) (x := x0) K dX4_causeInProperties_121 rfl ?_
  obtain ⟨g8, h⟩ := wgd h
  refine Vw.getR (pc := 122) (k := 2) (f := 130) K cls2 rfl rfl u_2_9 g8 dX4_causeInProperties_122 ?_
  obtain ⟨g9, h⟩ := wgd h
  refine Vw.getI (pc := 125) (k := 9) (f := 73) K cls1 rfl rfl u_1_160 g9 dX4_causeInProperties_125 ?_
  refine Vw.if_eq (pc := 128) (tgt := 160) K dX4_causeInProperties_128 (by decide) (fun c10 => ?_) (fun c10 => ?_)
  · have h := wpos c10 h
    exact Vw.loc rfl (s_X4_causeInProperties_160 K E  h)
  · have h := wneg c10 h
    refine Vw.aload_n (pc := 131) (x := x0) K dX4_causeInProperties_131 rfl ?_
    refine Vw.getR (pc := 132) (k := 2) (f := 130) K cls2 rfl rfl u_2_9 g8 dX4_causeInProperties_132 ?_
    refine Vw.getI (pc := 135) (k := 8) (f := 72) K cls1 rfl rfl u_1_157 g9 dX4_causeInProperties_135 ?_
    refine Vw.if_eq (pc := 138) (tgt := 160) K dX4_causeInProperties_138 (by decide) (fun c11 => ?_) (fun c11 => ?_)
    · have h := wpos c11 h
      exact Vw.loc rfl (s_X4_causeInProperties_160 K E  h)
    · have h := wneg c11 h
      refine Vw.aload_n (pc := 141) (x := x0) K dX4_causeInProperties_141 rfl ?_
      refine Vw.getR (pc := 142) (k := 2) (f := 130) K cls2 rfl rfl u_2_9 g8 dX4_causeInProperties_142 ?_
      refine Vw.getR (pc := 145) (k := 3) (f := 67) K cls1 rfl rfl u_1_142 g9 dX4_causeInProperties_145 ?_
      refine Vw.ldcS (pc := 148) (k := 4) K rfl (by decide) dX4_causeInProperties_148 ?_
      obtain ⟨g12, h⟩ := wgd h
      obtain ⟨v14, e13, h⟩ := wbd h
      refine Vw.cV1 (pc := 150) (v := .inl v14) (c' := 0) (n' := 0) K (s_X6_is K.tr e13) cal_X6_is cls4 u_4_188 g12 rfl ⟨by decide, by decide⟩ ⟨by decide, by decide⟩ rfl (Nat.le_of_ble_eq_true rfl) dX4_causeInProperties_150 rfl rfl ?_
      refine Vw.if_eq (pc := 153) (tgt := 160) K dX4_causeInProperties_153 (by decide) (fun c15 => ?_) (fun c15 => ?_)
      · have h := wpos c15 h
        exact Vw.loc rfl (s_X4_causeInProperties_160 K E  h)
      · have h := wneg c15 h
        refine Vw.iconst (pc := 156) (v := (1 : Int32)) K (by decide) dX4_causeInProperties_156 ?_
        refine Vw.goto (pc := 157) (tgt := 161) K dX4_causeInProperties_157 (by decide) ?_
        exact Vw.loc rfl (s_X4_causeInProperties_161 K E  h)
def k_X4_causeInProperties_93  (A : Hp) (x0 : Nat)  : Option (Int32) := if (hsh A x0).1 = 3 then if (hsh A (hgR A 130 x0 0)).1 = 2 then if (hsh A (hgR A 64 (hgR A 130 x0 0) 0)).1 = 5 then ((f_X6_begins A (hgR A 64 (hgR A 130 x0 0) 0) 4).bind fun v20 => (if v20 = (0 : Int32) then k_X4_causeInProperties_121 A x0 else (if (hgI A 73 (hgR A 130 x0 0) 0) = (0 : Int32) then some (41 : Int32) else k_X4_causeInProperties_121 A x0))) else none else none else none
set_option maxRecDepth 100000 in
theorem s_X4_causeInProperties_93 {κ : KT} {r : Int32} {A : Hp} {x0 : Nat}   (K : Cx κ cX4_causeInProperties 3 RX4 6 128 0 0) (E : Ed κ (some .int) "causeInProperties" (.inl (some (.inl r))) A 0 0)  (h : k_X4_causeInProperties_93  A x0  = some r) : Vw κ A 0 0 93 [(0, .inr (.inr x0))] [] := by
  unfold k_X4_causeInProperties_93 at h
  refine Vw.aload_n (pc := 93) (x := x0) K dX4_causeInProperties_93 rfl ?_
  obtain ⟨g16, h⟩ := wgd h
  refine Vw.getR (pc := 94) (k := 2) (f := 130) K cls2 rfl rfl u_2_9 g16 dX4_causeInProperties_94 ?_
  obtain ⟨g17, h⟩ := wgd h
  refine Vw.getR (pc := 97) (k := 0) (f := 64) K cls1 rfl rfl u_1_133 g17 dX4_causeInProperties_97 ?_
  refine Vw.ldcS (pc := 100) (k := 3) K rfl (by decide) dX4_causeInProperties_100 ?_
  obtain ⟨g18, h⟩ := wgd h
  obtain ⟨v20, e19, h⟩ := wbd h
  refine Vw.cV1 (pc := 102) (v := .inl v20) (c' := 0) (n' := 0) K (s_X6_begins K.tr e19) cal_X6_begins cls4 u_4_183 g18 rfl ⟨by decide, by decide⟩ ⟨by decide, by decide⟩ rfl (Nat.le_of_ble_eq_true rfl) dX4_causeInProperties_102 rfl rfl ?_
  refine Vw.if_eq (pc := 105) (tgt := 121) K dX4_causeInProperties_105 (by decide) (fun c21 => ?_) (fun c21 => ?_)
  · have h := wpos c21 h
    exact Vw.loc rfl (s_X4_causeInProperties_121 K E  h)
  · have h := wneg c21 h
    refine Vw.aload_n (pc := 108) (x := x0) K dX4_causeInProperties_108 rfl ?_
    refine Vw.getR (pc := 109) (k := 2) (f := 130) K cls2 rfl rfl u_2_9 g16 dX4_causeInProperties_109 ?_
    refine Vw.getI (pc := 112) (k := 9) (f := 73) K cls1 rfl rfl u_1_160 g17 dX4_causeInProperties_112 ?_
    refine Vw.if_ne (pc := 115) (tgt := 121) K dX4_causeInProperties_115 (by decide) (fun c22 => ?_) (fun c22 => ?_)
    · have h := wneg c22 h
      exact Vw.loc rfl (s_X4_causeInProperties_121 K E  h)
    · have h := wpos c22 h
      refine Vw.bipush (pc := 118) (v := (41 : Int32)) K (by decide) dX4_causeInProperties_118 ?_
      exact Vw.iretE (pc := 120) K (Option.some.inj h) rfl E (by decide) (by decide) dX4_causeInProperties_120
def k_X4_causeInProperties_70  (A : Hp) (x0 : Nat)  : Option (Int32) := if (hsh A x0).1 = 3 then if (hsh A (hgR A 130 x0 0)).1 = 2 then (if (hgI A 75 (hgR A 130 x0 0) 0) = (0 : Int32) then (if (hgI A 73 (hgR A 130 x0 0) 0) = (0 : Int32) then some (51 : Int32) else k_X4_causeInProperties_93 A x0) else k_X4_causeInProperties_93 A x0) else none else none
set_option maxRecDepth 100000 in
theorem s_X4_causeInProperties_70 {κ : KT} {r : Int32} {A : Hp} {x0 : Nat}   (K : Cx κ cX4_causeInProperties 3 RX4 6 128 0 0) (E : Ed κ (some .int) "causeInProperties" (.inl (some (.inl r))) A 0 0)  (h : k_X4_causeInProperties_70  A x0  = some r) : Vw κ A 0 0 70 [(0, .inr (.inr x0))] [] := by
  unfold k_X4_causeInProperties_70 at h
  refine Vw.aload_n (pc := 70) (x := x0) K dX4_causeInProperties_70 rfl ?_
  obtain ⟨g23, h⟩ := wgd h
  refine Vw.getR (pc := 71) (k := 2) (f := 130) K cls2 rfl rfl u_2_9 g23 dX4_causeInProperties_71 ?_
  obtain ⟨g24, h⟩ := wgd h
  refine Vw.getI (pc := 74) (k := 11) (f := 75) K cls1 rfl rfl u_1_166 g24 dX4_causeInProperties_74 ?_
  refine Vw.if_ne (pc := 77) (tgt := 93) K dX4_causeInProperties_77 (by decide) (fun c25 => ?_) (fun c25 => ?_)
  · have h := wneg c25 h
    exact Vw.loc rfl (s_X4_causeInProperties_93 K E  h)
  · have h := wpos c25 h
    refine Vw.aload_n (pc := 80) (x := x0) K dX4_causeInProperties_80 rfl ?_
    refine Vw.getR (pc := 81) (k := 2) (f := 130) K cls2 rfl rfl u_2_9 g23 dX4_causeInProperties_81 ?_
    refine Vw.getI (pc := 84) (k := 9) (f := 73) K cls1 rfl rfl u_1_160 g24 dX4_causeInProperties_84 ?_
    refine Vw.if_ne (pc := 87) (tgt := 93) K dX4_causeInProperties_87 (by decide) (fun c26 => ?_) (fun c26 => ?_)
    · have h := wneg c26 h
      exact Vw.loc rfl (s_X4_causeInProperties_93 K E  h)
    · have h := wpos c26 h
      refine Vw.bipush (pc := 90) (v := (51 : Int32)) K (by decide) dX4_causeInProperties_90 ?_
      exact Vw.iretE (pc := 92) K (Option.some.inj h) rfl E (by decide) (by decide) dX4_causeInProperties_92
def k_X4_causeInProperties_40  (A : Hp) (x0 : Nat)  : Option (Int32) := if (hsh A x0).1 = 3 then if (hsh A (hgR A 130 x0 0)).1 = 2 then (if (hgI A 73 (hgR A 130 x0 0) 0) = (0 : Int32) then if (hsh A (hgR A 134 x0 0)).1 = 1 then (if (hgI A 3 (hgR A 134 x0 0) 0) = (0 : Int32) then ((f_X4_isGuarded A x0).bind fun v33 => (if v33 = (0 : Int32) then k_X4_causeInProperties_70 A x0 else some (32 : Int32))) else k_X4_causeInProperties_70 A x0) else none else k_X4_causeInProperties_70 A x0) else none else none
set_option maxRecDepth 100000 in
theorem s_X4_causeInProperties_40 {κ : KT} {r : Int32} {A : Hp} {x0 : Nat}   (K : Cx κ cX4_causeInProperties 3 RX4 6 128 0 0) (E : Ed κ (some .int) "causeInProperties" (.inl (some (.inl r))) A 0 0)  (h : k_X4_causeInProperties_40  A x0  = some r) : Vw κ A 0 0 40 [(0, .inr (.inr x0))] [] := by
  unfold k_X4_causeInProperties_40 at h
  refine Vw.aload_n (pc := 40) (x := x0) K dX4_causeInProperties_40 rfl ?_
  obtain ⟨g27, h⟩ := wgd h
  refine Vw.getR (pc := 41) (k := 2) (f := 130) K cls2 rfl rfl u_2_9 g27 dX4_causeInProperties_41 ?_
  obtain ⟨g28, h⟩ := wgd h
  refine Vw.getI (pc := 44) (k := 9) (f := 73) K cls1 rfl rfl u_1_160 g28 dX4_causeInProperties_44 ?_
  refine Vw.if_ne (pc := 47) (tgt := 70) K dX4_causeInProperties_47 (by decide) (fun c29 => ?_) (fun c29 => ?_)
  · have h := wneg c29 h
    exact Vw.loc rfl (s_X4_causeInProperties_70 K E  h)
  · have h := wpos c29 h
    refine Vw.aload_n (pc := 50) (x := x0) K dX4_causeInProperties_50 rfl ?_
    refine Vw.getR (pc := 51) (k := 6) (f := 134) K cls2 rfl rfl u_2_15 g27 dX4_causeInProperties_51 ?_
    obtain ⟨g30, h⟩ := wgd h
    refine Vw.getI (pc := 54) (k := 3) (f := 3) K cls0 rfl rfl u_1_233 g30 dX4_causeInProperties_54 ?_
    refine Vw.if_ne (pc := 57) (tgt := 70) K dX4_causeInProperties_57 (by decide) (fun c31 => ?_) (fun c31 => ?_)
    · have h := wneg c31 h
      exact Vw.loc rfl (s_X4_causeInProperties_70 K E  h)
    · have h := wpos c31 h
      refine Vw.aload_n (pc := 60) (x := x0) K dX4_causeInProperties_60 rfl ?_
      obtain ⟨v33, e32, h⟩ := wbd h
      refine Vw.cV1 (pc := 61) (v := .inl v33) (c' := 0) (n' := 0) K (s_X4_isGuarded K.tr e32) cal_X4_isGuarded cls2 u_4_168 g27 rfl ⟨by decide, by decide⟩ ⟨by decide, by decide⟩ rfl (Nat.le_of_ble_eq_true rfl) dX4_causeInProperties_61 rfl rfl ?_
      refine Vw.if_eq (pc := 64) (tgt := 70) K dX4_causeInProperties_64 (by decide) (fun c34 => ?_) (fun c34 => ?_)
      · have h := wpos c34 h
        exact Vw.loc rfl (s_X4_causeInProperties_70 K E  h)
      · have h := wneg c34 h
        refine Vw.bipush (pc := 67) (v := (32 : Int32)) K (by decide) dX4_causeInProperties_67 ?_
        exact Vw.iretE (pc := 69) K (Option.some.inj h) rfl E (by decide) (by decide) dX4_causeInProperties_69
def k_X4_causeInProperties_23  (A : Hp) (x0 : Nat) (x1 : Int32)  : Option (Int32) := if (hsh A x0).1 = 3 then if (hsh A (hgR A 130 x0 0)).1 = 2 then (if (hgI A 74 (hgR A 130 x0 0) 0) = (0 : Int32) then k_X4_causeInProperties_40 A x0 else (if x1 = (0 : Int32) then k_X4_causeInProperties_40 A x0 else some (61 : Int32))) else none else none
set_option maxRecDepth 100000 in
theorem s_X4_causeInProperties_23 {κ : KT} {r : Int32} {A : Hp} {x0 : Nat} {x1 : Int32}   (K : Cx κ cX4_causeInProperties 3 RX4 6 128 0 0) (E : Ed κ (some .int) "causeInProperties" (.inl (some (.inl r))) A 0 0)  (h : k_X4_causeInProperties_23  A x0 x1  = some r) : Vw κ A 0 0 23 [(0, .inr (.inr x0)), (1, .inl x1)] [] := by
  unfold k_X4_causeInProperties_23 at h
  refine Vw.aload_n (pc := 23) (x := x0) K dX4_causeInProperties_23 rfl ?_
  obtain ⟨g35, h⟩ := wgd h
  refine Vw.getR (pc := 24) (k := 2) (f := 130) K cls2 rfl rfl u_2_9 g35 dX4_causeInProperties_24 ?_
  obtain ⟨g36, h⟩ := wgd h
  refine Vw.getI (pc := 27) (k := 10) (f := 74) K cls1 rfl rfl u_1_163 g36 dX4_causeInProperties_27 ?_
  refine Vw.if_eq (pc := 30) (tgt := 40) K dX4_causeInProperties_30 (by decide) (fun c37 => ?_) (fun c37 => ?_)
  · have h := wpos c37 h
    exact Vw.loc rfl (s_X4_causeInProperties_40 K E  h)
  · have h := wneg c37 h
    refine Vw.iload_n (pc := 33) (x := x1) K dX4_causeInProperties_33 rfl ?_
    refine Vw.if_eq (pc := 34) (tgt := 40) K dX4_causeInProperties_34 (by decide) (fun c38 => ?_) (fun c38 => ?_)
    · have h := wpos c38 h
      exact Vw.loc rfl (s_X4_causeInProperties_40 K E  h)
    · have h := wneg c38 h
      refine Vw.bipush (pc := 37) (v := (61 : Int32)) K (by decide) dX4_causeInProperties_37 ?_
      exact Vw.iretE (pc := 39) K (Option.some.inj h) rfl E (by decide) (by decide) dX4_causeInProperties_39
def f_X4_causeInProperties (A : Hp) (x0 : Nat) (x1 : Int32) : Option (Int32) := if (hsh A x0).1 = 3 then if (hsh A (hgR A 130 x0 0)).1 = 2 then (if (hgI A 73 (hgR A 130 x0 0) 0) = (0 : Int32) then k_X4_causeInProperties_23 A x0 x1 else if (hsh A (hgR A 134 x0 0)).1 = 1 then (if (hgI A 3 (hgR A 134 x0 0) 0) = (0 : Int32) then some (31 : Int32) else k_X4_causeInProperties_23 A x0 x1) else none) else none else none
set_option maxRecDepth 100000 in
theorem s_X4_causeInProperties {l : Launch} {g : GT} (hl : l.stackTraces = false) {A : Hp} {x0 : Nat} {x1 : Int32} {r : Int32} (h : f_X4_causeInProperties A x0 x1 = some r) : MetV l g yX4_causeInProperties (.code yX4_causeInProperties cX4_causeInProperties 3 (some .int)) [.inr (.inr x0), .inl x1] A (.inl (some (.inl r))) A 6 128 0 0 := by
  refine MetV.ofV hl (by decide +kernel) (Nat.le_of_ble_eq_true rfl) (fun κ K E => ?_)
  have K : Cx κ cX4_causeInProperties 3 RX4 6 128 0 0 := K
  have E : Ed κ (some .int) "causeInProperties" (.inl (some (.inl r))) A 0 0 := E
  unfold f_X4_causeInProperties at h
  change Vw κ A 0 0 0 [(0, .inr (.inr x0)), (1, .inl x1)] []
  refine Vw.aload_n (pc := 0) (x := x0) K dX4_causeInProperties_0 rfl ?_
  obtain ⟨g39, h⟩ := wgd h
  refine Vw.getR (pc := 1) (k := 2) (f := 130) K cls2 rfl rfl u_2_9 g39 dX4_causeInProperties_1 ?_
  obtain ⟨g40, h⟩ := wgd h
  refine Vw.getI (pc := 4) (k := 9) (f := 73) K cls1 rfl rfl u_1_160 g40 dX4_causeInProperties_4 ?_
  refine Vw.if_eq (pc := 7) (tgt := 23) K dX4_causeInProperties_7 (by decide) (fun c41 => ?_) (fun c41 => ?_)
  · have h := wpos c41 h
    exact Vw.loc rfl (s_X4_causeInProperties_23 K E  h)
  · have h := wneg c41 h
    refine Vw.aload_n (pc := 10) (x := x0) K dX4_causeInProperties_10 rfl ?_
    refine Vw.getR (pc := 11) (k := 6) (f := 134) K cls2 rfl rfl u_2_15 g39 dX4_causeInProperties_11 ?_
    obtain ⟨g42, h⟩ := wgd h
    refine Vw.getI (pc := 14) (k := 3) (f := 3) K cls0 rfl rfl u_1_233 g42 dX4_causeInProperties_14 ?_
    refine Vw.if_ne (pc := 17) (tgt := 23) K dX4_causeInProperties_17 (by decide) (fun c43 => ?_) (fun c43 => ?_)
    · have h := wneg c43 h
      exact Vw.loc rfl (s_X4_causeInProperties_23 K E  h)
    · have h := wpos c43 h
      refine Vw.bipush (pc := 20) (v := (31 : Int32)) K (by decide) dX4_causeInProperties_20 ?_
      exact Vw.iretE (pc := 22) K (Option.some.inj h) rfl E (by decide) (by decide) dX4_causeInProperties_22
theorem cal_X4_causeInProperties : wCalV RX4 yX4_causeInProperties (.code yX4_causeInProperties cX4_causeInProperties 3 (some .int)) 1 := ⟨by decide +kernel, u_4_166, us_2_5, u_1_5, u_4_167⟩
def k_X4_drop_22s  (x0 : Nat) (x2 : Nat)  (rec22 : Hp → Int32 → Option (Hp)) (A : Hp) (x3 : Int32) : Option (Hp) := if (hsh A x0).1 = 3 then (if ((hgI A 129 x0 0) - (1 : Int32)) ≤ x3 then if (hsh A (hgR A 128 x0 0)).1 = 13 then if (hsh A x2).1 = 2 then if wix ((hgI A 129 x0 0) - (1 : Int32)) (hsh A (hgR A 128 x0 0)).2 then some (hsI (hsR A 1037 (hgR A 128 x0 0) ((hgI A 129 x0 0) - (1 : Int32)).toNatClampNeg x2) 129 x0 0 ((hgI (hsR A 1037 (hgR A 128 x0 0) ((hgI A 129 x0 0) - (1 : Int32)).toNatClampNeg x2) 129 x0 0) - (1 : Int32))) else none else none else none else if (hsh A (hgR A 128 x0 0)).1 = 13 then if wix (x3 + (1 : Int32)) (hsh A (hgR A 128 x0 0)).2 then if (hsh A (hgR A 1037 (hgR A 128 x0 0) (x3 + (1 : Int32)).toNatClampNeg)).1 = 2 then if wix x3 (hsh A (hgR A 128 x0 0)).2 then rec22 (hsR A 1037 (hgR A 128 x0 0) x3.toNatClampNeg (hgR A 1037 (hgR A 128 x0 0) (x3 + (1 : Int32)).toNatClampNeg)) (x3 + (1 : Int32)) else none else none else none else none) else none
def k_X4_drop_22  (x0 : Nat) (x2 : Nat)  : Nat → Hp → Int32 → Option (Hp)
  | 0 => fun _ _ => none
  | fu + 1 => k_X4_drop_22s x0 x2  (k_X4_drop_22 x0 x2  fu)
set_option maxRecDepth 100000 in
theorem s_X4_drop_22 {κ : KT} {B : Hp}  {x0 : Nat} {x2 : Nat}  (K : Cx κ cX4_drop 4 RX4 0 0 0 0) (E : Ed κ none "drop" (.inl none) B 0 0)  : ∀ (fu : Nat) (A : Hp) (x3 : Int32),  k_X4_drop_22 x0 x2  fu A x3 = some B → Vw κ A 0 0 22 [(0, .inr (.inr x0)), (2, .inr (.inr x2)), (3, .inl x3)] [] := by
  intro fu
  induction fu with
  | zero => intro A x3 h; cases h
  | succ fu hr22 =>
    intro A x3 h
    have h : k_X4_drop_22s x0 x2  (k_X4_drop_22 x0 x2  fu) A x3 = some B := h
    unfold k_X4_drop_22s at h
    refine Vw.iload_n (pc := 22) (x := x3) K dX4_drop_22 rfl ?_
    refine Vw.aload_n (pc := 23) (x := x0) K dX4_drop_23 rfl ?_
    obtain ⟨g1, h⟩ := wgd h
    refine Vw.getI (pc := 24) (k := 1) (f := 129) K cls2 rfl rfl u_2_7 g1 dX4_drop_24 ?_
    refine Vw.iconst (pc := 27) (v := (1 : Int32)) K (by decide) dX4_drop_27 ?_
    refine Vw.isub (pc := 28) K dX4_drop_28 ?_
    refine Vw.icmp_ge (pc := 29) (tgt := 52) K dX4_drop_29 (by decide) (fun c2 => ?_) (fun c2 => ?_)
    · have h := wpos c2 h
      refine Vw.aload_n (pc := 52) (x := x0) K dX4_drop_52 rfl ?_
      refine Vw.getR (pc := 53) (k := 0) (f := 128) K cls2 rfl rfl u_2_5 g1 dX4_drop_53 ?_
      refine Vw.aload_n (pc := 56) (x := x0) K dX4_drop_56 rfl ?_
      refine Vw.getI (pc := 57) (k := 1) (f := 129) K cls2 rfl rfl u_2_7 g1 dX4_drop_57 ?_
      refine Vw.iconst (pc := 60) (v := (1 : Int32)) K (by decide) dX4_drop_60 ?_
      refine Vw.isub (pc := 61) K dX4_drop_61 ?_
      refine Vw.aload_n (pc := 62) (x := x2) K dX4_drop_62 rfl ?_
      obtain ⟨g3, h⟩ := wgd h
      obtain ⟨g4, h⟩ := wgd h
      obtain ⟨g5, h⟩ := wgd h
      refine Vw.aastoreC (pc := 63) K g3 g4 g5 dX4_drop_63 ?_
      refine Vw.aload_n (pc := 64) (x := x0) K dX4_drop_64 rfl ?_
      refine Vw.dup (pc := 65) K rfl dX4_drop_65 ?_
      refine Vw.getI (pc := 66) (k := 1) (f := 129) K cls2 rfl rfl u_2_7 g1 dX4_drop_66 ?_
      refine Vw.iconst (pc := 69) (v := (1 : Int32)) K (by decide) dX4_drop_69 ?_
      refine Vw.isub (pc := 70) K dX4_drop_70 ?_
      refine Vw.putI (pc := 71) (k := 1) (f := 129) K cls2 rfl rfl u_2_7 g1 (Or.inl rfl) rfl rfl dX4_drop_71 ?_
      exact Vw.vretE (pc := 74) K (Option.some.inj h) E (by decide) (by decide) dX4_drop_74
    · have h := wneg c2 h
      refine Vw.aload_n (pc := 32) (x := x0) K dX4_drop_32 rfl ?_
      refine Vw.getR (pc := 33) (k := 0) (f := 128) K cls2 rfl rfl u_2_5 g1 dX4_drop_33 ?_
      refine Vw.iload_n (pc := 36) (x := x3) K dX4_drop_36 rfl ?_
      refine Vw.aload_n (pc := 37) (x := x0) K dX4_drop_37 rfl ?_
      refine Vw.getR (pc := 38) (k := 0) (f := 128) K cls2 rfl rfl u_2_5 g1 dX4_drop_38 ?_
      refine Vw.iload_n (pc := 41) (x := x3) K dX4_drop_41 rfl ?_
      refine Vw.iconst (pc := 42) (v := (1 : Int32)) K (by decide) dX4_drop_42 ?_
      refine Vw.iadd (pc := 43) K dX4_drop_43 ?_
      obtain ⟨g6, h⟩ := wgd h
      obtain ⟨g7, h⟩ := wgd h
      refine Vw.aaloadC (pc := 44) K g6 g7 dX4_drop_44 ?_
      obtain ⟨g8, h⟩ := wgd h
      obtain ⟨g9, h⟩ := wgd h
      refine Vw.aastoreC (pc := 45) K g6 g8 g9 dX4_drop_45 ?_
      refine Vw.iinc (pc := 46) (x := x3) (v := (1 : Int32)) K dX4_drop_46 rfl (by decide) (by decide) ?_
      refine Vw.goto (pc := 49) (tgt := 22) K dX4_drop_49 (by decide) ?_
      exact Vw.loc rfl (hr22 _ _ h)
def f_X4_drop (A : Hp) (x0 : Nat) (x1 : Int32) : Option (Hp) := (if x1 < (0 : Int32) then some A else if (hsh A x0).1 = 3 then (if x1 < (hgI A 129 x0 0) then if (hsh A (hgR A 128 x0 0)).1 = 13 then if wix x1 (hsh A (hgR A 128 x0 0)).2 then k_X4_drop_22 x0 (hgR A 1037 (hgR A 128 x0 0) x1.toNatClampNeg) FU A x1 else none else none else some A) else none)
set_option maxRecDepth 100000 in
theorem s_X4_drop {l : Launch} {g : GT} (hl : l.stackTraces = false) {A : Hp} {x0 : Nat} {x1 : Int32} {B : Hp} (h : f_X4_drop A x0 x1 = some B) : MetV l g yX4_drop (.code yX4_drop cX4_drop 4 none) [.inr (.inr x0), .inl x1] A (.inl none) B 0 0 0 0 := by
  refine MetV.ofV hl (by decide +kernel) (Nat.le_of_ble_eq_true rfl) (fun κ K E => ?_)
  have K : Cx κ cX4_drop 4 RX4 0 0 0 0 := K
  have E : Ed κ none "drop" (.inl none) B 0 0 := E
  unfold f_X4_drop at h
  change Vw κ A 0 0 0 [(0, .inr (.inr x0)), (1, .inl x1)] []
  refine Vw.iload_n (pc := 0) (x := x1) K dX4_drop_0 rfl ?_
  refine Vw.if_lt (pc := 1) (tgt := 12) K dX4_drop_1 (by decide) (fun c10 => ?_) (fun c10 => ?_)
  · have h := wpos c10 h
    exact Vw.vretE (pc := 12) K (Option.some.inj h) E (by decide) (by decide) dX4_drop_12
  · have h := wneg c10 h
    refine Vw.iload_n (pc := 4) (x := x1) K dX4_drop_4 rfl ?_
    refine Vw.aload_n (pc := 5) (x := x0) K dX4_drop_5 rfl ?_
    obtain ⟨g11, h⟩ := wgd h
    refine Vw.getI (pc := 6) (k := 1) (f := 129) K cls2 rfl rfl u_2_7 g11 dX4_drop_6 ?_
    refine Vw.icmp_lt (pc := 9) (tgt := 13) K dX4_drop_9 (by decide) (fun c12 => ?_) (fun c12 => ?_)
    · have h := wpos c12 h
      refine Vw.aload_n (pc := 13) (x := x0) K dX4_drop_13 rfl ?_
      refine Vw.getR (pc := 14) (k := 0) (f := 128) K cls2 rfl rfl u_2_5 g11 dX4_drop_14 ?_
      refine Vw.iload_n (pc := 17) (x := x1) K dX4_drop_17 rfl ?_
      obtain ⟨g13, h⟩ := wgd h
      obtain ⟨g14, h⟩ := wgd h
      refine Vw.aaloadC (pc := 18) K g13 g14 dX4_drop_18 ?_
      refine Vw.astore_n (pc := 19) K dX4_drop_19 (by decide) ?_
      refine Vw.iload_n (pc := 20) (x := x1) K dX4_drop_20 rfl ?_
      refine Vw.istore_n (pc := 21) K dX4_drop_21 (by decide) ?_
      exact Vw.loc rfl (s_X4_drop_22 K E  _ _ _ h)
    · have h := wneg c12 h
      exact Vw.vretE (pc := 12) K (Option.some.inj h) E (by decide) (by decide) dX4_drop_12
theorem cal_X4_drop : wCalV RX4 yX4_drop (.code yX4_drop cX4_drop 4 none) 1 := ⟨by decide +kernel, u_2_206, u_2_207, u_1_5, u_2_208⟩
def f_X4_expire (A : Hp) (x0 : Nat) (x1 : Int32) : Option (Int32 × Hp) := if (hsh A x0).1 = 3 then ((f_X4_drop A x0 x1).bind fun A3 => if (hsh A3 x0).1 = 3 then if (hsh A3 (hgR A3 137 x0 0)).1 = 10 then if wix (2 : Int32) (hsh A3 (hgR A3 137 x0 0)).2 then some ((3 : Int32), (hsI A3 1034 (hgR A3 137 x0 0) (2 : Int32).toNatClampNeg ((hgI A3 1034 (hgR A3 137 x0 0) (2 : Int32).toNatClampNeg) + (1 : Int32)))) else none else none else none) else none
set_option maxRecDepth 100000 in
theorem s_X4_expire {l : Launch} {g : GT} (hl : l.stackTraces = false) {A : Hp} {x0 : Nat} {x1 : Int32} {r : Int32} {B : Hp} (h : f_X4_expire A x0 x1 = some (r, B)) : MetV l g yX4_expire (.code yX4_expire cX4_expire 2 (some .int)) [.inr (.inr x0), .inl x1] A (.inl (some (.inl r))) B 1 23 0 0 := by
  refine MetV.ofV hl (by decide +kernel) (Nat.le_of_ble_eq_true rfl) (fun κ K E => ?_)
  have K : Cx κ cX4_expire 2 RX4 1 23 0 0 := K
  have E : Ed κ (some .int) "expire" (.inl (some (.inl r))) B 0 0 := E
  unfold f_X4_expire at h
  change Vw κ A 0 0 0 [(0, .inr (.inr x0)), (1, .inl x1)] []
  refine Vw.aload_n (pc := 0) (x := x0) K dX4_expire_0 rfl ?_
  refine Vw.iload_n (pc := 1) (x := x1) K dX4_expire_1 rfl ?_
  obtain ⟨g1, h⟩ := wgd h
  obtain ⟨A3, e2, h⟩ := wbd h
  refine Vw.cV0 (pc := 2) (c' := 0) (n' := 0) K (s_X4_drop K.tr e2) cal_X4_drop cls2 u_2_205 g1 rfl ⟨by decide, by decide⟩ ⟨by decide, by decide⟩ rfl (Nat.le_of_ble_eq_true rfl) dX4_expire_2 rfl rfl ?_
  refine Vw.aload_n (pc := 5) (x := x0) K dX4_expire_5 rfl ?_
  obtain ⟨g4, h⟩ := wgd h
  refine Vw.getR (pc := 6) (k := 9) (f := 137) K cls2 rfl rfl u_2_21 g4 dX4_expire_6 ?_
  refine Vw.iconst (pc := 9) (v := (2 : Int32)) K (by decide) dX4_expire_9 ?_
  refine Vw.dup2 (pc := 10) K rfl rfl dX4_expire_10 ?_
  obtain ⟨g5, h⟩ := wgd h
  obtain ⟨g6, h⟩ := wgd h
  refine Vw.iaload (pc := 11) K g5 g6 dX4_expire_11 ?_
  refine Vw.iconst (pc := 12) (v := (1 : Int32)) K (by decide) dX4_expire_12 ?_
  refine Vw.iadd (pc := 13) K dX4_expire_13 ?_
  refine Vw.iastore (pc := 14) K g5 g6 dX4_expire_14 ?_
  refine Vw.iconst (pc := 15) (v := (3 : Int32)) K (by decide) dX4_expire_15 ?_
  exact Vw.iretH (pc := 16) K h E (by decide) (by decide) dX4_expire_16
theorem cal_X4_expire : wCalV RX4 yX4_expire (.code yX4_expire cX4_expire 2 (some .int)) 1 := ⟨by decide +kernel, u_4_196, us_2_7, u_1_5, u_4_197⟩
def f_X4_ignore (A : Hp) (x0 : Nat) : Option (Int32 × Hp) := if (hsh A x0).1 = 3 then if (hsh A (hgR A 137 x0 0)).1 = 10 then if wix (6 : Int32) (hsh A (hgR A 137 x0 0)).2 then some ((0 : Int32), (hsI A 1034 (hgR A 137 x0 0) (6 : Int32).toNatClampNeg ((hgI A 1034 (hgR A 137 x0 0) (6 : Int32).toNatClampNeg) + (1 : Int32)))) else none else none else none
set_option maxRecDepth 100000 in
theorem s_X4_ignore {l : Launch} {g : GT} (hl : l.stackTraces = false) {A : Hp} {x0 : Nat} {r : Int32} {B : Hp} (h : f_X4_ignore A x0 = some (r, B)) : MetV l g yX4_ignore (.code yX4_ignore cX4_ignore 1 (some .int)) [.inr (.inr x0)] A (.inl (some (.inl r))) B 0 0 0 0 := by
  refine MetV.ofV hl (by decide +kernel) (Nat.le_of_ble_eq_true rfl) (fun κ K E => ?_)
  have K : Cx κ cX4_ignore 1 RX4 0 0 0 0 := K
  have E : Ed κ (some .int) "ignore" (.inl (some (.inl r))) B 0 0 := E
  unfold f_X4_ignore at h
  change Vw κ A 0 0 0 [(0, .inr (.inr x0))] []
  refine Vw.aload_n (pc := 0) (x := x0) K dX4_ignore_0 rfl ?_
  obtain ⟨g1, h⟩ := wgd h
  refine Vw.getR (pc := 1) (k := 9) (f := 137) K cls2 rfl rfl u_2_21 g1 dX4_ignore_1 ?_
  refine Vw.bipush (pc := 4) (v := (6 : Int32)) K (by decide) dX4_ignore_4 ?_
  refine Vw.dup2 (pc := 6) K rfl rfl dX4_ignore_6 ?_
  obtain ⟨g2, h⟩ := wgd h
  obtain ⟨g3, h⟩ := wgd h
  refine Vw.iaload (pc := 7) K g2 g3 dX4_ignore_7 ?_
  refine Vw.iconst (pc := 8) (v := (1 : Int32)) K (by decide) dX4_ignore_8 ?_
  refine Vw.iadd (pc := 9) K dX4_ignore_9 ?_
  refine Vw.iastore (pc := 10) K g2 g3 dX4_ignore_10 ?_
  refine Vw.iconst (pc := 11) (v := (0 : Int32)) K (by decide) dX4_ignore_11 ?_
  exact Vw.iretH (pc := 12) K h E (by decide) (by decide) dX4_ignore_12
theorem cal_X4_ignore : wCalV RX4 yX4_ignore (.code yX4_ignore cX4_ignore 1 (some .int)) 0 := ⟨by decide +kernel, u_4_200, us_2_8, u_1_5, u_4_201⟩
def f_X4_replace (A : Hp) (x0 : Nat) (x1 : Int32) : Option (Int32 × Hp) := if (hsh A x0).1 = 3 then if (hsh A (hgR A 128 x0 0)).1 = 13 then if wix x1 (hsh A (hgR A 128 x0 0)).2 then if (hsh A (hgR A 1037 (hgR A 128 x0 0) x1.toNatClampNeg)).1 = 2 then if (hsh A (hgR A 130 x0 0)).1 = 2 then if (hsh (hsI A 71 (hgR A 130 x0 0) 0 (hgI A 71 (hgR A 1037 (hgR A 128 x0 0) x1.toNatClampNeg) 0)) (hgR (hsI A 71 (hgR A 130 x0 0) 0 (hgI A 71 (hgR A 1037 (hgR A 128 x0 0) x1.toNatClampNeg) 0)) 128 x0 0)).1 = 13 then if wix x1 (hsh (hsI A 71 (hgR A 130 x0 0) 0 (hgI A 71 (hgR A 1037 (hgR A 128 x0 0) x1.toNatClampNeg) 0)) (hgR (hsI A 71 (hgR A 130 x0 0) 0 (hgI A 71 (hgR A 1037 (hgR A 128 x0 0) x1.toNatClampNeg) 0)) 128 x0 0)).2 then if (hsh (hsI A 71 (hgR A 130 x0 0) 0 (hgI A 71 (hgR A 1037 (hgR A 128 x0 0) x1.toNatClampNeg) 0)) (hgR (hsI A 71 (hgR A 130 x0 0) 0 (hgI A 71 (hgR A 1037 (hgR A 128 x0 0) x1.toNatClampNeg) 0)) 1037 (hgR (hsI A 71 (hgR A 130 x0 0) 0 (hgI A 71 (hgR A 1037 (hgR A 128 x0 0) x1.toNatClampNeg) 0)) 128 x0 0) x1.toNatClampNeg)).1 = 2 then if (hsh (hsI A 71 (hgR A 130 x0 0) 0 (hgI A 71 (hgR A 1037 (hgR A 128 x0 0) x1.toNatClampNeg) 0)) (hgR (hsI A 71 (hgR A 130 x0 0) 0 (hgI A 71 (hgR A 1037 (hgR A 128 x0 0) x1.toNatClampNeg) 0)) 130 x0 0)).1 = 2 then if (hsh (hsL (hsI A 71 (hgR A 130 x0 0) 0 (hgI A 71 (hgR A 1037 (hgR A 128 x0 0) x1.toNatClampNeg) 0)) 69 (hgR (hsI A 71 (hgR A 130 x0 0) 0 (hgI A 71 (hgR A 1037 (hgR A 128 x0 0) x1.toNatClampNeg) 0)) 130 x0 0) 0 (hgL (hsI A 71 (hgR A 130 x0 0) 0 (hgI A 71 (hgR A 1037 (hgR A 128 x0 0) x1.toNatClampNeg) 0)) 69 (hgR (hsI A 71 (hgR A 130 x0 0) 0 (hgI A 71 (hgR A 1037 (hgR A 128 x0 0) x1.toNatClampNeg) 0)) 1037 (hgR (hsI A 71 (hgR A 130 x0 0) 0 (hgI A 71 (hgR A 1037 (hgR A 128 x0 0) x1.toNatClampNeg) 0)) 128 x0 0) x1.toNatClampNeg) 0)) (hgR (hsL (hsI A 71 (hgR A 130 x0 0) 0 (hgI A 71 (hgR A 1037 (hgR A 128 x0 0) x1.toNatClampNeg) 0)) 69 (hgR (hsI A 71 (hgR A 130 x0 0) 0 (hgI A 71 (hgR A 1037 (hgR A 128 x0 0) x1.toNatClampNeg) 0)) 130 x0 0) 0 (hgL (hsI A 71 (hgR A 130 x0 0) 0 (hgI A 71 (hgR A 1037 (hgR A 128 x0 0) x1.toNatClampNeg) 0)) 69 (hgR (hsI A 71 (hgR A 130 x0 0) 0 (hgI A 71 (hgR A 1037 (hgR A 128 x0 0) x1.toNatClampNeg) 0)) 1037 (hgR (hsI A 71 (hgR A 130 x0 0) 0 (hgI A 71 (hgR A 1037 (hgR A 128 x0 0) x1.toNatClampNeg) 0)) 128 x0 0) x1.toNatClampNeg) 0)) 128 x0 0)).1 = 13 then if wix x1 (hsh (hsL (hsI A 71 (hgR A 130 x0 0) 0 (hgI A 71 (hgR A 1037 (hgR A 128 x0 0) x1.toNatClampNeg) 0)) 69 (hgR (hsI A 71 (hgR A 130 x0 0) 0 (hgI A 71 (hgR A 1037 (hgR A 128 x0 0) x1.toNatClampNeg) 0)) 130 x0 0) 0 (hgL (hsI A 71 (hgR A 130 x0 0) 0 (hgI A 71 (hgR A 1037 (hgR A 128 x0 0) x1.toNatClampNeg) 0)) 69 (hgR (hsI A 71 (hgR A 130 x0 0) 0 (hgI A 71 (hgR A 1037 (hgR A 128 x0 0) x1.toNatClampNeg) 0)) 1037 (hgR (hsI A 71 (hgR A 130 x0 0) 0 (hgI A 71 (hgR A 1037 (hgR A 128 x0 0) x1.toNatClampNeg) 0)) 128 x0 0) x1.toNatClampNeg) 0)) (hgR (hsL (hsI A 71 (hgR A 130 x0 0) 0 (hgI A 71 (hgR A 1037 (hgR A 128 x0 0) x1.toNatClampNeg) 0)) 69 (hgR (hsI A 71 (hgR A 130 x0 0) 0 (hgI A 71 (hgR A 1037 (hgR A 128 x0 0) x1.toNatClampNeg) 0)) 130 x0 0) 0 (hgL (hsI A 71 (hgR A 130 x0 0) 0 (hgI A 71 (hgR A 1037 (hgR A 128 x0 0) x1.toNatClampNeg) 0)) 69 (hgR (hsI A 71 (hgR A 130 x0 0) 0 (hgI A 71 (hgR A 1037 (hgR A 128 x0 0) x1.toNatClampNeg) 0)) 1037 (hgR (hsI A 71 (hgR A 130 x0 0) 0 (hgI A 71 (hgR A 1037 (hgR A 128 x0 0) x1.toNatClampNeg) 0)) 128 x0 0) x1.toNatClampNeg) 0)) 128 x0 0)).2 then if (hsh (hsL (hsI A 71 (hgR A 130 x0 0) 0 (hgI A 71 (hgR A 1037 (hgR A 128 x0 0) x1.toNatClampNeg) 0)) 69 (hgR (hsI A 71 (hgR A 130 x0 0) 0 (hgI A 71 (hgR A 1037 (hgR A 128 x0 0) x1.toNatClampNeg) 0)) 130 x0 0) 0 (hgL (hsI A 71 (hgR A 130 x0 0) 0 (hgI A 71 (hgR A 1037 (hgR A 128 x0 0) x1.toNatClampNeg) 0)) 69 (hgR (hsI A 71 (hgR A 130 x0 0) 0 (hgI A 71 (hgR A 1037 (hgR A 128 x0 0) x1.toNatClampNeg) 0)) 1037 (hgR (hsI A 71 (hgR A 130 x0 0) 0 (hgI A 71 (hgR A 1037 (hgR A 128 x0 0) x1.toNatClampNeg) 0)) 128 x0 0) x1.toNatClampNeg) 0)) (hgR (hsL (hsI A 71 (hgR A 130 x0 0) 0 (hgI A 71 (hgR A 1037 (hgR A 128 x0 0) x1.toNatClampNeg) 0)) 69 (hgR (hsI A 71 (hgR A 130 x0 0) 0 (hgI A 71 (hgR A 1037 (hgR A 128 x0 0) x1.toNatClampNeg) 0)) 130 x0 0) 0 (hgL (hsI A 71 (hgR A 130 x0 0) 0 (hgI A 71 (hgR A 1037 (hgR A 128 x0 0) x1.toNatClampNeg) 0)) 69 (hgR (hsI A 71 (hgR A 130 x0 0) 0 (hgI A 71 (hgR A 1037 (hgR A 128 x0 0) x1.toNatClampNeg) 0)) 1037 (hgR (hsI A 71 (hgR A 130 x0 0) 0 (hgI A 71 (hgR A 1037 (hgR A 128 x0 0) x1.toNatClampNeg) 0)) 128 x0 0) x1.toNatClampNeg) 0)) 1037 (hgR (hsL (hsI A 71 (hgR A 130 x0 0) 0 (hgI A 71 (hgR A 1037 (hgR A 128 x0 0) x1.toNatClampNeg) 0)) 69 (hgR (hsI A 71 (hgR A 130 x0 0) 0 (hgI A 71 (hgR A 1037 (hgR A 128 x0 0) x1.toNatClampNeg) 0)) 130 x0 0) 0 (hgL (hsI A 71 (hgR A 130 x0 0) 0 (hgI A 71 (hgR A 1037 (hgR A 128 x0 0) x1.toNatClampNeg) 0)) 69 (hgR (hsI A 71 (hgR A 130 x0 0) 0 (hgI A 71 (hgR A 1037 (hgR A 128 x0 0) x1.toNatClampNeg) 0)) 1037 (hgR (hsI A 71 (hgR A 130 x0 0) 0 (hgI A 71 (hgR A 1037 (hgR A 128 x0 0) x1.toNatClampNeg) 0)) 128 x0 0) x1.toNatClampNeg) 0)) 128 x0 0) x1.toNatClampNeg)).1 = 2 then ((f_X1_become (hsL (hsI A 71 (hgR A 130 x0 0) 0 (hgI A 71 (hgR A 1037 (hgR A 128 x0 0) x1.toNatClampNeg) 0)) 69 (hgR (hsI A 71 (hgR A 130 x0 0) 0 (hgI A 71 (hgR A 1037 (hgR A 128 x0 0) x1.toNatClampNeg) 0)) 130 x0 0) 0 (hgL (hsI A 71 (hgR A 130 x0 0) 0 (hgI A 71 (hgR A 1037 (hgR A 128 x0 0) x1.toNatClampNeg) 0)) 69 (hgR (hsI A 71 (hgR A 130 x0 0) 0 (hgI A 71 (hgR A 1037 (hgR A 128 x0 0) x1.toNatClampNeg) 0)) 1037 (hgR (hsI A 71 (hgR A 130 x0 0) 0 (hgI A 71 (hgR A 1037 (hgR A 128 x0 0) x1.toNatClampNeg) 0)) 128 x0 0) x1.toNatClampNeg) 0)) (hgR (hsL (hsI A 71 (hgR A 130 x0 0) 0 (hgI A 71 (hgR A 1037 (hgR A 128 x0 0) x1.toNatClampNeg) 0)) 69 (hgR (hsI A 71 (hgR A 130 x0 0) 0 (hgI A 71 (hgR A 1037 (hgR A 128 x0 0) x1.toNatClampNeg) 0)) 130 x0 0) 0 (hgL (hsI A 71 (hgR A 130 x0 0) 0 (hgI A 71 (hgR A 1037 (hgR A 128 x0 0) x1.toNatClampNeg) 0)) 69 (hgR (hsI A 71 (hgR A 130 x0 0) 0 (hgI A 71 (hgR A 1037 (hgR A 128 x0 0) x1.toNatClampNeg) 0)) 1037 (hgR (hsI A 71 (hgR A 130 x0 0) 0 (hgI A 71 (hgR A 1037 (hgR A 128 x0 0) x1.toNatClampNeg) 0)) 128 x0 0) x1.toNatClampNeg) 0)) 1037 (hgR (hsL (hsI A 71 (hgR A 130 x0 0) 0 (hgI A 71 (hgR A 1037 (hgR A 128 x0 0) x1.toNatClampNeg) 0)) 69 (hgR (hsI A 71 (hgR A 130 x0 0) 0 (hgI A 71 (hgR A 1037 (hgR A 128 x0 0) x1.toNatClampNeg) 0)) 130 x0 0) 0 (hgL (hsI A 71 (hgR A 130 x0 0) 0 (hgI A 71 (hgR A 1037 (hgR A 128 x0 0) x1.toNatClampNeg) 0)) 69 (hgR (hsI A 71 (hgR A 130 x0 0) 0 (hgI A 71 (hgR A 1037 (hgR A 128 x0 0) x1.toNatClampNeg) 0)) 1037 (hgR (hsI A 71 (hgR A 130 x0 0) 0 (hgI A 71 (hgR A 1037 (hgR A 128 x0 0) x1.toNatClampNeg) 0)) 128 x0 0) x1.toNatClampNeg) 0)) 128 x0 0) x1.toNatClampNeg) (hgR (hsL (hsI A 71 (hgR A 130 x0 0) 0 (hgI A 71 (hgR A 1037 (hgR A 128 x0 0) x1.toNatClampNeg) 0)) 69 (hgR (hsI A 71 (hgR A 130 x0 0) 0 (hgI A 71 (hgR A 1037 (hgR A 128 x0 0) x1.toNatClampNeg) 0)) 130 x0 0) 0 (hgL (hsI A 71 (hgR A 130 x0 0) 0 (hgI A 71 (hgR A 1037 (hgR A 128 x0 0) x1.toNatClampNeg) 0)) 69 (hgR (hsI A 71 (hgR A 130 x0 0) 0 (hgI A 71 (hgR A 1037 (hgR A 128 x0 0) x1.toNatClampNeg) 0)) 1037 (hgR (hsI A 71 (hgR A 130 x0 0) 0 (hgI A 71 (hgR A 1037 (hgR A 128 x0 0) x1.toNatClampNeg) 0)) 128 x0 0) x1.toNatClampNeg) 0)) 130 x0 0)).bind fun A14 => if (hsh A14 x0).1 = 3 then if (hsh A14 (hgR A14 137 x0 0)).1 = 10 then if wix (1 : Int32) (hsh A14 (hgR A14 137 x0 0)).2 then some ((2 : Int32), (hsI A14 1034 (hgR A14 137 x0 0) (1 : Int32).toNatClampNeg ((hgI A14 1034 (hgR A14 137 x0 0) (1 : Int32).toNatClampNeg) + (1 : Int32)))) else none else none else none) else none else none else none else none else none else none else none else none else none else none else none else none
set_option maxRecDepth 100000 in
theorem s_X4_replace {l : Launch} {g : GT} (hl : l.stackTraces = false) {A : Hp} {x0 : Nat} {x1 : Int32} {r : Int32} {B : Hp} (h : f_X4_replace A x0 x1 = some (r, B)) : MetV l g yX4_replace (.code yX4_replace cX4_replace 2 (some .int)) [.inr (.inr x0), .inl x1] A (.inl (some (.inl r))) B 4 90 0 0 := by
  refine MetV.ofV hl (by decide +kernel) (Nat.le_of_ble_eq_true rfl) (fun κ K E => ?_)
  have K : Cx κ cX4_replace 2 RX4 4 90 0 0 := K
  have E : Ed κ (some .int) "replace" (.inl (some (.inl r))) B 0 0 := E
  unfold f_X4_replace at h
  change Vw κ A 0 0 0 [(0, .inr (.inr x0)), (1, .inl x1)] []
  refine Vw.aload_n (pc := 0) (x := x0) K dX4_replace_0 rfl ?_
  obtain ⟨g1, h⟩ := wgd h
  refine Vw.getR (pc := 1) (k := 2) (f := 130) K cls2 rfl rfl u_2_9 g1 dX4_replace_1 ?_
  refine Vw.aload_n (pc := 4) (x := x0) K dX4_replace_4 rfl ?_
  refine Vw.getR (pc := 5) (k := 0) (f := 128) K cls2 rfl rfl u_2_5 g1 dX4_replace_5 ?_
  refine Vw.iload_n (pc := 8) (x := x1) K dX4_replace_8 rfl ?_
  obtain ⟨g2, h⟩ := wgd h
  obtain ⟨g3, h⟩ := wgd h
  refine Vw.aaloadC (pc := 9) K g2 g3 dX4_replace_9 ?_
  obtain ⟨g4, h⟩ := wgd h
  refine Vw.getI (pc := 10) (k := 7) (f := 71) K cls1 rfl rfl u_1_154 g4 dX4_replace_10 ?_
  obtain ⟨g5, h⟩ := wgd h
  refine Vw.putI (pc := 13) (k := 7) (f := 71) K cls1 rfl rfl u_1_154 g5 (Or.inl rfl) rfl rfl dX4_replace_13 ?_
  refine Vw.aload_n (pc := 16) (x := x0) K dX4_replace_16 rfl ?_
  refine Vw.getR (pc := 17) (k := 2) (f := 130) K cls2 rfl rfl u_2_9 g1 dX4_replace_17 ?_
  refine Vw.aload_n (pc := 20) (x := x0) K dX4_replace_20 rfl ?_
  refine Vw.getR (pc := 21) (k := 0) (f := 128) K cls2 rfl rfl u_2_5 g1 dX4_replace_21 ?_
  refine Vw.iload_n (pc := 24) (x := x1) K dX4_replace_24 rfl ?_
  obtain ⟨g6, h⟩ := wgd h
  obtain ⟨g7, h⟩ := wgd h
  refine Vw.aaloadC (pc := 25) K g6 g7 dX4_replace_25 ?_
  obtain ⟨g8, h⟩ := wgd h
  refine Vw.getL (pc := 26) (k := 5) (f := 69) K cls1 rfl rfl u_1_148 g8 dX4_replace_26 ?_
  obtain ⟨g9, h⟩ := wgd h
  refine Vw.putL (pc := 29) (k := 5) (f := 69) K cls1 rfl rfl u_1_148 g9 (Or.inl rfl) rfl rfl dX4_replace_29 ?_
  refine Vw.aload_n (pc := 32) (x := x0) K dX4_replace_32 rfl ?_
  refine Vw.getR (pc := 33) (k := 0) (f := 128) K cls2 rfl rfl u_2_5 g1 dX4_replace_33 ?_
  refine Vw.iload_n (pc := 36) (x := x1) K dX4_replace_36 rfl ?_
  obtain ⟨g10, h⟩ := wgd h
  obtain ⟨g11, h⟩ := wgd h
  refine Vw.aaloadC (pc := 37) K g10 g11 dX4_replace_37 ?_
  refine Vw.aload_n (pc := 38) (x := x0) K dX4_replace_38 rfl ?_
  refine Vw.getR (pc := 39) (k := 2) (f := 130) K cls2 rfl rfl u_2_9 g1 dX4_replace_39 ?_
  obtain ⟨g12, h⟩ := wgd h
  obtain ⟨A14, e13, h⟩ := wbd h
  refine Vw.cV0 (pc := 42) (c' := 0) (n' := 0) K (s_X1_become K.tr e13) cal_X1_become cls1 u_4_206 g12 rfl ⟨by decide, by decide⟩ ⟨by decide, by decide⟩ rfl (Nat.le_of_ble_eq_true rfl) dX4_replace_42 rfl rfl ?_
  refine Vw.aload_n (pc := 45) (x := x0) K dX4_replace_45 rfl ?_
  obtain ⟨g15, h⟩ := wgd h
  refine Vw.getR (pc := 46) (k := 9) (f := 137) K cls2 rfl rfl u_2_21 g15 dX4_replace_46 ?_
  refine Vw.iconst (pc := 49) (v := (1 : Int32)) K (by decide) dX4_replace_49 ?_
  refine Vw.dup2 (pc := 50) K rfl rfl dX4_replace_50 ?_
  obtain ⟨g16, h⟩ := wgd h
  obtain ⟨g17, h⟩ := wgd h
  refine Vw.iaload (pc := 51) K g16 g17 dX4_replace_51 ?_
  refine Vw.iconst (pc := 52) (v := (1 : Int32)) K (by decide) dX4_replace_52 ?_
  refine Vw.iadd (pc := 53) K dX4_replace_53 ?_
  refine Vw.iastore (pc := 54) K g16 g17 dX4_replace_54 ?_
  refine Vw.iconst (pc := 55) (v := (2 : Int32)) K (by decide) dX4_replace_55 ?_
  exact Vw.iretH (pc := 56) K h E (by decide) (by decide) dX4_replace_56
theorem cal_X4_replace : wCalV RX4 yX4_replace (.code yX4_replace cX4_replace 2 (some .int)) 1 := ⟨by decide +kernel, u_4_204, us_2_9, u_1_5, u_4_205⟩
def k_X4_create_34s  (x0 : Nat) (x1 : Int32) (x2 : Nat)  (rec34 : Hp → Int32 → Option (Int32 × Hp)) (A : Hp) (x3 : Int32) : Option (Int32 × Hp) := (if x3 ≤ x1 then if (hsh A x0).1 = 3 then if (hsh A (hgR A 128 x0 0)).1 = 13 then if (hsh A x2).1 = 2 then if wix x1 (hsh A (hgR A 128 x0 0)).2 then ((f_X1_become (hsI (hsR A 1037 (hgR A 128 x0 0) x1.toNatClampNeg x2) 129 x0 0 ((hgI (hsR A 1037 (hgR A 128 x0 0) x1.toNatClampNeg x2) 129 x0 0) + (1 : Int32))) x2 (hgR (hsI (hsR A 1037 (hgR A 128 x0 0) x1.toNatClampNeg x2) 129 x0 0 ((hgI (hsR A 1037 (hgR A 128 x0 0) x1.toNatClampNeg x2) 129 x0 0) + (1 : Int32))) 130 x0 0)).bind fun A7 => if (hsh A7 x0).1 = 3 then if (hsh A7 (hgR A7 137 x0 0)).1 = 10 then if wix (0 : Int32) (hsh A7 (hgR A7 137 x0 0)).2 then some ((1 : Int32), (hsI A7 1034 (hgR A7 137 x0 0) (0 : Int32).toNatClampNeg ((hgI A7 1034 (hgR A7 137 x0 0) (0 : Int32).toNatClampNeg) + (1 : Int32)))) else none else none else none) else none else none else none else none else if (hsh A x0).1 = 3 then if (hsh A (hgR A 128 x0 0)).1 = 13 then if wix (x3 - (1 : Int32)) (hsh A (hgR A 128 x0 0)).2 then if (hsh A (hgR A 1037 (hgR A 128 x0 0) (x3 - (1 : Int32)).toNatClampNeg)).1 = 2 then if wix x3 (hsh A (hgR A 128 x0 0)).2 then rec34 (hsR A 1037 (hgR A 128 x0 0) x3.toNatClampNeg (hgR A 1037 (hgR A 128 x0 0) (x3 - (1 : Int32)).toNatClampNeg)) (x3 + (-1 : Int32)) else none else none else none else none else none)
def k_X4_create_34  (x0 : Nat) (x1 : Int32) (x2 : Nat)  : Nat → Hp → Int32 → Option (Int32 × Hp)
  | 0 => fun _ _ => none
  | fu + 1 => k_X4_create_34s x0 x1 x2  (k_X4_create_34 x0 x1 x2  fu)
set_option maxRecDepth 100000 in
theorem s_X4_create_34 {κ : KT} {r : Int32} {B : Hp}  {x0 : Nat} {x1 : Int32} {x2 : Nat}  (K : Cx κ cX4_create 4 RX4 4 90 0 0) (E : Ed κ (some .int) "create" (.inl (some (.inl r))) B 0 0)  : ∀ (fu : Nat) (A : Hp) (x3 : Int32),  k_X4_create_34 x0 x1 x2  fu A x3 = some (r, B) → Vw κ A 0 0 34 [(0, .inr (.inr x0)), (1, .inl x1), (2, .inr (.inr x2)), (3, .inl x3)] [] := by
  intro fu
  induction fu with
  | zero => intro A x3 h; cases h
  | succ fu hr34 =>
    intro A x3 h
    have h : k_X4_create_34s x0 x1 x2  (k_X4_create_34 x0 x1 x2  fu) A x3 = some (r, B) := h
    unfold k_X4_create_34s at h
    refine Vw.iload_n (pc := 34) (x := x3) K dX4_create_34 rfl ?_
    refine Vw.iload_n (pc := 35) (x := x1) K dX4_create_35 rfl ?_
    refine Vw.icmp_le (pc := 36) (tgt := 59) K dX4_create_36 (by decide) (fun c1 => ?_) (fun c1 => ?_)
    · have h := wpos c1 h
      refine Vw.aload_n (pc := 59) (x := x0) K dX4_create_59 rfl ?_
      obtain ⟨g2, h⟩ := wgd h
      refine Vw.getR (pc := 60) (k := 0) (f := 128) K cls2 rfl rfl u_2_5 g2 dX4_create_60 ?_
      refine Vw.iload_n (pc := 63) (x := x1) K dX4_create_63 rfl ?_
      refine Vw.aload_n (pc := 64) (x := x2) K dX4_create_64 rfl ?_
      obtain ⟨g3, h⟩ := wgd h
      obtain ⟨g4, h⟩ := wgd h
      obtain ⟨g5, h⟩ := wgd h
      refine Vw.aastoreC (pc := 65) K g3 g4 g5 dX4_create_65 ?_
      refine Vw.aload_n (pc := 66) (x := x0) K dX4_create_66 rfl ?_
      refine Vw.dup (pc := 67) K rfl dX4_create_67 ?_
      refine Vw.getI (pc := 68) (k := 1) (f := 129) K cls2 rfl rfl u_2_7 g2 dX4_create_68 ?_
      refine Vw.iconst (pc := 71) (v := (1 : Int32)) K (by decide) dX4_create_71 ?_
      refine Vw.iadd (pc := 72) K dX4_create_72 ?_
      refine Vw.putI (pc := 73) (k := 1) (f := 129) K cls2 rfl rfl u_2_7 g2 (Or.inl rfl) rfl rfl dX4_create_73 ?_
      refine Vw.aload_n (pc := 76) (x := x2) K dX4_create_76 rfl ?_
      refine Vw.aload_n (pc := 77) (x := x0) K dX4_create_77 rfl ?_
      refine Vw.getR (pc := 78) (k := 2) (f := 130) K cls2 rfl rfl u_2_9 g2 dX4_create_78 ?_
      obtain ⟨A7, e6, h⟩ := wbd h
      refine Vw.cV0 (pc := 81) (c' := 0) (n' := 0) K (s_X1_become K.tr e6) cal_X1_become cls1 u_4_206 g4 rfl ⟨by decide, by decide⟩ ⟨by decide, by decide⟩ rfl (Nat.le_of_ble_eq_true rfl) dX4_create_81 rfl rfl ?_
      refine Vw.aload_n (pc := 84) (x := x0) K dX4_create_84 rfl ?_
      obtain ⟨g8, h⟩ := wgd h
      refine Vw.getR (pc := 85) (k := 9) (f := 137) K cls2 rfl rfl u_2_21 g8 dX4_create_85 ?_
      refine Vw.iconst (pc := 88) (v := (0 : Int32)) K (by decide) dX4_create_88 ?_
      refine Vw.dup2 (pc := 89) K rfl rfl dX4_create_89 ?_
      obtain ⟨g9, h⟩ := wgd h
      obtain ⟨g10, h⟩ := wgd h
      refine Vw.iaload (pc := 90) K g9 g10 dX4_create_90 ?_
      refine Vw.iconst (pc := 91) (v := (1 : Int32)) K (by decide) dX4_create_91 ?_
      refine Vw.iadd (pc := 92) K dX4_create_92 ?_
      refine Vw.iastore (pc := 93) K g9 g10 dX4_create_93 ?_
      refine Vw.iconst (pc := 94) (v := (1 : Int32)) K (by decide) dX4_create_94 ?_
      exact Vw.iretH (pc := 95) K h E (by decide) (by decide) dX4_create_95
    · have h := wneg c1 h
      refine Vw.aload_n (pc := 39) (x := x0) K dX4_create_39 rfl ?_
      obtain ⟨g11, h⟩ := wgd h
      refine Vw.getR (pc := 40) (k := 0) (f := 128) K cls2 rfl rfl u_2_5 g11 dX4_create_40 ?_
      refine Vw.iload_n (pc := 43) (x := x3) K dX4_create_43 rfl ?_
      refine Vw.aload_n (pc := 44) (x := x0) K dX4_create_44 rfl ?_
      refine Vw.getR (pc := 45) (k := 0) (f := 128) K cls2 rfl rfl u_2_5 g11 dX4_create_45 ?_
      refine Vw.iload_n (pc := 48) (x := x3) K dX4_create_48 rfl ?_
      refine Vw.iconst (pc := 49) (v := (1 : Int32)) K (by decide) dX4_create_49 ?_
      refine Vw.isub (pc := 50) K dX4_create_50 ?_
      obtain ⟨g12, h⟩ := wgd h
      obtain ⟨g13, h⟩ := wgd h
      refine Vw.aaloadC (pc := 51) K g12 g13 dX4_create_51 ?_
      obtain ⟨g14, h⟩ := wgd h
      obtain ⟨g15, h⟩ := wgd h
      refine Vw.aastoreC (pc := 52) K g12 g14 g15 dX4_create_52 ?_
      refine Vw.iinc (pc := 53) (x := x3) (v := (-1 : Int32)) K dX4_create_53 rfl (by decide) (by decide) ?_
      refine Vw.goto (pc := 56) (tgt := 34) K dX4_create_56 (by decide) ?_
      exact Vw.loc rfl (hr34 _ _ h)
def f_X4_create (A : Hp) (x0 : Nat) (x1 : Int32) : Option (Int32 × Hp) := if (hsh A x0).1 = 3 then (if (41 : Int32) ≤ (hgI A 129 x0 0) then some ((0 : Int32), A) else (if x1 ≤ (hgI A 129 x0 0) then if (hsh A (hgR A 128 x0 0)).1 = 13 then if wix (hgI A 129 x0 0) (hsh A (hgR A 128 x0 0)).2 then k_X4_create_34 x0 x1 (hgR A 1037 (hgR A 128 x0 0) (hgI A 129 x0 0).toNatClampNeg) FU A (hgI A 129 x0 0) else none else none else some ((0 : Int32), A))) else none
set_option maxRecDepth 100000 in
theorem s_X4_create {l : Launch} {g : GT} (hl : l.stackTraces = false) {A : Hp} {x0 : Nat} {x1 : Int32} {r : Int32} {B : Hp} (h : f_X4_create A x0 x1 = some (r, B)) : MetV l g yX4_create (.code yX4_create cX4_create 4 (some .int)) [.inr (.inr x0), .inl x1] A (.inl (some (.inl r))) B 4 90 0 0 := by
  refine MetV.ofV hl (by decide +kernel) (Nat.le_of_ble_eq_true rfl) (fun κ K E => ?_)
  have K : Cx κ cX4_create 4 RX4 4 90 0 0 := K
  have E : Ed κ (some .int) "create" (.inl (some (.inl r))) B 0 0 := E
  unfold f_X4_create at h
  change Vw κ A 0 0 0 [(0, .inr (.inr x0)), (1, .inl x1)] []
  refine Vw.aload_n (pc := 0) (x := x0) K dX4_create_0 rfl ?_
  obtain ⟨g16, h⟩ := wgd h
  refine Vw.getI (pc := 1) (k := 1) (f := 129) K cls2 rfl rfl u_2_7 g16 dX4_create_1 ?_
  refine Vw.bipush (pc := 4) (v := (41 : Int32)) K (by decide) dX4_create_4 ?_
  refine Vw.icmp_ge (pc := 6) (tgt := 17) K dX4_create_6 (by decide) (fun c17 => ?_) (fun c17 => ?_)
  · have h := wpos c17 h
    refine Vw.iconst (pc := 17) (v := (0 : Int32)) K (by decide) dX4_create_17 ?_
    exact Vw.iretH (pc := 18) K h E (by decide) (by decide) dX4_create_18
  · have h := wneg c17 h
    refine Vw.iload_n (pc := 9) (x := x1) K dX4_create_9 rfl ?_
    refine Vw.aload_n (pc := 10) (x := x0) K dX4_create_10 rfl ?_
    refine Vw.getI (pc := 11) (k := 1) (f := 129) K cls2 rfl rfl u_2_7 g16 dX4_create_11 ?_
    refine Vw.icmp_le (pc := 14) (tgt := 19) K dX4_create_14 (by decide) (fun c18 => ?_) (fun c18 => ?_)
    · have h := wpos c18 h
      refine Vw.aload_n (pc := 19) (x := x0) K dX4_create_19 rfl ?_
      refine Vw.getR (pc := 20) (k := 0) (f := 128) K cls2 rfl rfl u_2_5 g16 dX4_create_20 ?_
      refine Vw.aload_n (pc := 23) (x := x0) K dX4_create_23 rfl ?_
      refine Vw.getI (pc := 24) (k := 1) (f := 129) K cls2 rfl rfl u_2_7 g16 dX4_create_24 ?_
      obtain ⟨g19, h⟩ := wgd h
      obtain ⟨g20, h⟩ := wgd h
      refine Vw.aaloadC (pc := 27) K g19 g20 dX4_create_27 ?_
      refine Vw.astore_n (pc := 28) K dX4_create_28 (by decide) ?_
      refine Vw.aload_n (pc := 29) (x := x0) K dX4_create_29 rfl ?_
      refine Vw.getI (pc := 30) (k := 1) (f := 129) K cls2 rfl rfl u_2_7 g16 dX4_create_30 ?_
      refine Vw.istore_n (pc := 33) K dX4_create_33 (by decide) ?_
      exact Vw.loc rfl (s_X4_create_34 K E  _ _ _ h)
    · have h := wneg c18 h
      refine Vw.iconst (pc := 17) (v := (0 : Int32)) K (by decide) dX4_create_17 ?_
      exact Vw.iretH (pc := 18) K h E (by decide) (by decide) dX4_create_18
theorem cal_X4_create : wCalV RX4 yX4_create (.code yX4_create cX4_create 4 (some .int)) 1 := ⟨by decide +kernel, u_4_213, us_2_10, u_1_5, u_4_214⟩
def k_X4_accept_99  (A : Hp) (x0 : Nat) (x1 : Nat) (x3 : Int32) (x4 : Int32)  : Option (Int32 × Hp) := if (hsh A x0).1 = 3 then (if (hgI A 139 x0 0) = (0 : Int32) then if (hsh A x1).1 = 4 then ((f_X5_isExpiredAt A x1 (hgL A 140 x0 0)).bind fun v5 => (if v5 = (0 : Int32) then (if x4 = (0 : Int32) then ((f_X4_create A x0 x3).bind fun p9 => some (p9.1, p9.2)) else ((f_X4_replace A x0 x3).bind fun p11 => some (p11.1, p11.2))) else (if x4 = (0 : Int32) then ((f_X4_ignore A x0).bind fun p14 => some (p14.1, p14.2)) else ((f_X4_expire A x0 x3).bind fun p16 => some (p16.1, p16.2))))) else none else ((f_X4_reject A x0).bind fun p18 => some (p18.1, p18.2))) else none
set_option maxRecDepth 100000 in
theorem s_X4_accept_99 {κ : KT} {r : Int32} {B : Hp} {A : Hp} {x0 : Nat} {x1 : Nat} {x3 : Int32} {x4 : Int32}   (K : Cx κ cX4_accept 5 RX4 7 150 0 0) (E : Ed κ (some .int) "accept" (.inl (some (.inl r))) B 0 0)  (h : k_X4_accept_99  A x0 x1 x3 x4  = some (r, B)) : Vw κ A 0 0 99 [(0, .inr (.inr x0)), (1, .inr (.inr x1)), (3, .inl x3), (4, .inl x4)] [] := by
  unfold k_X4_accept_99 at h
  refine Vw.aload_n (pc := 99) (x := x0) K dX4_accept_99 rfl ?_
  obtain ⟨g1, h⟩ := wgd h
  refine Vw.getI (pc := 100) (k := 11) (f := 139) K cls2 rfl rfl u_2_25 g1 dX4_accept_100 ?_
  refine Vw.if_eq (pc := 103) (tgt := 111) K dX4_accept_103 (by decide) (fun c2 => ?_) (fun c2 => ?_)
  · have h := wpos c2 h
    refine Vw.aload_n (pc := 111) (x := x1) K dX4_accept_111 rfl ?_
    refine Vw.aload_n (pc := 112) (x := x0) K dX4_accept_112 rfl ?_
    refine Vw.getL (pc := 113) (k := 12) (f := 140) K cls2 rfl rfl u_2_27 g1 dX4_accept_113 ?_
    obtain ⟨g3, h⟩ := wgd h
    obtain ⟨v5, e4, h⟩ := wbd h
    refine Vw.cV1 (pc := 116) (v := .inl v5) (c' := 0) (n' := 0) K (s_X5_isExpiredAt K.tr e4) cal_X5_isExpiredAt cls3 u_4_190 g3 rfl ⟨by decide, by decide⟩ ⟨by decide, by decide⟩ rfl (Nat.le_of_ble_eq_true rfl) dX4_accept_116 rfl rfl ?_
    refine Vw.if_eq (pc := 119) (tgt := 140) K dX4_accept_119 (by decide) (fun c6 => ?_) (fun c6 => ?_)
    · have h := wpos c6 h
      refine Vw.iload (pc := 140) (x := x4) K dX4_accept_140 rfl ?_
      refine Vw.if_eq (pc := 142) (tgt := 153) K dX4_accept_142 (by decide) (fun c7 => ?_) (fun c7 => ?_)
      · have h := wpos c7 h
        refine Vw.aload_n (pc := 153) (x := x0) K dX4_accept_153 rfl ?_
        refine Vw.iload_n (pc := 154) (x := x3) K dX4_accept_154 rfl ?_
        obtain ⟨p9, e8, h⟩ := wbd h
        refine Vw.cV1 (pc := 155) (v := .inl p9.1) (c' := 0) (n' := 0) K (s_X4_create K.tr e8) cal_X4_create cls2 u_4_211 g1 rfl ⟨by decide, by decide⟩ ⟨by decide, by decide⟩ rfl (Nat.le_of_ble_eq_true rfl) dX4_accept_155 rfl rfl ?_
        exact Vw.iretH (pc := 158) K h E (by decide) (by decide) dX4_accept_158
      · have h := wneg c7 h
        refine Vw.aload_n (pc := 145) (x := x0) K dX4_accept_145 rfl ?_
        refine Vw.iload_n (pc := 146) (x := x3) K dX4_accept_146 rfl ?_
        obtain ⟨p11, e10, h⟩ := wbd h
        refine Vw.cV1 (pc := 147) (v := .inl p11.1) (c' := 0) (n' := 0) K (s_X4_replace K.tr e10) cal_X4_replace cls2 u_4_202 g1 rfl ⟨by decide, by decide⟩ ⟨by decide, by decide⟩ rfl (Nat.le_of_ble_eq_true rfl) dX4_accept_147 rfl rfl ?_
        refine Vw.goto (pc := 150) (tgt := 158) K dX4_accept_150 (by decide) ?_
        exact Vw.iretH (pc := 158) K h E (by decide) (by decide) dX4_accept_158
    · have h := wneg c6 h
      refine Vw.iload (pc := 122) (x := x4) K dX4_accept_122 rfl ?_
      refine Vw.if_eq (pc := 124) (tgt := 135) K dX4_accept_124 (by decide) (fun c12 => ?_) (fun c12 => ?_)
      · have h := wpos c12 h
        refine Vw.aload_n (pc := 135) (x := x0) K dX4_accept_135 rfl ?_
        obtain ⟨p14, e13, h⟩ := wbd h
        refine Vw.cV1 (pc := 136) (v := .inl p14.1) (c' := 0) (n' := 0) K (s_X4_ignore K.tr e13) cal_X4_ignore cls2 u_4_198 g1 rfl ⟨by decide, by decide⟩ ⟨by decide, by decide⟩ rfl (Nat.le_of_ble_eq_true rfl) dX4_accept_136 rfl rfl ?_
        exact Vw.iretH (pc := 139) K h E (by decide) (by decide) dX4_accept_139
      · have h := wneg c12 h
        refine Vw.aload_n (pc := 127) (x := x0) K dX4_accept_127 rfl ?_
        refine Vw.iload_n (pc := 128) (x := x3) K dX4_accept_128 rfl ?_
        obtain ⟨p16, e15, h⟩ := wbd h
        refine Vw.cV1 (pc := 129) (v := .inl p16.1) (c' := 0) (n' := 0) K (s_X4_expire K.tr e15) cal_X4_expire cls2 u_4_194 g1 rfl ⟨by decide, by decide⟩ ⟨by decide, by decide⟩ rfl (Nat.le_of_ble_eq_true rfl) dX4_accept_129 rfl rfl ?_
        refine Vw.goto (pc := 132) (tgt := 139) K dX4_accept_132 (by decide) ?_
        exact Vw.iretH (pc := 139) K h E (by decide) (by decide) dX4_accept_139
  · have h := wneg c2 h
    refine Vw.aload_n (pc := 106) (x := x0) K dX4_accept_106 rfl ?_
    obtain ⟨p18, e17, h⟩ := wbd h
    refine Vw.cV1 (pc := 107) (v := .inl p18.1) (c' := 0) (n' := 0) K (s_X4_reject K.tr e17) cal_X4_reject cls2 u_4_116 g1 rfl ⟨by decide, by decide⟩ ⟨by decide, by decide⟩ rfl (Nat.le_of_ble_eq_true rfl) dX4_accept_107 rfl rfl ?_
    exact Vw.iretH (pc := 110) K h E (by decide) (by decide) dX4_accept_110
def k_X4_accept_27  (A : Hp) (x0 : Nat) (x1 : Nat) (x2 : Int32)  : Option (Int32 × Hp) := if (hsh A x0).1 = 3 then (if (hgI A 139 x0 0) = (0 : Int32) then ((f_X4_shape A x0 x1).bind fun A22 => if (hsh A22 x0).1 = 3 then ((f_X4_place A22 x0).bind fun v25 => ((f_X4_isAt A22 x0 v25).bind fun v27 => ((f_X4_causeInProperties A22 x0 x2).bind fun v29 => (if (hgI (hsI A22 139 x0 0 v29) 139 x0 0) = (0 : Int32) then (if x2 = (0 : Int32) then k_X4_accept_99 (hsI A22 139 x0 0 v29) x0 x1 v25 v27 else (if v27 = (0 : Int32) then k_X4_accept_99 (hsI A22 139 x0 0 v29) x0 x1 v25 v27 else if (hsh (hsI A22 139 x0 0 v29) (hgR (hsI A22 139 x0 0 v29) 128 x0 0)).1 = 13 then if wix v25 (hsh (hsI A22 139 x0 0 v29) (hgR (hsI A22 139 x0 0 v29) 128 x0 0)).2 then if (hsh (hsI A22 139 x0 0 v29) (hgR (hsI A22 139 x0 0 v29) 1037 (hgR (hsI A22 139 x0 0 v29) 128 x0 0) v25.toNatClampNeg)).1 = 2 then (if (hgI (hsI A22 139 x0 0 v29) 74 (hgR (hsI A22 139 x0 0 v29) 1037 (hgR (hsI A22 139 x0 0 v29) 128 x0 0) v25.toNatClampNeg) 0) = (0 : Int32) then k_X4_accept_99 (hsI A22 139 x0 0 v29) x0 x1 v25 v27 else k_X4_accept_99 (hsI (hsI A22 139 x0 0 v29) 139 x0 0 (62 : Int32)) x0 x1 v25 v27) else none else none else none)) else k_X4_accept_99 (hsI A22 139 x0 0 v29) x0 x1 v25 v27)))) else none) else ((f_X4_reject A x0).bind fun p38 => some (p38.1, p38.2))) else none
set_option maxRecDepth 100000 in
theorem s_X4_accept_27 {κ : KT} {r : Int32} {B : Hp} {A : Hp} {x0 : Nat} {x1 : Nat} {x2 : Int32}   (K : Cx κ cX4_accept 5 RX4 7 150 0 0) (E : Ed κ (some .int) "accept" (.inl (some (.inl r))) B 0 0)  (h : k_X4_accept_27  A x0 x1 x2  = some (r, B)) : Vw κ A 0 0 27 [(0, .inr (.inr x0)), (1, .inr (.inr x1)), (2, .inl x2)] [] := by
  unfold k_X4_accept_27 at h
  refine Vw.aload_n (pc := 27) (x := x0) K dX4_accept_27 rfl ?_
  obtain ⟨g19, h⟩ := wgd h
  refine Vw.getI (pc := 28) (k := 11) (f := 139) K cls2 rfl rfl u_2_25 g19 dX4_accept_28 ?_
  refine Vw.if_eq (pc := 31) (tgt := 39) K dX4_accept_31 (by decide) (fun c20 => ?_) (fun c20 => ?_)
  · have h := wpos c20 h
    refine Vw.aload_n (pc := 39) (x := x0) K dX4_accept_39 rfl ?_
    refine Vw.aload_n (pc := 40) (x := x1) K dX4_accept_40 rfl ?_
    obtain ⟨A22, e21, h⟩ := wbd h
    refine Vw.cV0 (pc := 41) (c' := 0) (n' := 0) K (s_X4_shape K.tr e21) cal_X4_shape cls2 u_4_120 g19 rfl ⟨by decide, by decide⟩ ⟨by decide, by decide⟩ rfl (Nat.le_of_ble_eq_true rfl) dX4_accept_41 rfl rfl ?_
    refine Vw.aload_n (pc := 44) (x := x0) K dX4_accept_44 rfl ?_
    obtain ⟨g23, h⟩ := wgd h
    obtain ⟨v25, e24, h⟩ := wbd h
    refine Vw.cV1 (pc := 45) (v := .inl v25) (c' := 0) (n' := 0) K (s_X4_place K.tr e24) cal_X4_place cls2 u_4_142 g23 rfl ⟨by decide, by decide⟩ ⟨by decide, by decide⟩ rfl (Nat.le_of_ble_eq_true rfl) dX4_accept_45 rfl rfl ?_
    refine Vw.istore_n (pc := 48) K dX4_accept_48 (by decide) ?_
    refine Vw.aload_n (pc := 49) (x := x0) K dX4_accept_49 rfl ?_
    refine Vw.iload_n (pc := 50) (x := v25) K dX4_accept_50 rfl ?_
    obtain ⟨v27, e26, h⟩ := wbd h
    refine Vw.cV1 (pc := 51) (v := .inl v27) (c' := 0) (n' := 0) K (s_X4_isAt K.tr e26) cal_X4_isAt cls2 u_4_160 g23 rfl ⟨by decide, by decide⟩ ⟨by decide, by decide⟩ rfl (Nat.le_of_ble_eq_true rfl) dX4_accept_51 rfl rfl ?_
    refine Vw.istore (pc := 54) K dX4_accept_54 (by decide) ?_
    refine Vw.aload_n (pc := 56) (x := x0) K dX4_accept_56 rfl ?_
    refine Vw.aload_n (pc := 57) (x := x0) K dX4_accept_57 rfl ?_
    refine Vw.iload_n (pc := 58) (x := x2) K dX4_accept_58 rfl ?_
    obtain ⟨v29, e28, h⟩ := wbd h
    refine Vw.cV1 (pc := 59) (v := .inl v29) (c' := 0) (n' := 0) K (s_X4_causeInProperties K.tr e28) cal_X4_causeInProperties cls2 u_4_164 g23 rfl ⟨by decide, by decide⟩ ⟨by decide, by decide⟩ rfl (Nat.le_of_ble_eq_true rfl) dX4_accept_59 rfl rfl ?_
    refine Vw.putI (pc := 62) (k := 11) (f := 139) K cls2 rfl rfl u_2_25 g23 (Or.inl rfl) rfl rfl dX4_accept_62 ?_
    refine Vw.aload_n (pc := 65) (x := x0) K dX4_accept_65 rfl ?_
    refine Vw.getI (pc := 66) (k := 11) (f := 139) K cls2 rfl rfl u_2_25 g23 dX4_accept_66 ?_
    refine Vw.if_ne (pc := 69) (tgt := 99) K dX4_accept_69 (by decide) (fun c30 => ?_) (fun c30 => ?_)
    · have h := wneg c30 h
      exact Vw.loc rfl (s_X4_accept_99 K E  h)
    · have h := wpos c30 h
      refine Vw.iload_n (pc := 72) (x := x2) K dX4_accept_72 rfl ?_
      refine Vw.if_eq (pc := 73) (tgt := 99) K dX4_accept_73 (by decide) (fun c31 => ?_) (fun c31 => ?_)
      · have h := wpos c31 h
        exact Vw.loc rfl (s_X4_accept_99 K E  h)
      · have h := wneg c31 h
        refine Vw.iload (pc := 76) (x := v27) K dX4_accept_76 rfl ?_
        refine Vw.if_eq (pc := 78) (tgt := 99) K dX4_accept_78 (by decide) (fun c32 => ?_) (fun c32 => ?_)
        · have h := wpos c32 h
          exact Vw.loc rfl (s_X4_accept_99 K E  h)
        · have h := wneg c32 h
          refine Vw.aload_n (pc := 81) (x := x0) K dX4_accept_81 rfl ?_
          refine Vw.getR (pc := 82) (k := 0) (f := 128) K cls2 rfl rfl u_2_5 g23 dX4_accept_82 ?_
          refine Vw.iload_n (pc := 85) (x := v25) K dX4_accept_85 rfl ?_
          obtain ⟨g33, h⟩ := wgd h
          obtain ⟨g34, h⟩ := wgd h
          refine Vw.aaloadC (pc := 86) K g33 g34 dX4_accept_86 ?_
          obtain ⟨g35, h⟩ := wgd h
          refine Vw.getI (pc := 87) (k := 10) (f := 74) K cls1 rfl rfl u_1_163 g35 dX4_accept_87 ?_
          refine Vw.if_eq (pc := 90) (tgt := 99) K dX4_accept_90 (by decide) (fun c36 => ?_) (fun c36 => ?_)
          · have h := wpos c36 h
            exact Vw.loc rfl (s_X4_accept_99 K E  h)
          · have h := wneg c36 h
            refine Vw.aload_n (pc := 93) (x := x0) K dX4_accept_93 rfl ?_
            refine Vw.bipush (pc := 94) (v := (62 : Int32)) K (by decide) dX4_accept_94 ?_
            refine Vw.putI (pc := 96) (k := 11) (f := 139) K cls2 rfl rfl u_2_25 g23 (Or.inl rfl) rfl rfl dX4_accept_96 ?_
            exact Vw.loc rfl (s_X4_accept_99 K E  h)
  · have h := wneg c20 h
    refine Vw.aload_n (pc := 34) (x := x0) K dX4_accept_34 rfl ?_
    obtain ⟨p38, e37, h⟩ := wbd h
    refine Vw.cV1 (pc := 35) (v := .inl p38.1) (c' := 0) (n' := 0) K (s_X4_reject K.tr e37) cal_X4_reject cls2 u_4_116 g19 rfl ⟨by decide, by decide⟩ ⟨by decide, by decide⟩ rfl (Nat.le_of_ble_eq_true rfl) dX4_accept_35 rfl rfl ?_
    exact Vw.iretH (pc := 38) K h E (by decide) (by decide) dX4_accept_38
def f_X4_accept (A : Hp) (x0 : Nat) (x1 : Nat) (x2 : Int32) : Option (Int32 × Hp) := ((f_X4_causeInText A x1).bind fun v40 => if (hsh A x0).1 = 3 then (if (hgI (hsI A 139 x0 0 v40) 139 x0 0) = (0 : Int32) then if (hsh (hsI A 139 x0 0 v40) x1).1 = 4 then ((f_X4_causeInDomain (hsI A 139 x0 0 v40) x0 (hgR (hsI A 139 x0 0 v40) 194 x1 0)).bind fun v45 => k_X4_accept_27 (hsI (hsI A 139 x0 0 v40) 139 x0 0 v45) x0 x1 x2) else none else k_X4_accept_27 (hsI A 139 x0 0 v40) x0 x1 x2) else none)
set_option maxRecDepth 100000 in
theorem s_X4_accept {l : Launch} {g : GT} (hl : l.stackTraces = false) {A : Hp} {x0 : Nat} {x1 : Nat} {x2 : Int32} {r : Int32} {B : Hp} (h : f_X4_accept A x0 x1 x2 = some (r, B)) : MetV l g yX4_accept (.code yX4_accept cX4_accept 5 (some .int)) [.inr (.inr x0), .inr (.inr x1), .inl x2] A (.inl (some (.inl r))) B 7 150 0 0 := by
  refine MetV.ofV hl (by decide +kernel) (Nat.le_of_ble_eq_true rfl) (fun κ K E => ?_)
  have K : Cx κ cX4_accept 5 RX4 7 150 0 0 := K
  have E : Ed κ (some .int) "accept" (.inl (some (.inl r))) B 0 0 := E
  unfold f_X4_accept at h
  change Vw κ A 0 0 0 [(0, .inr (.inr x0)), (1, .inr (.inr x1)), (2, .inl x2)] []
  refine Vw.aload_n (pc := 0) (x := x0) K dX4_accept_0 rfl ?_
  refine Vw.aload_n (pc := 1) (x := x1) K dX4_accept_1 rfl ?_
  obtain ⟨v40, e39, h⟩ := wbd h
  refine Vw.cS1 (pc := 2) (v := .inl v40) (c' := 0) (n' := 0) K (s_X4_causeInText K.tr e39) cal_X4_causeInText u_4_102 rfl ⟨by decide, by decide⟩ ⟨by decide, by decide⟩ rfl (Nat.le_of_ble_eq_true rfl) dX4_accept_2 rfl rfl ?_
  obtain ⟨g41, h⟩ := wgd h
  refine Vw.putI (pc := 5) (k := 11) (f := 139) K cls2 rfl rfl u_2_25 g41 (Or.inl rfl) rfl rfl dX4_accept_5 ?_
  refine Vw.aload_n (pc := 8) (x := x0) K dX4_accept_8 rfl ?_
  refine Vw.getI (pc := 9) (k := 11) (f := 139) K cls2 rfl rfl u_2_25 g41 dX4_accept_9 ?_
  refine Vw.if_ne (pc := 12) (tgt := 27) K dX4_accept_12 (by decide) (fun c42 => ?_) (fun c42 => ?_)
  · have h := wneg c42 h
    exact Vw.loc rfl (s_X4_accept_27 K E  h)
  · have h := wpos c42 h
    refine Vw.aload_n (pc := 15) (x := x0) K dX4_accept_15 rfl ?_
    refine Vw.aload_n (pc := 16) (x := x0) K dX4_accept_16 rfl ?_
    refine Vw.aload_n (pc := 17) (x := x1) K dX4_accept_17 rfl ?_
    obtain ⟨g43, h⟩ := wgd h
    refine Vw.getR (pc := 18) (k := 2) (f := 194) K cls3 rfl rfl u_1_70 g43 dX4_accept_18 ?_
    obtain ⟨v45, e44, h⟩ := wbd h
    refine Vw.cV1 (pc := 21) (v := .inl v45) (c' := 0) (n' := 0) K (s_X4_causeInDomain K.tr e44) cal_X4_causeInDomain cls2 u_4_105 g41 rfl ⟨by decide, by decide⟩ ⟨by decide, by decide⟩ rfl (Nat.le_of_ble_eq_true rfl) dX4_accept_21 rfl rfl ?_
    refine Vw.putI (pc := 24) (k := 11) (f := 139) K cls2 rfl rfl u_2_25 g41 (Or.inl rfl) rfl rfl dX4_accept_24 ?_
    exact Vw.loc rfl (s_X4_accept_27 K E  h)
theorem cal_X4_accept : wCalV RX4 yX4_accept (.code yX4_accept cX4_accept 5 (some .int)) 2 := ⟨by decide +kernel, u_4_99, u_4_100, u_1_5, u_4_101⟩
def k_X4_sizeOfSite_35 (rec4 : Int32 → Int32 → Option (Int32)) (A : Hp) (x0 : Nat) (x1 : Nat) (x2 : Int32) (x3 : Int32)  : Option (Int32) := rec4 x2 (x3 + (1 : Int32))
set_option maxRecDepth 100000 in
theorem s_X4_sizeOfSite_35 {κ : KT} {r : Int32} {A : Hp} {x0 : Nat} {x1 : Nat} {x2 : Int32} {x3 : Int32}  {rec4 : Int32 → Int32 → Option (Int32)} (K : Cx κ cX4_sizeOfSite 4 RX4 5 111 0 0) (E : Ed κ (some .int) "sizeOfSite" (.inl (some (.inl r))) A 0 0) (hr4 : ∀ (x2 : Int32) (x3 : Int32), rec4 x2 x3 = some r → Vw κ A 0 0 4 [(0, .inr (.inr x0)), (1, .inr (.inr x1)), (2, .inl x2), (3, .inl x3)] []) (h : k_X4_sizeOfSite_35 rec4 A x0 x1 x2 x3  = some r) : Vw κ A 0 0 35 [(0, .inr (.inr x0)), (1, .inr (.inr x1)), (2, .inl x2), (3, .inl x3)] [] := by
  unfold k_X4_sizeOfSite_35 at h
  refine Vw.iinc (pc := 35) (x := x3) (v := (1 : Int32)) K dX4_sizeOfSite_35 rfl (by decide) (by decide) ?_
  refine Vw.goto (pc := 38) (tgt := 4) K dX4_sizeOfSite_38 (by decide) ?_
  exact Vw.loc rfl (hr4 _ _ h)
def k_X4_sizeOfSite_4s (A : Hp) (x0 : Nat) (x1 : Nat)  (rec4 : Int32 → Int32 → Option (Int32))  (x2 : Int32) (x3 : Int32) : Option (Int32) := if (hsh A x0).1 = 3 then (if (hgI A 129 x0 0) ≤ x3 then some x2 else if (hsh A (hgR A 128 x0 0)).1 = 13 then if wix x3 (hsh A (hgR A 128 x0 0)).2 then if (hsh A (hgR A 1037 (hgR A 128 x0 0) x3.toNatClampNeg)).1 = 2 then if (hsh A (hgR A 132 x0 0)).1 = 6 then ((f_X7_sameSites A (hgR A 132 x0 0) (hgR A 66 (hgR A 1037 (hgR A 128 x0 0) x3.toNatClampNeg) 0) x1).bind fun v8 => (if v8 = (0 : Int32) then k_X4_sizeOfSite_35 rec4 A x0 x1 x2 x3 else k_X4_sizeOfSite_35 rec4 A x0 x1 (x2 + (1 : Int32)) x3)) else none else none else none else none) else none
def k_X4_sizeOfSite_4 (A : Hp) (x0 : Nat) (x1 : Nat)  : Nat → Int32 → Int32 → Option (Int32)
  | 0 => fun _ _ => none
  | fu + 1 => k_X4_sizeOfSite_4s A x0 x1  (k_X4_sizeOfSite_4 A x0 x1  fu)
set_option maxRecDepth 100000 in
theorem s_X4_sizeOfSite_4 {κ : KT} {r : Int32} {A : Hp} {x0 : Nat} {x1 : Nat}  (K : Cx κ cX4_sizeOfSite 4 RX4 5 111 0 0) (E : Ed κ (some .int) "sizeOfSite" (.inl (some (.inl r))) A 0 0)  : ∀ (fu : Nat)  (x2 : Int32) (x3 : Int32),  k_X4_sizeOfSite_4 A x0 x1  fu x2 x3 = some r → Vw κ A 0 0 4 [(0, .inr (.inr x0)), (1, .inr (.inr x1)), (2, .inl x2), (3, .inl x3)] [] := by
  intro fu
  induction fu with
  | zero => intro x2 x3 h; cases h
  | succ fu hr4 =>
    intro x2 x3 h
    have h : k_X4_sizeOfSite_4s A x0 x1  (k_X4_sizeOfSite_4 A x0 x1  fu) x2 x3 = some r := h
    unfold k_X4_sizeOfSite_4s at h
    refine Vw.iload_n (pc := 4) (x := x3) K dX4_sizeOfSite_4 rfl ?_
    refine Vw.aload_n (pc := 5) (x := x0) K dX4_sizeOfSite_5 rfl ?_
    obtain ⟨g1, h⟩ := wgd h
    refine Vw.getI (pc := 6) (k := 1) (f := 129) K cls2 rfl rfl u_2_7 g1 dX4_sizeOfSite_6 ?_
    refine Vw.icmp_ge (pc := 9) (tgt := 41) K dX4_sizeOfSite_9 (by decide) (fun c2 => ?_) (fun c2 => ?_)
    · have h := wpos c2 h
      refine Vw.iload_n (pc := 41) (x := x2) K dX4_sizeOfSite_41 rfl ?_
      exact Vw.iretE (pc := 42) K (Option.some.inj h) rfl E (by decide) (by decide) dX4_sizeOfSite_42
    · have h := wneg c2 h
      refine Vw.aload_n (pc := 12) (x := x0) K dX4_sizeOfSite_12 rfl ?_
      refine Vw.getR (pc := 13) (k := 4) (f := 132) K cls2 rfl rfl u_2_11 g1 dX4_sizeOfSite_13 ?_
      refine Vw.aload_n (pc := 16) (x := x0) K dX4_sizeOfSite_16 rfl ?_
      refine Vw.getR (pc := 17) (k := 0) (f := 128) K cls2 rfl rfl u_2_5 g1 dX4_sizeOfSite_17 ?_
      refine Vw.iload_n (pc := 20) (x := x3) K dX4_sizeOfSite_20 rfl ?_
      obtain ⟨g3, h⟩ := wgd h
      obtain ⟨g4, h⟩ := wgd h
      refine Vw.aaloadC (pc := 21) K g3 g4 dX4_sizeOfSite_21 ?_
      obtain ⟨g5, h⟩ := wgd h
      refine Vw.getR (pc := 22) (k := 2) (f := 66) K cls1 rfl rfl u_1_139 g5 dX4_sizeOfSite_22 ?_
      refine Vw.aload_n (pc := 25) (x := x1) K dX4_sizeOfSite_25 rfl ?_
      obtain ⟨g6, h⟩ := wgd h
      obtain ⟨v8, e7, h⟩ := wbd h
      refine Vw.cV1 (pc := 26) (v := .inl v8) (c' := 0) (n' := 0) K (s_X7_sameSites K.tr e7) cal_X7_sameSites cls5 u_3_135 g6 rfl ⟨by decide, by decide⟩ ⟨by decide, by decide⟩ rfl (Nat.le_of_ble_eq_true rfl) dX4_sizeOfSite_26 rfl rfl ?_
      refine Vw.if_eq (pc := 29) (tgt := 35) K dX4_sizeOfSite_29 (by decide) (fun c9 => ?_) (fun c9 => ?_)
      · have h := wpos c9 h
        exact Vw.loc rfl (s_X4_sizeOfSite_35 K E hr4 h)
      · have h := wneg c9 h
        refine Vw.iinc (pc := 32) (x := x2) (v := (1 : Int32)) K dX4_sizeOfSite_32 rfl (by decide) (by decide) ?_
        exact Vw.loc rfl (s_X4_sizeOfSite_35 K E hr4 h)
def f_X4_sizeOfSite (A : Hp) (x0 : Nat) (x1 : Nat) : Option (Int32) := k_X4_sizeOfSite_4 A x0 x1 FU (0 : Int32) (0 : Int32)
set_option maxRecDepth 100000 in
theorem s_X4_sizeOfSite {l : Launch} {g : GT} (hl : l.stackTraces = false) {A : Hp} {x0 : Nat} {x1 : Nat} {r : Int32} (h : f_X4_sizeOfSite A x0 x1 = some r) : MetV l g yX4_sizeOfSite (.code yX4_sizeOfSite cX4_sizeOfSite 4 (some .int)) [.inr (.inr x0), .inr (.inr x1)] A (.inl (some (.inl r))) A 5 111 0 0 := by
  refine MetV.ofV hl (by decide +kernel) (Nat.le_of_ble_eq_true rfl) (fun κ K E => ?_)
  have K : Cx κ cX4_sizeOfSite 4 RX4 5 111 0 0 := K
  have E : Ed κ (some .int) "sizeOfSite" (.inl (some (.inl r))) A 0 0 := E
  unfold f_X4_sizeOfSite at h
  change Vw κ A 0 0 0 [(0, .inr (.inr x0)), (1, .inr (.inr x1))] []
  refine Vw.iconst (pc := 0) (v := (0 : Int32)) K (by decide) dX4_sizeOfSite_0 ?_
  refine Vw.istore_n (pc := 1) K dX4_sizeOfSite_1 (by decide) ?_
  refine Vw.iconst (pc := 2) (v := (0 : Int32)) K (by decide) dX4_sizeOfSite_2 ?_
  refine Vw.istore_n (pc := 3) K dX4_sizeOfSite_3 (by decide) ?_
  exact Vw.loc rfl (s_X4_sizeOfSite_4 K E  _ _ _ h)
theorem cal_X4_sizeOfSite : wCalV RX4 yX4_sizeOfSite (.code yX4_sizeOfSite cX4_sizeOfSite 4 (some .int)) 1 := ⟨by decide +kernel, u_4_221, us_2_11, u_1_5, u_4_222⟩
def k_X4_victimOf_41  (A : Hp) (x2 : Int32)  : Option (Int32) := some x2
set_option maxRecDepth 100000 in
theorem s_X4_victimOf_41 {κ : KT} {r : Int32} {A : Hp} {x2 : Int32}   (K : Cx κ cX4_victimOf 4 RX4 2 46 0 0) (E : Ed κ (some .int) "victimOf" (.inl (some (.inl r))) A 0 0)  (h : k_X4_victimOf_41  A x2  = some r) : Vw κ A 0 0 41 [(2, .inl x2)] [] := by
  unfold k_X4_victimOf_41 at h
  refine Vw.iload_n (pc := 41) (x := x2) K dX4_victimOf_41 rfl ?_
  refine Vw.goto (pc := 42) (tgt := 46) K dX4_victimOf_42 (by decide) ?_
  exact Vw.iretE (pc := 46) K (Option.some.inj h) rfl E (by decide) (by decide) dX4_victimOf_46
def f_X4_victimOf (A : Hp) (x0 : Nat) (x1 : Int32) (x2 : Int32) (x3 : Int32) : Option (Int32) := if (hsh A x0).1 = 3 then if (hsh A (hgR A 128 x0 0)).1 = 13 then if wix x2 (hsh A (hgR A 128 x0 0)).2 then if (hsh A (hgR A 1037 (hgR A 128 x0 0) x2.toNatClampNeg)).1 = 2 then (if (hgI A 71 (hgR A 1037 (hgR A 128 x0 0) x2.toNatClampNeg) 0) = x3 then some x1 else (if x1 < (0 : Int32) then k_X4_victimOf_41 A x2 else if wix x1 (hsh A (hgR A 128 x0 0)).2 then ((f_X1_isVictimBefore A (hgR A 1037 (hgR A 128 x0 0) x2.toNatClampNeg) (hgR A 1037 (hgR A 128 x0 0) x1.toNatClampNeg) (hgI A 138 x0 0)).bind fun v9 => (if v9 = (0 : Int32) then some x1 else k_X4_victimOf_41 A x2)) else none)) else none else none else none else none
set_option maxRecDepth 100000 in
theorem s_X4_victimOf {l : Launch} {g : GT} (hl : l.stackTraces = false) {A : Hp} {x0 : Nat} {x1 : Int32} {x2 : Int32} {x3 : Int32} {r : Int32} (h : f_X4_victimOf A x0 x1 x2 x3 = some r) : MetV l g yX4_victimOf (.code yX4_victimOf cX4_victimOf 4 (some .int)) [.inr (.inr x0), .inl x1, .inl x2, .inl x3] A (.inl (some (.inl r))) A 2 46 0 0 := by
  refine MetV.ofV hl (by decide +kernel) (Nat.le_of_ble_eq_true rfl) (fun κ K E => ?_)
  have K : Cx κ cX4_victimOf 4 RX4 2 46 0 0 := K
  have E : Ed κ (some .int) "victimOf" (.inl (some (.inl r))) A 0 0 := E
  unfold f_X4_victimOf at h
  change Vw κ A 0 0 0 [(0, .inr (.inr x0)), (1, .inl x1), (2, .inl x2), (3, .inl x3)] []
  refine Vw.aload_n (pc := 0) (x := x0) K dX4_victimOf_0 rfl ?_
  obtain ⟨g1, h⟩ := wgd h
  refine Vw.getR (pc := 1) (k := 0) (f := 128) K cls2 rfl rfl u_2_5 g1 dX4_victimOf_1 ?_
  refine Vw.iload_n (pc := 4) (x := x2) K dX4_victimOf_4 rfl ?_
  obtain ⟨g2, h⟩ := wgd h
  obtain ⟨g3, h⟩ := wgd h
  refine Vw.aaloadC (pc := 5) K g2 g3 dX4_victimOf_5 ?_
  obtain ⟨g4, h⟩ := wgd h
  refine Vw.getI (pc := 6) (k := 7) (f := 71) K cls1 rfl rfl u_1_154 g4 dX4_victimOf_6 ?_
  refine Vw.iload_n (pc := 9) (x := x3) K dX4_victimOf_9 rfl ?_
  refine Vw.icmp_ne (pc := 10) (tgt := 15) K dX4_victimOf_10 (by decide) (fun c5 => ?_) (fun c5 => ?_)
  · have h := wneg c5 h
    refine Vw.iload_n (pc := 15) (x := x1) K dX4_victimOf_15 rfl ?_
    refine Vw.if_lt (pc := 16) (tgt := 41) K dX4_victimOf_16 (by decide) (fun c6 => ?_) (fun c6 => ?_)
    · have h := wpos c6 h
      exact Vw.loc rfl (s_X4_victimOf_41 K E  h)
    · have h := wneg c6 h
      refine Vw.aload_n (pc := 19) (x := x0) K dX4_victimOf_19 rfl ?_
      refine Vw.getR (pc := 20) (k := 0) (f := 128) K cls2 rfl rfl u_2_5 g1 dX4_victimOf_20 ?_
      refine Vw.iload_n (pc := 23) (x := x2) K dX4_victimOf_23 rfl ?_
      refine Vw.aaloadC (pc := 24) K g2 g3 dX4_victimOf_24 ?_
      refine Vw.aload_n (pc := 25) (x := x0) K dX4_victimOf_25 rfl ?_
      refine Vw.getR (pc := 26) (k := 0) (f := 128) K cls2 rfl rfl u_2_5 g1 dX4_victimOf_26 ?_
      refine Vw.iload_n (pc := 29) (x := x1) K dX4_victimOf_29 rfl ?_
      obtain ⟨g7, h⟩ := wgd h
      refine Vw.aaloadC (pc := 30) K g2 g7 dX4_victimOf_30 ?_
      refine Vw.aload_n (pc := 31) (x := x0) K dX4_victimOf_31 rfl ?_
      refine Vw.getI (pc := 32) (k := 10) (f := 138) K cls2 rfl rfl u_2_23 g1 dX4_victimOf_32 ?_
      obtain ⟨v9, e8, h⟩ := wbd h
      refine Vw.cV1 (pc := 35) (v := .inl v9) (c' := 0) (n' := 0) K (s_X1_isVictimBefore K.tr e8) cal_X1_isVictimBefore cls1 u_2_233 g4 rfl ⟨by decide, by decide⟩ ⟨by decide, by decide⟩ rfl (Nat.le_of_ble_eq_true rfl) dX4_victimOf_35 rfl rfl ?_
      refine Vw.if_eq (pc := 38) (tgt := 45) K dX4_victimOf_38 (by decide) (fun c10 => ?_) (fun c10 => ?_)
      · have h := wpos c10 h
        refine Vw.iload_n (pc := 45) (x := x1) K dX4_victimOf_45 rfl ?_
        exact Vw.iretE (pc := 46) K (Option.some.inj h) rfl E (by decide) (by decide) dX4_victimOf_46
      · have h := wneg c10 h
        exact Vw.loc rfl (s_X4_victimOf_41 K E  h)
  · have h := wpos c5 h
    refine Vw.iload_n (pc := 13) (x := x1) K dX4_victimOf_13 rfl ?_
    exact Vw.iretE (pc := 14) K (Option.some.inj h) rfl E (by decide) (by decide) dX4_victimOf_14
theorem cal_X4_victimOf : wCalV RX4 yX4_victimOf (.code yX4_victimOf cX4_victimOf 4 (some .int)) 3 := ⟨by decide +kernel, u_2_231, us_1_2, u_1_5, u_2_232⟩
def k_X4_victimOfSite_44 (rec5 : Int32 → Int32 → Option (Int32)) (A : Hp) (x0 : Nat) (x1 : Nat) (x2 : Int32) (x3 : Int32) (x4 : Int32)  : Option (Int32) := rec5 x3 (x4 + (1 : Int32))
set_option maxRecDepth 100000 in
theorem s_X4_victimOfSite_44 {κ : KT} {r : Int32} {A : Hp} {x0 : Nat} {x1 : Nat} {x2 : Int32} {x3 : Int32} {x4 : Int32}  {rec5 : Int32 → Int32 → Option (Int32)} (K : Cx κ cX4_victimOfSite 5 RX4 5 111 0 0) (E : Ed κ (some .int) "victimOfSite" (.inl (some (.inl r))) A 0 0) (hr5 : ∀ (x3 : Int32) (x4 : Int32), rec5 x3 x4 = some r → Vw κ A 0 0 5 [(0, .inr (.inr x0)), (1, .inr (.inr x1)), (2, .inl x2), (3, .inl x3), (4, .inl x4)] []) (h : k_X4_victimOfSite_44 rec5 A x0 x1 x2 x3 x4  = some r) : Vw κ A 0 0 44 [(0, .inr (.inr x0)), (1, .inr (.inr x1)), (2, .inl x2), (3, .inl x3), (4, .inl x4)] [] := by
  unfold k_X4_victimOfSite_44 at h
  refine Vw.iinc (pc := 44) (x := x4) (v := (1 : Int32)) K dX4_victimOfSite_44 rfl (by decide) (by decide) ?_
  refine Vw.goto (pc := 47) (tgt := 5) K dX4_victimOfSite_47 (by decide) ?_
  exact Vw.loc rfl (hr5 _ _ h)
def k_X4_victimOfSite_5s (A : Hp) (x0 : Nat) (x1 : Nat) (x2 : Int32)  (rec5 : Int32 → Int32 → Option (Int32))  (x3 : Int32) (x4 : Int32) : Option (Int32) := if (hsh A x0).1 = 3 then (if (hgI A 129 x0 0) ≤ x4 then some x3 else if (hsh A (hgR A 128 x0 0)).1 = 13 then if wix x4 (hsh A (hgR A 128 x0 0)).2 then if (hsh A (hgR A 1037 (hgR A 128 x0 0) x4.toNatClampNeg)).1 = 2 then if (hsh A (hgR A 132 x0 0)).1 = 6 then ((f_X7_sameSites A (hgR A 132 x0 0) (hgR A 66 (hgR A 1037 (hgR A 128 x0 0) x4.toNatClampNeg) 0) x1).bind fun v8 => (if v8 = (0 : Int32) then k_X4_victimOfSite_44 rec5 A x0 x1 x2 x3 x4 else ((f_X4_victimOf A x0 x3 x4 x2).bind fun v11 => k_X4_victimOfSite_44 rec5 A x0 x1 x2 v11 x4))) else none else none else none else none) else none
def k_X4_victimOfSite_5 (A : Hp) (x0 : Nat) (x1 : Nat) (x2 : Int32)  : Nat → Int32 → Int32 → Option (Int32)
  | 0 => fun _ _ => none
  | fu + 1 => k_X4_victimOfSite_5s A x0 x1 x2  (k_X4_victimOfSite_5 A x0 x1 x2  fu)
set_option maxRecDepth 100000 in
theorem s_X4_victimOfSite_5 {κ : KT} {r : Int32} {A : Hp} {x0 : Nat} {x1 : Nat} {x2 : Int32}  (K : Cx κ cX4_victimOfSite 5 RX4 5 111 0 0) (E : Ed κ (some .int) "victimOfSite" (.inl (some (.inl r))) A 0 0)  : ∀ (fu : Nat)  (x3 : Int32) (x4 : Int32),  k_X4_victimOfSite_5 A x0 x1 x2  fu x3 x4 = some r → Vw κ A 0 0 5 [(0, .inr (.inr x0)), (1, .inr (.inr x1)), (2, .inl x2), (3, .inl x3), (4, .inl x4)] [] := by
  intro fu
  induction fu with
  | zero => intro x3 x4 h; cases h
  | succ fu hr5 =>
    intro x3 x4 h
    have h : k_X4_victimOfSite_5s A x0 x1 x2  (k_X4_victimOfSite_5 A x0 x1 x2  fu) x3 x4 = some r := h
    unfold k_X4_victimOfSite_5s at h
    refine Vw.iload (pc := 5) (x := x4) K dX4_victimOfSite_5 rfl ?_
    refine Vw.aload_n (pc := 7) (x := x0) K dX4_victimOfSite_7 rfl ?_
    obtain ⟨g1, h⟩ := wgd h
    refine Vw.getI (pc := 8) (k := 1) (f := 129) K cls2 rfl rfl u_2_7 g1 dX4_victimOfSite_8 ?_
    refine Vw.icmp_ge (pc := 11) (tgt := 50) K dX4_victimOfSite_11 (by decide) (fun c2 => ?_) (fun c2 => ?_)
    · have h := wpos c2 h
      refine Vw.iload_n (pc := 50) (x := x3) K dX4_victimOfSite_50 rfl ?_
      exact Vw.iretE (pc := 51) K (Option.some.inj h) rfl E (by decide) (by decide) dX4_victimOfSite_51
    · have h := wneg c2 h
      refine Vw.aload_n (pc := 14) (x := x0) K dX4_victimOfSite_14 rfl ?_
      refine Vw.getR (pc := 15) (k := 4) (f := 132) K cls2 rfl rfl u_2_11 g1 dX4_victimOfSite_15 ?_
      refine Vw.aload_n (pc := 18) (x := x0) K dX4_victimOfSite_18 rfl ?_
      refine Vw.getR (pc := 19) (k := 0) (f := 128) K cls2 rfl rfl u_2_5 g1 dX4_victimOfSite_19 ?_
      refine Vw.iload (pc := 22) (x := x4) K dX4_victimOfSite_22 rfl ?_
      obtain ⟨g3, h⟩ := wgd h
      obtain ⟨g4, h⟩ := wgd h
      refine Vw.aaloadC (pc := 24) K g3 g4 dX4_victimOfSite_24 ?_
      obtain ⟨g5, h⟩ := wgd h
      refine Vw.getR (pc := 25) (k := 2) (f := 66) K cls1 rfl rfl u_1_139 g5 dX4_victimOfSite_25 ?_
      refine Vw.aload_n (pc := 28) (x := x1) K dX4_victimOfSite_28 rfl ?_
      obtain ⟨g6, h⟩ := wgd h
      obtain ⟨v8, e7, h⟩ := wbd h
      refine Vw.cV1 (pc := 29) (v := .inl v8) (c' := 0) (n' := 0) K (s_X7_sameSites K.tr e7) cal_X7_sameSites cls5 u_3_135 g6 rfl ⟨by decide, by decide⟩ ⟨by decide, by decide⟩ rfl (Nat.le_of_ble_eq_true rfl) dX4_victimOfSite_29 rfl rfl ?_
      refine Vw.if_eq (pc := 32) (tgt := 44) K dX4_victimOfSite_32 (by decide) (fun c9 => ?_) (fun c9 => ?_)
      · have h := wpos c9 h
        exact Vw.loc rfl (s_X4_victimOfSite_44 K E hr5 h)
      · have h := wneg c9 h
        refine Vw.aload_n (pc := 35) (x := x0) K dX4_victimOfSite_35 rfl ?_
        refine Vw.iload_n (pc := 36) (x := x3) K dX4_victimOfSite_36 rfl ?_
        refine Vw.iload (pc := 37) (x := x4) K dX4_victimOfSite_37 rfl ?_
        refine Vw.iload_n (pc := 39) (x := x2) K dX4_victimOfSite_39 rfl ?_
        obtain ⟨v11, e10, h⟩ := wbd h
        refine Vw.cV1 (pc := 40) (v := .inl v11) (c' := 0) (n' := 0) K (s_X4_victimOf K.tr e10) cal_X4_victimOf cls2 u_2_229 g1 rfl ⟨by decide, by decide⟩ ⟨by decide, by decide⟩ rfl (Nat.le_of_ble_eq_true rfl) dX4_victimOfSite_40 rfl rfl ?_
        refine Vw.istore_n (pc := 43) K dX4_victimOfSite_43 (by decide) ?_
        exact Vw.loc rfl (s_X4_victimOfSite_44 K E hr5 h)
def f_X4_victimOfSite (A : Hp) (x0 : Nat) (x1 : Nat) (x2 : Int32) : Option (Int32) := k_X4_victimOfSite_5 A x0 x1 x2 FU (-1 : Int32) (0 : Int32)
set_option maxRecDepth 100000 in
theorem s_X4_victimOfSite {l : Launch} {g : GT} (hl : l.stackTraces = false) {A : Hp} {x0 : Nat} {x1 : Nat} {x2 : Int32} {r : Int32} (h : f_X4_victimOfSite A x0 x1 x2 = some r) : MetV l g yX4_victimOfSite (.code yX4_victimOfSite cX4_victimOfSite 5 (some .int)) [.inr (.inr x0), .inr (.inr x1), .inl x2] A (.inl (some (.inl r))) A 5 111 0 0 := by
  refine MetV.ofV hl (by decide +kernel) (Nat.le_of_ble_eq_true rfl) (fun κ K E => ?_)
  have K : Cx κ cX4_victimOfSite 5 RX4 5 111 0 0 := K
  have E : Ed κ (some .int) "victimOfSite" (.inl (some (.inl r))) A 0 0 := E
  unfold f_X4_victimOfSite at h
  change Vw κ A 0 0 0 [(0, .inr (.inr x0)), (1, .inr (.inr x1)), (2, .inl x2)] []
  refine Vw.iconst (pc := 0) (v := (-1 : Int32)) K (by decide) dX4_victimOfSite_0 ?_
  refine Vw.istore_n (pc := 1) K dX4_victimOfSite_1 (by decide) ?_
  refine Vw.iconst (pc := 2) (v := (0 : Int32)) K (by decide) dX4_victimOfSite_2 ?_
  refine Vw.istore (pc := 3) K dX4_victimOfSite_3 (by decide) ?_
  exact Vw.loc rfl (s_X4_victimOfSite_5 K E  _ _ _ h)
theorem cal_X4_victimOfSite : wCalV RX4 yX4_victimOfSite (.code yX4_victimOfSite cX4_victimOfSite 5 (some .int)) 2 := ⟨by decide +kernel, u_4_225, us_2_12, u_1_5, u_4_226⟩
def f_X4_dropVictim (A : Hp) (x0 : Nat) (x1 : Int32) : Option (Hp) := (if x1 < (0 : Int32) then some A else if (hsh A x0).1 = 3 then ((f_X4_drop A x0 x1).bind fun A4 => if (hsh A4 x0).1 = 3 then if (hsh A4 (hgR A4 137 x0 0)).1 = 10 then if wix (4 : Int32) (hsh A4 (hgR A4 137 x0 0)).2 then some (hsI A4 1034 (hgR A4 137 x0 0) (4 : Int32).toNatClampNeg ((hgI A4 1034 (hgR A4 137 x0 0) (4 : Int32).toNatClampNeg) + (1 : Int32))) else none else none else none) else none)
set_option maxRecDepth 100000 in
theorem s_X4_dropVictim {l : Launch} {g : GT} (hl : l.stackTraces = false) {A : Hp} {x0 : Nat} {x1 : Int32} {B : Hp} (h : f_X4_dropVictim A x0 x1 = some B) : MetV l g yX4_dropVictim (.code yX4_dropVictim cX4_dropVictim 2 none) [.inr (.inr x0), .inl x1] A (.inl none) B 1 23 0 0 := by
  refine MetV.ofV hl (by decide +kernel) (Nat.le_of_ble_eq_true rfl) (fun κ K E => ?_)
  have K : Cx κ cX4_dropVictim 2 RX4 1 23 0 0 := K
  have E : Ed κ none "dropVictim" (.inl none) B 0 0 := E
  unfold f_X4_dropVictim at h
  change Vw κ A 0 0 0 [(0, .inr (.inr x0)), (1, .inl x1)] []
  refine Vw.iload_n (pc := 0) (x := x1) K dX4_dropVictim_0 rfl ?_
  refine Vw.if_lt (pc := 1) (tgt := 19) K dX4_dropVictim_1 (by decide) (fun c1 => ?_) (fun c1 => ?_)
  · have h := wpos c1 h
    exact Vw.vretE (pc := 19) K (Option.some.inj h) E (by decide) (by decide) dX4_dropVictim_19
  · have h := wneg c1 h
    refine Vw.aload_n (pc := 4) (x := x0) K dX4_dropVictim_4 rfl ?_
    refine Vw.iload_n (pc := 5) (x := x1) K dX4_dropVictim_5 rfl ?_
    obtain ⟨g2, h⟩ := wgd h
    obtain ⟨A4, e3, h⟩ := wbd h
    refine Vw.cV0 (pc := 6) (c' := 0) (n' := 0) K (s_X4_drop K.tr e3) cal_X4_drop cls2 u_2_205 g2 rfl ⟨by decide, by decide⟩ ⟨by decide, by decide⟩ rfl (Nat.le_of_ble_eq_true rfl) dX4_dropVictim_6 rfl rfl ?_
    refine Vw.aload_n (pc := 9) (x := x0) K dX4_dropVictim_9 rfl ?_
    obtain ⟨g5, h⟩ := wgd h
    refine Vw.getR (pc := 10) (k := 9) (f := 137) K cls2 rfl rfl u_2_21 g5 dX4_dropVictim_10 ?_
    refine Vw.iconst (pc := 13) (v := (4 : Int32)) K (by decide) dX4_dropVictim_13 ?_
    refine Vw.dup2 (pc := 14) K rfl rfl dX4_dropVictim_14 ?_
    obtain ⟨g6, h⟩ := wgd h
    obtain ⟨g7, h⟩ := wgd h
    refine Vw.iaload (pc := 15) K g6 g7 dX4_dropVictim_15 ?_
    refine Vw.iconst (pc := 16) (v := (1 : Int32)) K (by decide) dX4_dropVictim_16 ?_
    refine Vw.iadd (pc := 17) K dX4_dropVictim_17 ?_
    refine Vw.iastore (pc := 18) K g6 g7 dX4_dropVictim_18 ?_
    exact Vw.vretE (pc := 19) K (Option.some.inj h) E (by decide) (by decide) dX4_dropVictim_19
theorem cal_X4_dropVictim : wCalV RX4 yX4_dropVictim (.code yX4_dropVictim cX4_dropVictim 2 none) 1 := ⟨by decide +kernel, u_4_229, us_2_13, u_1_5, u_4_230⟩
def k_X4_victimOfAll_4s (A : Hp) (x0 : Nat) (x1 : Int32)  (rec4 : Int32 → Int32 → Option (Int32))  (x2 : Int32) (x3 : Int32) : Option (Int32) := if (hsh A x0).1 = 3 then (if (hgI A 129 x0 0) ≤ x3 then some x2 else ((f_X4_victimOf A x0 x2 x3 x1).bind fun v4 => rec4 v4 (x3 + (1 : Int32)))) else none
def k_X4_victimOfAll_4 (A : Hp) (x0 : Nat) (x1 : Int32)  : Nat → Int32 → Int32 → Option (Int32)
  | 0 => fun _ _ => none
  | fu + 1 => k_X4_victimOfAll_4s A x0 x1  (k_X4_victimOfAll_4 A x0 x1  fu)
set_option maxRecDepth 100000 in
theorem s_X4_victimOfAll_4 {κ : KT} {r : Int32} {A : Hp} {x0 : Nat} {x1 : Int32}  (K : Cx κ cX4_victimOfAll 4 RX4 3 69 0 0) (E : Ed κ (some .int) "victimOfAll" (.inl (some (.inl r))) A 0 0)  : ∀ (fu : Nat)  (x2 : Int32) (x3 : Int32),  k_X4_victimOfAll_4 A x0 x1  fu x2 x3 = some r → Vw κ A 0 0 4 [(0, .inr (.inr x0)), (1, .inl x1), (2, .inl x2), (3, .inl x3)] [] := by
  intro fu
  induction fu with
  | zero => intro x2 x3 h; cases h
  | succ fu hr4 =>
    intro x2 x3 h
    have h : k_X4_victimOfAll_4s A x0 x1  (k_X4_victimOfAll_4 A x0 x1  fu) x2 x3 = some r := h
    unfold k_X4_victimOfAll_4s at h
    refine Vw.iload_n (pc := 4) (x := x3) K dX4_victimOfAll_4 rfl ?_
    refine Vw.aload_n (pc := 5) (x := x0) K dX4_victimOfAll_5 rfl ?_
    obtain ⟨g1, h⟩ := wgd h
    refine Vw.getI (pc := 6) (k := 1) (f := 129) K cls2 rfl rfl u_2_7 g1 dX4_victimOfAll_6 ?_
    refine Vw.icmp_ge (pc := 9) (tgt := 26) K dX4_victimOfAll_9 (by decide) (fun c2 => ?_) (fun c2 => ?_)
    · have h := wpos c2 h
      refine Vw.iload_n (pc := 26) (x := x2) K dX4_victimOfAll_26 rfl ?_
      exact Vw.iretE (pc := 27) K (Option.some.inj h) rfl E (by decide) (by decide) dX4_victimOfAll_27
    · have h := wneg c2 h
      refine Vw.aload_n (pc := 12) (x := x0) K dX4_victimOfAll_12 rfl ?_
      refine Vw.iload_n (pc := 13) (x := x2) K dX4_victimOfAll_13 rfl ?_
      refine Vw.iload_n (pc := 14) (x := x3) K dX4_victimOfAll_14 rfl ?_
      refine Vw.iload_n (pc := 15) (x := x1) K dX4_victimOfAll_15 rfl ?_
      obtain ⟨v4, e3, h⟩ := wbd h
      refine Vw.cV1 (pc := 16) (v := .inl v4) (c' := 0) (n' := 0) K (s_X4_victimOf K.tr e3) cal_X4_victimOf cls2 u_2_229 g1 rfl ⟨by decide, by decide⟩ ⟨by decide, by decide⟩ rfl (Nat.le_of_ble_eq_true rfl) dX4_victimOfAll_16 rfl rfl ?_
      refine Vw.istore_n (pc := 19) K dX4_victimOfAll_19 (by decide) ?_
      refine Vw.iinc (pc := 20) (x := x3) (v := (1 : Int32)) K dX4_victimOfAll_20 rfl (by decide) (by decide) ?_
      refine Vw.goto (pc := 23) (tgt := 4) K dX4_victimOfAll_23 (by decide) ?_
      exact Vw.loc rfl (hr4 _ _ h)
def f_X4_victimOfAll (A : Hp) (x0 : Nat) (x1 : Int32) : Option (Int32) := k_X4_victimOfAll_4 A x0 x1 FU (-1 : Int32) (0 : Int32)
set_option maxRecDepth 100000 in
theorem s_X4_victimOfAll {l : Launch} {g : GT} (hl : l.stackTraces = false) {A : Hp} {x0 : Nat} {x1 : Int32} {r : Int32} (h : f_X4_victimOfAll A x0 x1 = some r) : MetV l g yX4_victimOfAll (.code yX4_victimOfAll cX4_victimOfAll 4 (some .int)) [.inr (.inr x0), .inl x1] A (.inl (some (.inl r))) A 3 69 0 0 := by
  refine MetV.ofV hl (by decide +kernel) (Nat.le_of_ble_eq_true rfl) (fun κ K E => ?_)
  have K : Cx κ cX4_victimOfAll 4 RX4 3 69 0 0 := K
  have E : Ed κ (some .int) "victimOfAll" (.inl (some (.inl r))) A 0 0 := E
  unfold f_X4_victimOfAll at h
  change Vw κ A 0 0 0 [(0, .inr (.inr x0)), (1, .inl x1)] []
  refine Vw.iconst (pc := 0) (v := (-1 : Int32)) K (by decide) dX4_victimOfAll_0 ?_
  refine Vw.istore_n (pc := 1) K dX4_victimOfAll_1 (by decide) ?_
  refine Vw.iconst (pc := 2) (v := (0 : Int32)) K (by decide) dX4_victimOfAll_2 ?_
  refine Vw.istore_n (pc := 3) K dX4_victimOfAll_3 (by decide) ?_
  exact Vw.loc rfl (s_X4_victimOfAll_4 K E  _ _ _ h)
theorem cal_X4_victimOfAll : wCalV RX4 yX4_victimOfAll (.code yX4_victimOfAll cX4_victimOfAll 4 (some .int)) 1 := ⟨by decide +kernel, u_2_226, u_2_227, u_1_5, u_2_228⟩
def k_X4_evict_63s  (x0 : Nat)  (rec63 : Hp → Int32 → Option (Hp)) (A : Hp) (x1 : Int32) : Option (Hp) := (if x1 ≤ (0 : Int32) then some A else if (hsh A x0).1 = 3 then if (hsh A (hgR A 130 x0 0)).1 = 2 then ((f_X4_victimOfAll A x0 (hgI A 71 (hgR A 130 x0 0) 0)).bind fun v5 => ((f_X4_dropVictim A x0 v5).bind fun A7 => rec63 A7 (x1 + (-1 : Int32)))) else none else none)
def k_X4_evict_63  (x0 : Nat)  : Nat → Hp → Int32 → Option (Hp)
  | 0 => fun _ _ => none
  | fu + 1 => k_X4_evict_63s x0  (k_X4_evict_63 x0  fu)
set_option maxRecDepth 100000 in
theorem s_X4_evict_63 {κ : KT} {B : Hp}  {x0 : Nat}  (K : Cx κ cX4_evict 2 RX4 6 135 0 0) (E : Ed κ none "evict" (.inl none) B 0 0)  : ∀ (fu : Nat) (A : Hp) (x1 : Int32),  k_X4_evict_63 x0  fu A x1 = some B → Vw κ A 0 0 63 [(0, .inr (.inr x0)), (1, .inl x1)] [] := by
  intro fu
  induction fu with
  | zero => intro A x1 h; cases h
  | succ fu hr63 =>
    intro A x1 h
    have h : k_X4_evict_63s x0  (k_X4_evict_63 x0  fu) A x1 = some B := h
    unfold k_X4_evict_63s at h
    refine Vw.iload_n (pc := 63) (x := x1) K dX4_evict_63 rfl ?_
    refine Vw.if_le (pc := 64) (tgt := 88) K dX4_evict_64 (by decide) (fun c1 => ?_) (fun c1 => ?_)
    · have h := wpos c1 h
      exact Vw.vretE (pc := 88) K (Option.some.inj h) E (by decide) (by decide) dX4_evict_88
    · have h := wneg c1 h
      refine Vw.aload_n (pc := 67) (x := x0) K dX4_evict_67 rfl ?_
      refine Vw.aload_n (pc := 68) (x := x0) K dX4_evict_68 rfl ?_
      refine Vw.aload_n (pc := 69) (x := x0) K dX4_evict_69 rfl ?_
      obtain ⟨g2, h⟩ := wgd h
      refine Vw.getR (pc := 70) (k := 2) (f := 130) K cls2 rfl rfl u_2_9 g2 dX4_evict_70 ?_
      obtain ⟨g3, h⟩ := wgd h
      refine Vw.getI (pc := 73) (k := 7) (f := 71) K cls1 rfl rfl u_1_154 g3 dX4_evict_73 ?_
      obtain ⟨v5, e4, h⟩ := wbd h
      refine Vw.cV1 (pc := 76) (v := .inl v5) (c' := 0) (n' := 0) K (s_X4_victimOfAll K.tr e4) cal_X4_victimOfAll cls2 u_4_231 g2 rfl ⟨by decide, by decide⟩ ⟨by decide, by decide⟩ rfl (Nat.le_of_ble_eq_true rfl) dX4_evict_76 rfl rfl ?_
      obtain ⟨A7, e6, h⟩ := wbd h
      refine Vw.cV0 (pc := 79) (c' := 0) (n' := 0) K (s_X4_dropVictim K.tr e6) cal_X4_dropVictim cls2 u_4_227 g2 rfl ⟨by decide, by decide⟩ ⟨by decide, by decide⟩ rfl (Nat.le_of_ble_eq_true rfl) dX4_evict_79 rfl rfl ?_
      refine Vw.iinc (pc := 82) (x := x1) (v := (-1 : Int32)) K dX4_evict_82 rfl (by decide) (by decide) ?_
      refine Vw.goto (pc := 85) (tgt := 63) K dX4_evict_85 (by decide) ?_
      exact Vw.loc rfl (hr63 _ _ h)
def k_X4_evict_19s  (x0 : Nat)  (rec19 : Hp → Int32 → Option (Hp)) (A : Hp) (x1 : Int32) : Option (Hp) := (if x1 ≤ (0 : Int32) then if (hsh A x0).1 = 3 then if (hsh A (hgR A 136 x0 0)).1 = 10 then if wix (1 : Int32) (hsh A (hgR A 136 x0 0)).2 then k_X4_evict_63 x0 FU A ((hgI A 129 x0 0) - (hgI A 1034 (hgR A 136 x0 0) (1 : Int32).toNatClampNeg)) else none else none else none else if (hsh A x0).1 = 3 then if (hsh A (hgR A 130 x0 0)).1 = 2 then ((f_X4_victimOfSite A x0 (hgR A 66 (hgR A 130 x0 0) 0) (hgI A 71 (hgR A 130 x0 0) 0)).bind fun v15 => ((f_X4_dropVictim A x0 v15).bind fun A17 => rec19 A17 (x1 + (-1 : Int32)))) else none else none)
def k_X4_evict_19  (x0 : Nat)  : Nat → Hp → Int32 → Option (Hp)
  | 0 => fun _ _ => none
  | fu + 1 => k_X4_evict_19s x0  (k_X4_evict_19 x0  fu)
set_option maxRecDepth 100000 in
theorem s_X4_evict_19 {κ : KT} {B : Hp}  {x0 : Nat}  (K : Cx κ cX4_evict 2 RX4 6 135 0 0) (E : Ed κ none "evict" (.inl none) B 0 0)  : ∀ (fu : Nat) (A : Hp) (x1 : Int32),  k_X4_evict_19 x0  fu A x1 = some B → Vw κ A 0 0 19 [(0, .inr (.inr x0)), (1, .inl x1)] [] := by
  intro fu
  induction fu with
  | zero => intro A x1 h; cases h
  | succ fu hr19 =>
    intro A x1 h
    have h : k_X4_evict_19s x0  (k_X4_evict_19 x0  fu) A x1 = some B := h
    unfold k_X4_evict_19s at h
    refine Vw.iload_n (pc := 19) (x := x1) K dX4_evict_19 rfl ?_
    refine Vw.if_le (pc := 20) (tgt := 51) K dX4_evict_20 (by decide) (fun c8 => ?_) (fun c8 => ?_)
    · have h := wpos c8 h
      refine Vw.aload_n (pc := 51) (x := x0) K dX4_evict_51 rfl ?_
      obtain ⟨g9, h⟩ := wgd h
      refine Vw.getI (pc := 52) (k := 1) (f := 129) K cls2 rfl rfl u_2_7 g9 dX4_evict_52 ?_
      refine Vw.aload_n (pc := 55) (x := x0) K dX4_evict_55 rfl ?_
      refine Vw.getR (pc := 56) (k := 8) (f := 136) K cls2 rfl rfl u_2_19 g9 dX4_evict_56 ?_
      refine Vw.iconst (pc := 59) (v := (1 : Int32)) K (by decide) dX4_evict_59 ?_
      obtain ⟨g10, h⟩ := wgd h
      obtain ⟨g11, h⟩ := wgd h
      refine Vw.iaload (pc := 60) K g10 g11 dX4_evict_60 ?_
      refine Vw.isub (pc := 61) K dX4_evict_61 ?_
      refine Vw.istore_n (pc := 62) K dX4_evict_62 (by decide) ?_
      exact Vw.loc rfl (s_X4_evict_63 K E  _ _ _ h)
    · have h := wneg c8 h
      refine Vw.aload_n (pc := 23) (x := x0) K dX4_evict_23 rfl ?_
      refine Vw.aload_n (pc := 24) (x := x0) K dX4_evict_24 rfl ?_
      refine Vw.aload_n (pc := 25) (x := x0) K dX4_evict_25 rfl ?_
      obtain ⟨g12, h⟩ := wgd h
      refine Vw.getR (pc := 26) (k := 2) (f := 130) K cls2 rfl rfl u_2_9 g12 dX4_evict_26 ?_
      obtain ⟨g13, h⟩ := wgd h
      refine Vw.getR (pc := 29) (k := 2) (f := 66) K cls1 rfl rfl u_1_139 g13 dX4_evict_29 ?_
      refine Vw.aload_n (pc := 32) (x := x0) K dX4_evict_32 rfl ?_
      refine Vw.getR (pc := 33) (k := 2) (f := 130) K cls2 rfl rfl u_2_9 g12 dX4_evict_33 ?_
      refine Vw.getI (pc := 36) (k := 7) (f := 71) K cls1 rfl rfl u_1_154 g13 dX4_evict_36 ?_
      obtain ⟨v15, e14, h⟩ := wbd h
      refine Vw.cV1 (pc := 39) (v := .inl v15) (c' := 0) (n' := 0) K (s_X4_victimOfSite K.tr e14) cal_X4_victimOfSite cls2 u_4_223 g12 rfl ⟨by decide, by decide⟩ ⟨by decide, by decide⟩ rfl (Nat.le_of_ble_eq_true rfl) dX4_evict_39 rfl rfl ?_
      obtain ⟨A17, e16, h⟩ := wbd h
      refine Vw.cV0 (pc := 42) (c' := 0) (n' := 0) K (s_X4_dropVictim K.tr e16) cal_X4_dropVictim cls2 u_4_227 g12 rfl ⟨by decide, by decide⟩ ⟨by decide, by decide⟩ rfl (Nat.le_of_ble_eq_true rfl) dX4_evict_42 rfl rfl ?_
      refine Vw.iinc (pc := 45) (x := x1) (v := (-1 : Int32)) K dX4_evict_45 rfl (by decide) (by decide) ?_
      refine Vw.goto (pc := 48) (tgt := 19) K dX4_evict_48 (by decide) ?_
      exact Vw.loc rfl (hr19 _ _ h)
def f_X4_evict (A : Hp) (x0 : Nat) : Option (Hp) := if (hsh A x0).1 = 3 then if (hsh A (hgR A 130 x0 0)).1 = 2 then ((f_X4_sizeOfSite A x0 (hgR A 66 (hgR A 130 x0 0) 0)).bind fun v21 => if (hsh A (hgR A 136 x0 0)).1 = 10 then if wix (0 : Int32) (hsh A (hgR A 136 x0 0)).2 then k_X4_evict_19 x0 FU A (v21 - (hgI A 1034 (hgR A 136 x0 0) (0 : Int32).toNatClampNeg)) else none else none) else none else none
set_option maxRecDepth 100000 in
theorem s_X4_evict {l : Launch} {g : GT} (hl : l.stackTraces = false) {A : Hp} {x0 : Nat} {B : Hp} (h : f_X4_evict A x0 = some B) : MetV l g yX4_evict (.code yX4_evict cX4_evict 2 none) [.inr (.inr x0)] A (.inl none) B 6 135 0 0 := by
  refine MetV.ofV hl (by decide +kernel) (Nat.le_of_ble_eq_true rfl) (fun κ K E => ?_)
  have K : Cx κ cX4_evict 2 RX4 6 135 0 0 := K
  have E : Ed κ none "evict" (.inl none) B 0 0 := E
  unfold f_X4_evict at h
  change Vw κ A 0 0 0 [(0, .inr (.inr x0))] []
  refine Vw.aload_n (pc := 0) (x := x0) K dX4_evict_0 rfl ?_
  refine Vw.aload_n (pc := 1) (x := x0) K dX4_evict_1 rfl ?_
  obtain ⟨g18, h⟩ := wgd h
  refine Vw.getR (pc := 2) (k := 2) (f := 130) K cls2 rfl rfl u_2_9 g18 dX4_evict_2 ?_
  obtain ⟨g19, h⟩ := wgd h
  refine Vw.getR (pc := 5) (k := 2) (f := 66) K cls1 rfl rfl u_1_139 g19 dX4_evict_5 ?_
  obtain ⟨v21, e20, h⟩ := wbd h
  refine Vw.cV1 (pc := 8) (v := .inl v21) (c' := 0) (n' := 0) K (s_X4_sizeOfSite K.tr e20) cal_X4_sizeOfSite cls2 u_4_219 g18 rfl ⟨by decide, by decide⟩ ⟨by decide, by decide⟩ rfl (Nat.le_of_ble_eq_true rfl) dX4_evict_8 rfl rfl ?_
  refine Vw.aload_n (pc := 11) (x := x0) K dX4_evict_11 rfl ?_
  refine Vw.getR (pc := 12) (k := 8) (f := 136) K cls2 rfl rfl u_2_19 g18 dX4_evict_12 ?_
  refine Vw.iconst (pc := 15) (v := (0 : Int32)) K (by decide) dX4_evict_15 ?_
  obtain ⟨g22, h⟩ := wgd h
  obtain ⟨g23, h⟩ := wgd h
  refine Vw.iaload (pc := 16) K g22 g23 dX4_evict_16 ?_
  refine Vw.isub (pc := 17) K dX4_evict_17 ?_
  refine Vw.istore_n (pc := 18) K dX4_evict_18 (by decide) ?_
  exact Vw.loc rfl (s_X4_evict_19 K E  _ _ _ h)
theorem cal_X4_evict : wCalV RX4 yX4_evict (.code yX4_evict cX4_evict 2 none) 0 := ⟨by decide +kernel, u_4_216, u_4_217, u_1_5, u_4_218⟩
def k_X4_goes_118  (A : Hp)   : Option (Int32) := some (1 : Int32)
set_option maxRecDepth 100000 in
theorem s_X4_goes_118 {κ : KT} {r : Int32} {A : Hp}    (K : Cx κ cX4_goes 6 RX4 3 72 0 0) (E : Ed κ (some .boolean) "goes" (.inl (some (.inl r))) A 0 0)  (h : k_X4_goes_118  A   = some r) : Vw κ A 0 0 118 [] [] := by
  unfold k_X4_goes_118 at h
  refine Vw.iconst (pc := 118) (v := (1 : Int32)) K (by decide) dX4_goes_118 ?_
  refine Vw.goto (pc := 119) (tgt := 123) K dX4_goes_119 (by decide) ?_
  exact Vw.zretE (pc := 123) K (Or.inr rfl) (Option.some.inj h) rfl E (by decide) (by decide) dX4_goes_123
def k_X4_goes_95  (A : Hp) (x1 : Nat) (x2 : Int32) (x3 : Int32)  : Option (Int32) := (if x2 = (0 : Int32) then k_X4_goes_118 A else if (hsh A x1).1 = 2 then (if (hgI A 75 x1 0) = (0 : Int32) then k_X4_goes_118 A else (if (hgI A 75 x1 0) = (1 : Int32) then (if x3 = (0 : Int32) then some (0 : Int32) else k_X4_goes_118 A) else some (0 : Int32))) else none)
set_option maxRecDepth 100000 in
theorem s_X4_goes_95 {κ : KT} {r : Int32} {A : Hp} {x1 : Nat} {x2 : Int32} {x3 : Int32}   (K : Cx κ cX4_goes 6 RX4 3 72 0 0) (E : Ed κ (some .boolean) "goes" (.inl (some (.inl r))) A 0 0)  (h : k_X4_goes_95  A x1 x2 x3  = some r) : Vw κ A 0 0 95 [(1, .inr (.inr x1)), (2, .inl x2), (3, .inl x3)] [] := by
  unfold k_X4_goes_95 at h
  refine Vw.iload_n (pc := 95) (x := x2) K dX4_goes_95 rfl ?_
  refine Vw.if_eq (pc := 96) (tgt := 118) K dX4_goes_96 (by decide) (fun c1 => ?_) (fun c1 => ?_)
  · have h := wpos c1 h
    exact Vw.loc rfl (s_X4_goes_118 K E  h)
  · have h := wneg c1 h
    refine Vw.aload_n (pc := 99) (x := x1) K dX4_goes_99 rfl ?_
    obtain ⟨g2, h⟩ := wgd h
    refine Vw.getI (pc := 100) (k := 11) (f := 75) K cls1 rfl rfl u_1_166 g2 dX4_goes_100 ?_
    refine Vw.if_eq (pc := 103) (tgt := 118) K dX4_goes_103 (by decide) (fun c3 => ?_) (fun c3 => ?_)
    · have h := wpos c3 h
      exact Vw.loc rfl (s_X4_goes_118 K E  h)
    · have h := wneg c3 h
      refine Vw.aload_n (pc := 106) (x := x1) K dX4_goes_106 rfl ?_
      refine Vw.getI (pc := 107) (k := 11) (f := 75) K cls1 rfl rfl u_1_166 g2 dX4_goes_107 ?_
      refine Vw.iconst (pc := 110) (v := (1 : Int32)) K (by decide) dX4_goes_110 ?_
      refine Vw.icmp_ne (pc := 111) (tgt := 122) K dX4_goes_111 (by decide) (fun c4 => ?_) (fun c4 => ?_)
      · have h := wneg c4 h
        refine Vw.iconst (pc := 122) (v := (0 : Int32)) K (by decide) dX4_goes_122 ?_
        exact Vw.zretE (pc := 123) K (Or.inl rfl) (Option.some.inj h) rfl E (by decide) (by decide) dX4_goes_123
      · have h := wpos c4 h
        refine Vw.iload_n (pc := 114) (x := x3) K dX4_goes_114 rfl ?_
        refine Vw.if_eq (pc := 115) (tgt := 122) K dX4_goes_115 (by decide) (fun c5 => ?_) (fun c5 => ?_)
        · have h := wpos c5 h
          refine Vw.iconst (pc := 122) (v := (0 : Int32)) K (by decide) dX4_goes_122 ?_
          exact Vw.zretE (pc := 123) K (Or.inl rfl) (Option.some.inj h) rfl E (by decide) (by decide) dX4_goes_123
        · have h := wneg c5 h
          exact Vw.loc rfl (s_X4_goes_118 K E  h)
def k_X4_goes_81  (A : Hp) (x1 : Nat) (x2 : Int32) (x3 : Int32) (x4 : Int32)  : Option (Int32) := if (hsh A x1).1 = 2 then (if (hgI A 74 x1 0) = (0 : Int32) then k_X4_goes_95 A x1 x2 x3 else (if x4 = (0 : Int32) then k_X4_goes_95 A x1 x2 x3 else some (0 : Int32))) else none
set_option maxRecDepth 100000 in
theorem s_X4_goes_81 {κ : KT} {r : Int32} {A : Hp} {x1 : Nat} {x2 : Int32} {x3 : Int32} {x4 : Int32}   (K : Cx κ cX4_goes 6 RX4 3 72 0 0) (E : Ed κ (some .boolean) "goes" (.inl (some (.inl r))) A 0 0)  (h : k_X4_goes_81  A x1 x2 x3 x4  = some r) : Vw κ A 0 0 81 [(1, .inr (.inr x1)), (2, .inl x2), (3, .inl x3), (4, .inl x4)] [] := by
  unfold k_X4_goes_81 at h
  refine Vw.aload_n (pc := 81) (x := x1) K dX4_goes_81 rfl ?_
  obtain ⟨g6, h⟩ := wgd h
  refine Vw.getI (pc := 82) (k := 10) (f := 74) K cls1 rfl rfl u_1_163 g6 dX4_goes_82 ?_
  refine Vw.if_eq (pc := 85) (tgt := 95) K dX4_goes_85 (by decide) (fun c7 => ?_) (fun c7 => ?_)
  · have h := wpos c7 h
    exact Vw.loc rfl (s_X4_goes_95 K E  h)
  · have h := wneg c7 h
    refine Vw.iload (pc := 88) (x := x4) K dX4_goes_88 rfl ?_
    refine Vw.if_eq (pc := 90) (tgt := 95) K dX4_goes_90 (by decide) (fun c8 => ?_) (fun c8 => ?_)
    · have h := wpos c8 h
      exact Vw.loc rfl (s_X4_goes_95 K E  h)
    · have h := wneg c8 h
      refine Vw.iconst (pc := 93) (v := (0 : Int32)) K (by decide) dX4_goes_93 ?_
      exact Vw.zretE (pc := 94) K (Or.inl rfl) (Option.some.inj h) rfl E (by decide) (by decide) dX4_goes_94
def k_X4_goes_45  (A : Hp) (x0 : Nat) (x1 : Nat) (x2 : Int32) (x3 : Int32) (x4 : Int32)  : Option (Int32) := if (hsh A x0).1 = 3 then if (hsh A (hgR A 134 x0 0)).1 = 1 then if (hsh A x1).1 = 2 then if (hsh A (hgR A 1 (hgR A 134 x0 0) 0)).1 = 5 then ((f_X6_pathMatches A (hgR A 1 (hgR A 134 x0 0) 0) (hgR A 67 x1 0)).bind fun v14 => (if v14 = (0 : Int32) then some (0 : Int32) else (if (hgI A 73 x1 0) = (0 : Int32) then k_X4_goes_81 A x1 x2 x3 x4 else (if (hgI A 3 (hgR A 134 x0 0) 0) = (0 : Int32) then some (0 : Int32) else k_X4_goes_81 A x1 x2 x3 x4)))) else none else none else none else none
set_option maxRecDepth 100000 in
theorem s_X4_goes_45 {κ : KT} {r : Int32} {A : Hp} {x0 : Nat} {x1 : Nat} {x2 : Int32} {x3 : Int32} {x4 : Int32}   (K : Cx κ cX4_goes 6 RX4 3 72 0 0) (E : Ed κ (some .boolean) "goes" (.inl (some (.inl r))) A 0 0)  (h : k_X4_goes_45  A x0 x1 x2 x3 x4  = some r) : Vw κ A 0 0 45 [(0, .inr (.inr x0)), (1, .inr (.inr x1)), (2, .inl x2), (3, .inl x3), (4, .inl x4)] [] := by
  unfold k_X4_goes_45 at h
  refine Vw.aload_n (pc := 45) (x := x0) K dX4_goes_45 rfl ?_
  obtain ⟨g9, h⟩ := wgd h
  refine Vw.getR (pc := 46) (k := 6) (f := 134) K cls2 rfl rfl u_2_15 g9 dX4_goes_46 ?_
  obtain ⟨g10, h⟩ := wgd h
  refine Vw.getR (pc := 49) (k := 1) (f := 1) K cls0 rfl rfl u_1_228 g10 dX4_goes_49 ?_
  refine Vw.aload_n (pc := 52) (x := x1) K dX4_goes_52 rfl ?_
  obtain ⟨g11, h⟩ := wgd h
  refine Vw.getR (pc := 53) (k := 3) (f := 67) K cls1 rfl rfl u_1_142 g11 dX4_goes_53 ?_
  obtain ⟨g12, h⟩ := wgd h
  obtain ⟨v14, e13, h⟩ := wbd h
  refine Vw.cV1 (pc := 56) (v := .inl v14) (c' := 0) (n' := 0) K (s_X6_pathMatches K.tr e13) cal_X6_pathMatches cls4 u_5_15 g12 rfl ⟨by decide, by decide⟩ ⟨by decide, by decide⟩ rfl (Nat.le_of_ble_eq_true rfl) dX4_goes_56 rfl rfl ?_
  refine Vw.if_ne (pc := 59) (tgt := 64) K dX4_goes_59 (by decide) (fun c15 => ?_) (fun c15 => ?_)
  · have h := wneg c15 h
    refine Vw.aload_n (pc := 64) (x := x1) K dX4_goes_64 rfl ?_
    refine Vw.getI (pc := 65) (k := 9) (f := 73) K cls1 rfl rfl u_1_160 g11 dX4_goes_65 ?_
    refine Vw.if_eq (pc := 68) (tgt := 81) K dX4_goes_68 (by decide) (fun c16 => ?_) (fun c16 => ?_)
    · have h := wpos c16 h
      exact Vw.loc rfl (s_X4_goes_81 K E  h)
    · have h := wneg c16 h
      refine Vw.aload_n (pc := 71) (x := x0) K dX4_goes_71 rfl ?_
      refine Vw.getR (pc := 72) (k := 6) (f := 134) K cls2 rfl rfl u_2_15 g9 dX4_goes_72 ?_
      refine Vw.getI (pc := 75) (k := 3) (f := 3) K cls0 rfl rfl u_1_233 g10 dX4_goes_75 ?_
      refine Vw.if_eq (pc := 78) (tgt := 93) K dX4_goes_78 (by decide) (fun c17 => ?_) (fun c17 => ?_)
      · have h := wpos c17 h
        refine Vw.iconst (pc := 93) (v := (0 : Int32)) K (by decide) dX4_goes_93 ?_
        exact Vw.zretE (pc := 94) K (Or.inl rfl) (Option.some.inj h) rfl E (by decide) (by decide) dX4_goes_94
      · have h := wneg c17 h
        exact Vw.loc rfl (s_X4_goes_81 K E  h)
  · have h := wpos c15 h
    refine Vw.iconst (pc := 62) (v := (0 : Int32)) K (by decide) dX4_goes_62 ?_
    exact Vw.zretE (pc := 63) K (Or.inl rfl) (Option.some.inj h) rfl E (by decide) (by decide) dX4_goes_63
def f_X4_goes (A : Hp) (x0 : Nat) (x1 : Nat) (x2 : Int32) (x3 : Int32) (x4 : Int32) : Option (Int32) := if (hsh A x0).1 = 3 then if (hsh A (hgR A 134 x0 0)).1 = 1 then if (hsh A x1).1 = 2 then (if (hgI A 72 x1 0) = (0 : Int32) then if (hsh A (hgR A 0 (hgR A 134 x0 0) 0)).1 = 5 then ((f_X6_domainMatches A (hgR A 0 (hgR A 134 x0 0) 0) (hgR A 66 x1 0)).bind fun v24 => (if v24 = (0 : Int32) then some (0 : Int32) else k_X4_goes_45 A x0 x1 x2 x3 x4)) else none else if (hsh A (hgR A 0 (hgR A 134 x0 0) 0)).1 = 5 then ((f_X6_same A (hgR A 0 (hgR A 134 x0 0) 0) (hgR A 66 x1 0)).bind fun v28 => (if v28 = (0 : Int32) then some (0 : Int32) else k_X4_goes_45 A x0 x1 x2 x3 x4)) else none) else none else none else none
set_option maxRecDepth 100000 in
theorem s_X4_goes {l : Launch} {g : GT} (hl : l.stackTraces = false) {A : Hp} {x0 : Nat} {x1 : Nat} {x2 : Int32} {x3 : Int32} {x4 : Int32} {r : Int32} (h : f_X4_goes A x0 x1 x2 x3 x4 = some r) : MetV l g yX4_goes (.code yX4_goes cX4_goes 6 (some .boolean)) [.inr (.inr x0), .inr (.inr x1), .inl x2, .inl x3, .inl x4] A (.inl (some (.inl r))) A 3 72 0 0 := by
  refine MetV.ofV hl (by decide +kernel) (Nat.le_of_ble_eq_true rfl) (fun κ K E => ?_)
  have K : Cx κ cX4_goes 6 RX4 3 72 0 0 := K
  have E : Ed κ (some .boolean) "goes" (.inl (some (.inl r))) A 0 0 := E
  unfold f_X4_goes at h
  change Vw κ A 0 0 0 [(0, .inr (.inr x0)), (1, .inr (.inr x1)), (2, .inl x2), (3, .inl x3), (4, .inl x4)] []
  refine Vw.aload_n (pc := 0) (x := x0) K dX4_goes_0 rfl ?_
  obtain ⟨g18, h⟩ := wgd h
  refine Vw.getR (pc := 1) (k := 6) (f := 134) K cls2 rfl rfl u_2_15 g18 dX4_goes_1 ?_
  obtain ⟨g19, h⟩ := wgd h
  refine Vw.getR (pc := 4) (k := 0) (f := 0) K cls0 rfl rfl u_1_225 g19 dX4_goes_4 ?_
  refine Vw.astore (pc := 7) K dX4_goes_7 (by decide) ?_
  refine Vw.aload_n (pc := 9) (x := x1) K dX4_goes_9 rfl ?_
  obtain ⟨g20, h⟩ := wgd h
  refine Vw.getI (pc := 10) (k := 8) (f := 72) K cls1 rfl rfl u_1_157 g20 dX4_goes_10 ?_
  refine Vw.if_eq (pc := 13) (tgt := 31) K dX4_goes_13 (by decide) (fun c21 => ?_) (fun c21 => ?_)
  · have h := wpos c21 h
    refine Vw.aload (pc := 31) (x := (hgR A 0 (hgR A 134 x0 0) 0)) K dX4_goes_31 rfl ?_
    refine Vw.aload_n (pc := 33) (x := x1) K dX4_goes_33 rfl ?_
    refine Vw.getR (pc := 34) (k := 2) (f := 66) K cls1 rfl rfl u_1_139 g20 dX4_goes_34 ?_
    obtain ⟨g22, h⟩ := wgd h
    obtain ⟨v24, e23, h⟩ := wbd h
    refine Vw.cV1 (pc := 37) (v := .inl v24) (c' := 0) (n' := 0) K (s_X6_domainMatches K.tr e23) cal_X6_domainMatches cls4 u_4_115 g22 rfl ⟨by decide, by decide⟩ ⟨by decide, by decide⟩ rfl (Nat.le_of_ble_eq_true rfl) dX4_goes_37 rfl rfl ?_
    refine Vw.if_ne (pc := 40) (tgt := 45) K dX4_goes_40 (by decide) (fun c25 => ?_) (fun c25 => ?_)
    · have h := wneg c25 h
      exact Vw.loc rfl (s_X4_goes_45 K E  h)
    · have h := wpos c25 h
      refine Vw.iconst (pc := 43) (v := (0 : Int32)) K (by decide) dX4_goes_43 ?_
      exact Vw.zretE (pc := 44) K (Or.inl rfl) (Option.some.inj h) rfl E (by decide) (by decide) dX4_goes_44
  · have h := wneg c21 h
    refine Vw.aload (pc := 16) (x := (hgR A 0 (hgR A 134 x0 0) 0)) K dX4_goes_16 rfl ?_
    refine Vw.aload_n (pc := 18) (x := x1) K dX4_goes_18 rfl ?_
    refine Vw.getR (pc := 19) (k := 2) (f := 66) K cls1 rfl rfl u_1_139 g20 dX4_goes_19 ?_
    obtain ⟨g26, h⟩ := wgd h
    obtain ⟨v28, e27, h⟩ := wbd h
    refine Vw.cV1 (pc := 22) (v := .inl v28) (c' := 0) (n' := 0) K (s_X6_same K.tr e27) cal_X6_same cls4 u_4_114 g26 rfl ⟨by decide, by decide⟩ ⟨by decide, by decide⟩ rfl (Nat.le_of_ble_eq_true rfl) dX4_goes_22 rfl rfl ?_
    refine Vw.if_ne (pc := 25) (tgt := 45) K dX4_goes_25 (by decide) (fun c29 => ?_) (fun c29 => ?_)
    · have h := wneg c29 h
      exact Vw.loc rfl (s_X4_goes_45 K E  h)
    · have h := wpos c29 h
      refine Vw.goto (pc := 28) (tgt := 43) K dX4_goes_28 (by decide) ?_
      refine Vw.iconst (pc := 43) (v := (0 : Int32)) K (by decide) dX4_goes_43 ?_
      exact Vw.zretE (pc := 44) K (Or.inl rfl) (Option.some.inj h) rfl E (by decide) (by decide) dX4_goes_44
theorem cal_X4_goes : wCalV RX4 yX4_goes (.code yX4_goes cX4_goes 6 (some .boolean)) 4 := ⟨by decide +kernel, u_5_12, u_5_13, u_1_5, u_5_14⟩
def k_X4_enqueue_51  (A : Hp) (x0 : Nat) (x1 : Int32) (x3 : Int32)  : Option (Hp) := if (hsh A x0).1 = 3 then if (hsh A (hgR A 131 x0 0)).1 = 10 then if wix x3 (hsh A (hgR A 131 x0 0)).2 then some (hsI A 1034 (hgR A 131 x0 0) x3.toNatClampNeg x1) else none else none else none
set_option maxRecDepth 100000 in
theorem s_X4_enqueue_51 {κ : KT} {B : Hp} {A : Hp} {x0 : Nat} {x1 : Int32} {x3 : Int32}   (K : Cx κ cX4_enqueue 4 RX4 1 21 0 0) (E : Ed κ none "enqueue" (.inl none) B 0 0)  (h : k_X4_enqueue_51  A x0 x1 x3  = some B) : Vw κ A 0 0 51 [(0, .inr (.inr x0)), (1, .inl x1), (3, .inl x3)] [] := by
  unfold k_X4_enqueue_51 at h
  refine Vw.aload_n (pc := 51) (x := x0) K dX4_enqueue_51 rfl ?_
  obtain ⟨g1, h⟩ := wgd h
  refine Vw.getR (pc := 52) (k := 3) (f := 131) K cls2 rfl rfl u_2_10 g1 dX4_enqueue_52 ?_
  refine Vw.iload_n (pc := 55) (x := x3) K dX4_enqueue_55 rfl ?_
  refine Vw.iload_n (pc := 56) (x := x1) K dX4_enqueue_56 rfl ?_
  obtain ⟨g2, h⟩ := wgd h
  obtain ⟨g3, h⟩ := wgd h
  refine Vw.iastore (pc := 57) K g2 g3 dX4_enqueue_57 ?_
  exact Vw.vretE (pc := 58) K (Option.some.inj h) E (by decide) (by decide) dX4_enqueue_58
def k_X4_enqueue_2s  (x0 : Nat) (x1 : Int32)  (rec2 : Hp → Int32 → Option (Hp)) (A : Hp) (x3 : Int32) : Option (Hp) := (if x3 ≤ (0 : Int32) then k_X4_enqueue_51 A x0 x1 x3 else if (hsh A x0).1 = 3 then if (hsh A (hgR A 128 x0 0)).1 = 13 then if wix x1 (hsh A (hgR A 128 x0 0)).2 then if (hsh A (hgR A 131 x0 0)).1 = 10 then if wix (x3 - (1 : Int32)) (hsh A (hgR A 131 x0 0)).2 then if wix (hgI A 1034 (hgR A 131 x0 0) (x3 - (1 : Int32)).toNatClampNeg) (hsh A (hgR A 128 x0 0)).2 then if (hsh A (hgR A 1037 (hgR A 128 x0 0) x1.toNatClampNeg)).1 = 2 then ((f_X1_isSentBefore A (hgR A 1037 (hgR A 128 x0 0) x1.toNatClampNeg) (hgR A 1037 (hgR A 128 x0 0) (hgI A 1034 (hgR A 131 x0 0) (x3 - (1 : Int32)).toNatClampNeg).toNatClampNeg)).bind fun v13 => (if v13 = (0 : Int32) then k_X4_enqueue_51 A x0 x1 x3 else if wix x3 (hsh A (hgR A 131 x0 0)).2 then rec2 (hsI A 1034 (hgR A 131 x0 0) x3.toNatClampNeg (hgI A 1034 (hgR A 131 x0 0) (x3 - (1 : Int32)).toNatClampNeg)) (x3 + (-1 : Int32)) else none)) else none else none else none else none else none else none else none)
def k_X4_enqueue_2  (x0 : Nat) (x1 : Int32)  : Nat → Hp → Int32 → Option (Hp)
  | 0 => fun _ _ => none
  | fu + 1 => k_X4_enqueue_2s x0 x1  (k_X4_enqueue_2 x0 x1  fu)
set_option maxRecDepth 100000 in
theorem s_X4_enqueue_2 {κ : KT} {B : Hp}  {x0 : Nat} {x1 : Int32}  (K : Cx κ cX4_enqueue 4 RX4 1 21 0 0) (E : Ed κ none "enqueue" (.inl none) B 0 0)  : ∀ (fu : Nat) (A : Hp) (x3 : Int32),  k_X4_enqueue_2 x0 x1  fu A x3 = some B → Vw κ A 0 0 2 [(0, .inr (.inr x0)), (1, .inl x1), (3, .inl x3)] [] := by
  intro fu
  induction fu with
  | zero => intro A x3 h; cases h
  | succ fu hr2 =>
    intro A x3 h
    have h : k_X4_enqueue_2s x0 x1  (k_X4_enqueue_2 x0 x1  fu) A x3 = some B := h
    unfold k_X4_enqueue_2s at h
    refine Vw.iload_n (pc := 2) (x := x3) K dX4_enqueue_2 rfl ?_
    refine Vw.if_le (pc := 3) (tgt := 51) K dX4_enqueue_3 (by decide) (fun c4 => ?_) (fun c4 => ?_)
    · have h := wpos c4 h
      exact Vw.loc rfl (s_X4_enqueue_51 K E  h)
    · have h := wneg c4 h
      refine Vw.aload_n (pc := 6) (x := x0) K dX4_enqueue_6 rfl ?_
      obtain ⟨g5, h⟩ := wgd h
      refine Vw.getR (pc := 7) (k := 0) (f := 128) K cls2 rfl rfl u_2_5 g5 dX4_enqueue_7 ?_
      refine Vw.iload_n (pc := 10) (x := x1) K dX4_enqueue_10 rfl ?_
      obtain ⟨g6, h⟩ := wgd h
      obtain ⟨g7, h⟩ := wgd h
      refine Vw.aaloadC (pc := 11) K g6 g7 dX4_enqueue_11 ?_
      refine Vw.aload_n (pc := 12) (x := x0) K dX4_enqueue_12 rfl ?_
      refine Vw.getR (pc := 13) (k := 0) (f := 128) K cls2 rfl rfl u_2_5 g5 dX4_enqueue_13 ?_
      refine Vw.aload_n (pc := 16) (x := x0) K dX4_enqueue_16 rfl ?_
      refine Vw.getR (pc := 17) (k := 3) (f := 131) K cls2 rfl rfl u_2_10 g5 dX4_enqueue_17 ?_
      refine Vw.iload_n (pc := 20) (x := x3) K dX4_enqueue_20 rfl ?_
      refine Vw.iconst (pc := 21) (v := (1 : Int32)) K (by decide) dX4_enqueue_21 ?_
      refine Vw.isub (pc := 22) K dX4_enqueue_22 ?_
      obtain ⟨g8, h⟩ := wgd h
      obtain ⟨g9, h⟩ := wgd h
      refine Vw.iaload (pc := 23) K g8 g9 dX4_enqueue_23 ?_
      obtain ⟨g10, h⟩ := wgd h
      refine Vw.aaloadC (pc := 24) K g6 g10 dX4_enqueue_24 ?_
      obtain ⟨g11, h⟩ := wgd h
      obtain ⟨v13, e12, h⟩ := wbd h
      refine Vw.cV1 (pc := 25) (v := .inl v13) (c' := 0) (n' := 0) K (s_X1_isSentBefore K.tr e12) cal_X1_isSentBefore cls1 u_5_20 g11 rfl ⟨by decide, by decide⟩ ⟨by decide, by decide⟩ rfl (Nat.le_of_ble_eq_true rfl) dX4_enqueue_25 rfl rfl ?_
      refine Vw.if_eq (pc := 28) (tgt := 51) K dX4_enqueue_28 (by decide) (fun c14 => ?_) (fun c14 => ?_)
      · have h := wpos c14 h
        exact Vw.loc rfl (s_X4_enqueue_51 K E  h)
      · have h := wneg c14 h
        refine Vw.aload_n (pc := 31) (x := x0) K dX4_enqueue_31 rfl ?_
        refine Vw.getR (pc := 32) (k := 3) (f := 131) K cls2 rfl rfl u_2_10 g5 dX4_enqueue_32 ?_
        refine Vw.iload_n (pc := 35) (x := x3) K dX4_enqueue_35 rfl ?_
        refine Vw.aload_n (pc := 36) (x := x0) K dX4_enqueue_36 rfl ?_
        refine Vw.getR (pc := 37) (k := 3) (f := 131) K cls2 rfl rfl u_2_10 g5 dX4_enqueue_37 ?_
        refine Vw.iload_n (pc := 40) (x := x3) K dX4_enqueue_40 rfl ?_
        refine Vw.iconst (pc := 41) (v := (1 : Int32)) K (by decide) dX4_enqueue_41 ?_
        refine Vw.isub (pc := 42) K dX4_enqueue_42 ?_
        refine Vw.iaload (pc := 43) K g8 g9 dX4_enqueue_43 ?_
        obtain ⟨g15, h⟩ := wgd h
        refine Vw.iastore (pc := 44) K g8 g15 dX4_enqueue_44 ?_
        refine Vw.iinc (pc := 45) (x := x3) (v := (-1 : Int32)) K dX4_enqueue_45 rfl (by decide) (by decide) ?_
        refine Vw.goto (pc := 48) (tgt := 2) K dX4_enqueue_48 (by decide) ?_
        exact Vw.loc rfl (hr2 _ _ h)
def f_X4_enqueue (A : Hp) (x0 : Nat) (x1 : Int32) (x2 : Int32) : Option (Hp) := k_X4_enqueue_2 x0 x1 FU A x2
set_option maxRecDepth 100000 in
theorem s_X4_enqueue {l : Launch} {g : GT} (hl : l.stackTraces = false) {A : Hp} {x0 : Nat} {x1 : Int32} {x2 : Int32} {B : Hp} (h : f_X4_enqueue A x0 x1 x2 = some B) : MetV l g yX4_enqueue (.code yX4_enqueue cX4_enqueue 4 none) [.inr (.inr x0), .inl x1, .inl x2] A (.inl none) B 1 21 0 0 := by
  refine MetV.ofV hl (by decide +kernel) (Nat.le_of_ble_eq_true rfl) (fun κ K E => ?_)
  have K : Cx κ cX4_enqueue 4 RX4 1 21 0 0 := K
  have E : Ed κ none "enqueue" (.inl none) B 0 0 := E
  unfold f_X4_enqueue at h
  change Vw κ A 0 0 0 [(0, .inr (.inr x0)), (1, .inl x1), (2, .inl x2)] []
  refine Vw.iload_n (pc := 0) (x := x2) K dX4_enqueue_0 rfl ?_
  refine Vw.istore_n (pc := 1) K dX4_enqueue_1 (by decide) ?_
  exact Vw.loc rfl (s_X4_enqueue_2 K E  _ _ _ h)
theorem cal_X4_enqueue : wCalV RX4 yX4_enqueue (.code yX4_enqueue cX4_enqueue 4 none) 2 := ⟨by decide +kernel, u_5_18, us_2_14, u_1_5, u_5_19⟩
def k_X4_writeCookie_28  (A : Hp) (x0 : Nat) (x1 : Nat)  : Option (Hp) := if (hsh A x0).1 = 3 then if (hsh A x1).1 = 2 then if (hsh A (hgR A 135 x0 0)).1 = 5 then ((f_X6_append A (hgR A 135 x0 0) (hgR A 64 x1 0)).bind fun A5 => if (hsh A5 x0).1 = 3 then if (hsh A5 (hgR A5 135 x0 0)).1 = 5 then ((f_X6_add A5 (hgR A5 135 x0 0) (61 : Int32)).bind fun A9 => if (hsh A9 x0).1 = 3 then if (hsh A9 x1).1 = 2 then if (hsh A9 (hgR A9 135 x0 0)).1 = 5 then ((f_X6_append A9 (hgR A9 135 x0 0) (hgR A9 65 x1 0)).bind fun A14 => if (hsh A14 x0).1 = 3 then if (hsh A14 x1).1 = 2 then some (hsL A14 70 x1 0 (hgL A14 140 x0 0)) else none else none) else none else none else none) else none else none) else none else none else none
set_option maxRecDepth 100000 in
theorem s_X4_writeCookie_28 {κ : KT} {B : Hp} {A : Hp} {x0 : Nat} {x1 : Nat}   (K : Cx κ cX4_writeCookie 2 RX4 2 43 0 0) (E : Ed κ none "writeCookie" (.inl none) B 0 0)  (h : k_X4_writeCookie_28  A x0 x1  = some B) : Vw κ A 0 0 28 [(0, .inr (.inr x0)), (1, .inr (.inr x1))] [] := by
  unfold k_X4_writeCookie_28 at h
  refine Vw.aload_n (pc := 28) (x := x0) K dX4_writeCookie_28 rfl ?_
  obtain ⟨g1, h⟩ := wgd h
  refine Vw.getR (pc := 29) (k := 7) (f := 135) K cls2 rfl rfl u_2_17 g1 dX4_writeCookie_29 ?_
  refine Vw.aload_n (pc := 32) (x := x1) K dX4_writeCookie_32 rfl ?_
  obtain ⟨g2, h⟩ := wgd h
  refine Vw.getR (pc := 33) (k := 0) (f := 64) K cls1 rfl rfl u_1_133 g2 dX4_writeCookie_33 ?_
  obtain ⟨g3, h⟩ := wgd h
  obtain ⟨A5, e4, h⟩ := wbd h
  refine Vw.cV0 (pc := 36) (c' := 0) (n' := 0) K (s_X6_append K.tr e4) cal_X6_append cls4 u_5_29 g3 rfl ⟨by decide, by decide⟩ ⟨by decide, by decide⟩ rfl (Nat.le_of_ble_eq_true rfl) dX4_writeCookie_36 rfl rfl ?_
  refine Vw.aload_n (pc := 39) (x := x0) K dX4_writeCookie_39 rfl ?_
  obtain ⟨g6, h⟩ := wgd h
  refine Vw.getR (pc := 40) (k := 7) (f := 135) K cls2 rfl rfl u_2_17 g6 dX4_writeCookie_40 ?_
  refine Vw.bipush (pc := 43) (v := (61 : Int32)) K (by decide) dX4_writeCookie_43 ?_
  obtain ⟨g7, h⟩ := wgd h
  obtain ⟨A9, e8, h⟩ := wbd h
  refine Vw.cV0 (pc := 45) (c' := 0) (n' := 0) K (s_X6_add K.tr e8) cal_X6_add cls4 u_4_131 g7 rfl ⟨by decide, by decide⟩ ⟨by decide, by decide⟩ rfl (Nat.le_of_ble_eq_true rfl) dX4_writeCookie_45 rfl rfl ?_
  refine Vw.aload_n (pc := 48) (x := x0) K dX4_writeCookie_48 rfl ?_
  obtain ⟨g10, h⟩ := wgd h
  refine Vw.getR (pc := 49) (k := 7) (f := 135) K cls2 rfl rfl u_2_17 g10 dX4_writeCookie_49 ?_
  refine Vw.aload_n (pc := 52) (x := x1) K dX4_writeCookie_52 rfl ?_
  obtain ⟨g11, h⟩ := wgd h
  refine Vw.getR (pc := 53) (k := 1) (f := 65) K cls1 rfl rfl u_1_136 g11 dX4_writeCookie_53 ?_
  obtain ⟨g12, h⟩ := wgd h
  obtain ⟨A14, e13, h⟩ := wbd h
  refine Vw.cV0 (pc := 56) (c' := 0) (n' := 0) K (s_X6_append K.tr e13) cal_X6_append cls4 u_5_29 g12 rfl ⟨by decide, by decide⟩ ⟨by decide, by decide⟩ rfl (Nat.le_of_ble_eq_true rfl) dX4_writeCookie_56 rfl rfl ?_
  refine Vw.aload_n (pc := 59) (x := x1) K dX4_writeCookie_59 rfl ?_
  refine Vw.aload_n (pc := 60) (x := x0) K dX4_writeCookie_60 rfl ?_
  obtain ⟨g15, h⟩ := wgd h
  refine Vw.getL (pc := 61) (k := 12) (f := 140) K cls2 rfl rfl u_2_27 g15 dX4_writeCookie_61 ?_
  obtain ⟨g16, h⟩ := wgd h
  refine Vw.putL (pc := 64) (k := 6) (f := 70) K cls1 rfl rfl u_1_151 g16 (Or.inl rfl) rfl rfl dX4_writeCookie_64 ?_
  exact Vw.vretE (pc := 67) K (Option.some.inj h) E (by decide) (by decide) dX4_writeCookie_67
def f_X4_writeCookie (A : Hp) (x0 : Nat) (x1 : Nat) : Option (Hp) := if (hsh A x0).1 = 3 then if (hsh A (hgR A 135 x0 0)).1 = 5 then (if (hgI A 257 (hgR A 135 x0 0) 0) ≤ (0 : Int32) then k_X4_writeCookie_28 A x0 x1 else ((f_X6_add A (hgR A 135 x0 0) (59 : Int32)).bind fun A21 => if (hsh A21 x0).1 = 3 then if (hsh A21 (hgR A21 135 x0 0)).1 = 5 then ((f_X6_add A21 (hgR A21 135 x0 0) (32 : Int32)).bind fun A25 => k_X4_writeCookie_28 A25 x0 x1) else none else none)) else none else none
set_option maxRecDepth 100000 in
theorem s_X4_writeCookie {l : Launch} {g : GT} (hl : l.stackTraces = false) {A : Hp} {x0 : Nat} {x1 : Nat} {B : Hp} (h : f_X4_writeCookie A x0 x1 = some B) : MetV l g yX4_writeCookie (.code yX4_writeCookie cX4_writeCookie 2 none) [.inr (.inr x0), .inr (.inr x1)] A (.inl none) B 2 43 0 0 := by
  refine MetV.ofV hl (by decide +kernel) (Nat.le_of_ble_eq_true rfl) (fun κ K E => ?_)
  have K : Cx κ cX4_writeCookie 2 RX4 2 43 0 0 := K
  have E : Ed κ none "writeCookie" (.inl none) B 0 0 := E
  unfold f_X4_writeCookie at h
  change Vw κ A 0 0 0 [(0, .inr (.inr x0)), (1, .inr (.inr x1))] []
  refine Vw.aload_n (pc := 0) (x := x0) K dX4_writeCookie_0 rfl ?_
  obtain ⟨g17, h⟩ := wgd h
  refine Vw.getR (pc := 1) (k := 7) (f := 135) K cls2 rfl rfl u_2_17 g17 dX4_writeCookie_1 ?_
  obtain ⟨g18, h⟩ := wgd h
  refine Vw.getI (pc := 4) (k := 1) (f := 257) K cls4 rfl rfl u_1_50 g18 dX4_writeCookie_4 ?_
  refine Vw.if_le (pc := 7) (tgt := 28) K dX4_writeCookie_7 (by decide) (fun c19 => ?_) (fun c19 => ?_)
  · have h := wpos c19 h
    exact Vw.loc rfl (s_X4_writeCookie_28 K E  h)
  · have h := wneg c19 h
    refine Vw.aload_n (pc := 10) (x := x0) K dX4_writeCookie_10 rfl ?_
    refine Vw.getR (pc := 11) (k := 7) (f := 135) K cls2 rfl rfl u_2_17 g17 dX4_writeCookie_11 ?_
    refine Vw.bipush (pc := 14) (v := (59 : Int32)) K (by decide) dX4_writeCookie_14 ?_
    obtain ⟨A21, e20, h⟩ := wbd h
    refine Vw.cV0 (pc := 16) (c' := 0) (n' := 0) K (s_X6_add K.tr e20) cal_X6_add cls4 u_4_131 g18 rfl ⟨by decide, by decide⟩ ⟨by decide, by decide⟩ rfl (Nat.le_of_ble_eq_true rfl) dX4_writeCookie_16 rfl rfl ?_
    refine Vw.aload_n (pc := 19) (x := x0) K dX4_writeCookie_19 rfl ?_
    obtain ⟨g22, h⟩ := wgd h
    refine Vw.getR (pc := 20) (k := 7) (f := 135) K cls2 rfl rfl u_2_17 g22 dX4_writeCookie_20 ?_
    refine Vw.bipush (pc := 23) (v := (32 : Int32)) K (by decide) dX4_writeCookie_23 ?_
    obtain ⟨g23, h⟩ := wgd h
    obtain ⟨A25, e24, h⟩ := wbd h
    refine Vw.cV0 (pc := 25) (c' := 0) (n' := 0) K (s_X6_add K.tr e24) cal_X6_add cls4 u_4_131 g23 rfl ⟨by decide, by decide⟩ ⟨by decide, by decide⟩ rfl (Nat.le_of_ble_eq_true rfl) dX4_writeCookie_25 rfl rfl ?_
    exact Vw.loc rfl (s_X4_writeCookie_28 K E  h)
theorem cal_X4_writeCookie : wCalV RX4 yX4_writeCookie (.code yX4_writeCookie cX4_writeCookie 2 none) 1 := ⟨by decide +kernel, u_5_27, us_2_15, u_1_5, u_5_28⟩
def k_X4_writeHeader_59s  (x0 : Nat) (x4 : Int32)  (rec59 : Hp → Int32 → Option (Int32 × Hp)) (A : Hp) (x5 : Int32) : Option (Int32 × Hp) := (if x4 ≤ x5 then some (x4, A) else if (hsh A x0).1 = 3 then if (hsh A (hgR A 131 x0 0)).1 = 10 then if wix x5 (hsh A (hgR A 131 x0 0)).2 then if (hsh A (hgR A 128 x0 0)).1 = 13 then if wix (hgI A 1034 (hgR A 131 x0 0) x5.toNatClampNeg) (hsh A (hgR A 128 x0 0)).2 then ((f_X4_writeCookie A x0 (hgR A 1037 (hgR A 128 x0 0) (hgI A 1034 (hgR A 131 x0 0) x5.toNatClampNeg).toNatClampNeg)).bind fun A8 => rec59 A8 (x5 + (1 : Int32))) else none else none else none else none else none)
def k_X4_writeHeader_59  (x0 : Nat) (x4 : Int32)  : Nat → Hp → Int32 → Option (Int32 × Hp)
  | 0 => fun _ _ => none
  | fu + 1 => k_X4_writeHeader_59s x0 x4  (k_X4_writeHeader_59 x0 x4  fu)
set_option maxRecDepth 100000 in
theorem s_X4_writeHeader_59 {κ : KT} {r : Int32} {B : Hp}  {x0 : Nat} {x4 : Int32}  (K : Cx κ cX4_writeHeader 6 RX4 4 97 0 0) (E : Ed κ (some .int) "writeHeader" (.inl (some (.inl r))) B 0 0)  : ∀ (fu : Nat) (A : Hp) (x5 : Int32),  k_X4_writeHeader_59 x0 x4  fu A x5 = some (r, B) → Vw κ A 0 0 59 [(0, .inr (.inr x0)), (4, .inl x4), (5, .inl x5)] [] := by
  intro fu
  induction fu with
  | zero => intro A x5 h; cases h
  | succ fu hr59 =>
    intro A x5 h
    have h : k_X4_writeHeader_59s x0 x4  (k_X4_writeHeader_59 x0 x4  fu) A x5 = some (r, B) := h
    unfold k_X4_writeHeader_59s at h
    refine Vw.iload (pc := 59) (x := x5) K dX4_writeHeader_59 rfl ?_
    refine Vw.iload (pc := 61) (x := x4) K dX4_writeHeader_61 rfl ?_
    refine Vw.icmp_ge (pc := 63) (tgt := 88) K dX4_writeHeader_63 (by decide) (fun c1 => ?_) (fun c1 => ?_)
    · have h := wpos c1 h
      refine Vw.iload (pc := 88) (x := x4) K dX4_writeHeader_88 rfl ?_
      exact Vw.iretH (pc := 90) K h E (by decide) (by decide) dX4_writeHeader_90
    · have h := wneg c1 h
      refine Vw.aload_n (pc := 66) (x := x0) K dX4_writeHeader_66 rfl ?_
      refine Vw.aload_n (pc := 67) (x := x0) K dX4_writeHeader_67 rfl ?_
      obtain ⟨g2, h⟩ := wgd h
      refine Vw.getR (pc := 68) (k := 0) (f := 128) K cls2 rfl rfl u_2_5 g2 dX4_writeHeader_68 ?_
      refine Vw.aload_n (pc := 71) (x := x0) K dX4_writeHeader_71 rfl ?_
      refine Vw.getR (pc := 72) (k := 3) (f := 131) K cls2 rfl rfl u_2_10 g2 dX4_writeHeader_72 ?_
      refine Vw.iload (pc := 75) (x := x5) K dX4_writeHeader_75 rfl ?_
      obtain ⟨g3, h⟩ := wgd h
      obtain ⟨g4, h⟩ := wgd h
      refine Vw.iaload (pc := 77) K g3 g4 dX4_writeHeader_77 ?_
      obtain ⟨g5, h⟩ := wgd h
      obtain ⟨g6, h⟩ := wgd h
      refine Vw.aaloadC (pc := 78) K g5 g6 dX4_writeHeader_78 ?_
      obtain ⟨A8, e7, h⟩ := wbd h
      refine Vw.cV0 (pc := 79) (c' := 0) (n' := 0) K (s_X4_writeCookie K.tr e7) cal_X4_writeCookie cls2 u_5_25 g2 rfl ⟨by decide, by decide⟩ ⟨by decide, by decide⟩ rfl (Nat.le_of_ble_eq_true rfl) dX4_writeHeader_79 rfl rfl ?_
      refine Vw.iinc (pc := 82) (x := x5) (v := (1 : Int32)) K dX4_writeHeader_82 rfl (by decide) (by decide) ?_
      refine Vw.goto (pc := 85) (tgt := 59) K dX4_writeHeader_85 (by decide) ?_
      exact Vw.loc rfl (hr59 _ _ h)
def k_X4_writeHeader_43 (rec6 : Hp → Int32 → Int32 → Option (Int32 × Hp)) (A : Hp) (x0 : Nat) (x1 : Int32) (x2 : Int32) (x3 : Int32) (x4 : Int32) (x5 : Int32)  : Option (Int32 × Hp) := rec6 A x4 (x5 + (1 : Int32))
set_option maxRecDepth 100000 in
theorem s_X4_writeHeader_43 {κ : KT} {r : Int32} {B : Hp} {A : Hp} {x0 : Nat} {x1 : Int32} {x2 : Int32} {x3 : Int32} {x4 : Int32} {x5 : Int32}  {rec6 : Hp → Int32 → Int32 → Option (Int32 × Hp)} (K : Cx κ cX4_writeHeader 6 RX4 4 97 0 0) (E : Ed κ (some .int) "writeHeader" (.inl (some (.inl r))) B 0 0) (hr6 : ∀ (A : Hp) (x4 : Int32) (x5 : Int32), rec6 A x4 x5 = some (r, B) → Vw κ A 0 0 6 [(0, .inr (.inr x0)), (1, .inl x1), (2, .inl x2), (3, .inl x3), (4, .inl x4), (5, .inl x5)] []) (h : k_X4_writeHeader_43 rec6 A x0 x1 x2 x3 x4 x5  = some (r, B)) : Vw κ A 0 0 43 [(0, .inr (.inr x0)), (1, .inl x1), (2, .inl x2), (3, .inl x3), (4, .inl x4), (5, .inl x5)] [] := by
  unfold k_X4_writeHeader_43 at h
  refine Vw.iinc (pc := 43) (x := x5) (v := (1 : Int32)) K dX4_writeHeader_43 rfl (by decide) (by decide) ?_
  refine Vw.goto (pc := 46) (tgt := 6) K dX4_writeHeader_46 (by decide) ?_
  exact Vw.loc rfl (hr6 _ _ _ h)
def k_X4_writeHeader_6s  (x0 : Nat) (x1 : Int32) (x2 : Int32) (x3 : Int32)  (rec6 : Hp → Int32 → Int32 → Option (Int32 × Hp)) (A : Hp) (x4 : Int32) (x5 : Int32) : Option (Int32 × Hp) := if (hsh A x0).1 = 3 then (if (hgI A 129 x0 0) ≤ x5 then if (hsh A (hgR A 135 x0 0)).1 = 5 then ((f_X6_empty A (hgR A 135 x0 0)).bind fun A13 => k_X4_writeHeader_59 x0 x4 FU A13 (0 : Int32)) else none else if (hsh A (hgR A 128 x0 0)).1 = 13 then if wix x5 (hsh A (hgR A 128 x0 0)).2 then ((f_X4_goes A x0 (hgR A 1037 (hgR A 128 x0 0) x5.toNatClampNeg) x1 x2 x3).bind fun v17 => (if v17 = (0 : Int32) then k_X4_writeHeader_43 rec6 A x0 x1 x2 x3 x4 x5 else ((f_X4_enqueue A x0 x5 x4).bind fun A20 => k_X4_writeHeader_43 rec6 A20 x0 x1 x2 x3 (x4 + (1 : Int32)) x5))) else none else none) else none
def k_X4_writeHeader_6  (x0 : Nat) (x1 : Int32) (x2 : Int32) (x3 : Int32)  : Nat → Hp → Int32 → Int32 → Option (Int32 × Hp)
  | 0 => fun _ _ _ => none
  | fu + 1 => k_X4_writeHeader_6s x0 x1 x2 x3  (k_X4_writeHeader_6 x0 x1 x2 x3  fu)
set_option maxRecDepth 100000 in
theorem s_X4_writeHeader_6 {κ : KT} {r : Int32} {B : Hp}  {x0 : Nat} {x1 : Int32} {x2 : Int32} {x3 : Int32}  (K : Cx κ cX4_writeHeader 6 RX4 4 97 0 0) (E : Ed κ (some .int) "writeHeader" (.inl (some (.inl r))) B 0 0)  : ∀ (fu : Nat) (A : Hp) (x4 : Int32) (x5 : Int32),  k_X4_writeHeader_6 x0 x1 x2 x3  fu A x4 x5 = some (r, B) → Vw κ A 0 0 6 [(0, .inr (.inr x0)), (1, .inl x1), (2, .inl x2), (3, .inl x3), (4, .inl x4), (5, .inl x5)] [] := by
  intro fu
  induction fu with
  | zero => intro A x4 x5 h; cases h
  | succ fu hr6 =>
    intro A x4 x5 h
    have h : k_X4_writeHeader_6s x0 x1 x2 x3  (k_X4_writeHeader_6 x0 x1 x2 x3  fu) A x4 x5 = some (r, B) := h
    unfold k_X4_writeHeader_6s at h
    refine Vw.iload (pc := 6) (x := x5) K dX4_writeHeader_6 rfl ?_
    refine Vw.aload_n (pc := 8) (x := x0) K dX4_writeHeader_8 rfl ?_
    obtain ⟨g9, h⟩ := wgd h
    refine Vw.getI (pc := 9) (k := 1) (f := 129) K cls2 rfl rfl u_2_7 g9 dX4_writeHeader_9 ?_
    refine Vw.icmp_ge (pc := 12) (tgt := 49) K dX4_writeHeader_12 (by decide) (fun c10 => ?_) (fun c10 => ?_)
    · have h := wpos c10 h
      refine Vw.aload_n (pc := 49) (x := x0) K dX4_writeHeader_49 rfl ?_
      refine Vw.getR (pc := 50) (k := 7) (f := 135) K cls2 rfl rfl u_2_17 g9 dX4_writeHeader_50 ?_
      obtain ⟨g11, h⟩ := wgd h
      obtain ⟨A13, e12, h⟩ := wbd h
      refine Vw.cV0 (pc := 53) (c' := 0) (n' := 0) K (s_X6_empty K.tr e12) cal_X6_empty cls4 u_5_24 g11 rfl ⟨by decide, by decide⟩ ⟨by decide, by decide⟩ rfl (Nat.le_of_ble_eq_true rfl) dX4_writeHeader_53 rfl rfl ?_
      refine Vw.iconst (pc := 56) (v := (0 : Int32)) K (by decide) dX4_writeHeader_56 ?_
      refine Vw.istore (pc := 57) K dX4_writeHeader_57 (by decide) ?_
      exact Vw.loc rfl (s_X4_writeHeader_59 K E  _ _ _ h)
    · have h := wneg c10 h
      refine Vw.aload_n (pc := 15) (x := x0) K dX4_writeHeader_15 rfl ?_
      refine Vw.aload_n (pc := 16) (x := x0) K dX4_writeHeader_16 rfl ?_
      refine Vw.getR (pc := 17) (k := 0) (f := 128) K cls2 rfl rfl u_2_5 g9 dX4_writeHeader_17 ?_
      refine Vw.iload (pc := 20) (x := x5) K dX4_writeHeader_20 rfl ?_
      obtain ⟨g14, h⟩ := wgd h
      obtain ⟨g15, h⟩ := wgd h
      refine Vw.aaloadC (pc := 22) K g14 g15 dX4_writeHeader_22 ?_
      refine Vw.iload_n (pc := 23) (x := x1) K dX4_writeHeader_23 rfl ?_
      refine Vw.iload_n (pc := 24) (x := x2) K dX4_writeHeader_24 rfl ?_
      refine Vw.iload_n (pc := 25) (x := x3) K dX4_writeHeader_25 rfl ?_
      obtain ⟨v17, e16, h⟩ := wbd h
      refine Vw.cV1 (pc := 26) (v := .inl v17) (c' := 0) (n' := 0) K (s_X4_goes K.tr e16) cal_X4_goes cls2 u_5_11 g9 rfl ⟨by decide, by decide⟩ ⟨by decide, by decide⟩ rfl (Nat.le_of_ble_eq_true rfl) dX4_writeHeader_26 rfl rfl ?_
      refine Vw.if_eq (pc := 29) (tgt := 43) K dX4_writeHeader_29 (by decide) (fun c18 => ?_) (fun c18 => ?_)
      · have h := wpos c18 h
        exact Vw.loc rfl (s_X4_writeHeader_43 K E hr6 h)
      · have h := wneg c18 h
        refine Vw.aload_n (pc := 32) (x := x0) K dX4_writeHeader_32 rfl ?_
        refine Vw.iload (pc := 33) (x := x5) K dX4_writeHeader_33 rfl ?_
        refine Vw.iload (pc := 35) (x := x4) K dX4_writeHeader_35 rfl ?_
        obtain ⟨A20, e19, h⟩ := wbd h
        refine Vw.cV0 (pc := 37) (c' := 0) (n' := 0) K (s_X4_enqueue K.tr e19) cal_X4_enqueue cls2 u_5_16 g9 rfl ⟨by decide, by decide⟩ ⟨by decide, by decide⟩ rfl (Nat.le_of_ble_eq_true rfl) dX4_writeHeader_37 rfl rfl ?_
        refine Vw.iinc (pc := 40) (x := x4) (v := (1 : Int32)) K dX4_writeHeader_40 rfl (by decide) (by decide) ?_
        exact Vw.loc rfl (s_X4_writeHeader_43 K E hr6 h)
def f_X4_writeHeader (A : Hp) (x0 : Nat) (x1 : Int32) (x2 : Int32) (x3 : Int32) : Option (Int32 × Hp) := k_X4_writeHeader_6 x0 x1 x2 x3 FU A (0 : Int32) (0 : Int32)
set_option maxRecDepth 100000 in
theorem s_X4_writeHeader {l : Launch} {g : GT} (hl : l.stackTraces = false) {A : Hp} {x0 : Nat} {x1 : Int32} {x2 : Int32} {x3 : Int32} {r : Int32} {B : Hp} (h : f_X4_writeHeader A x0 x1 x2 x3 = some (r, B)) : MetV l g yX4_writeHeader (.code yX4_writeHeader cX4_writeHeader 6 (some .int)) [.inr (.inr x0), .inl x1, .inl x2, .inl x3] A (.inl (some (.inl r))) B 4 97 0 0 := by
  refine MetV.ofV hl (by decide +kernel) (Nat.le_of_ble_eq_true rfl) (fun κ K E => ?_)
  have K : Cx κ cX4_writeHeader 6 RX4 4 97 0 0 := K
  have E : Ed κ (some .int) "writeHeader" (.inl (some (.inl r))) B 0 0 := E
  unfold f_X4_writeHeader at h
  change Vw κ A 0 0 0 [(0, .inr (.inr x0)), (1, .inl x1), (2, .inl x2), (3, .inl x3)] []
  refine Vw.iconst (pc := 0) (v := (0 : Int32)) K (by decide) dX4_writeHeader_0 ?_
  refine Vw.istore (pc := 1) K dX4_writeHeader_1 (by decide) ?_
  refine Vw.iconst (pc := 3) (v := (0 : Int32)) K (by decide) dX4_writeHeader_3 ?_
  refine Vw.istore (pc := 4) K dX4_writeHeader_4 (by decide) ?_
  exact Vw.loc rfl (s_X4_writeHeader_6 K E  _ _ _ _ h)
theorem cal_X4_writeHeader : wCalV RX4 yX4_writeHeader (.code yX4_writeHeader cX4_writeHeader 6 (some .int)) 3 := ⟨by decide +kernel, u_5_8, u_5_9, u_1_5, u_5_10⟩
def k_X4_firstNotBefore_2s (A : Hp) (x0 : Nat) (x1 : Nat)  (rec2 : Int32 → Option (Int32))  (x2 : Int32) : Option (Int32) := if (hsh A x0).1 = 3 then (if (hgI A 129 x0 0) ≤ x2 then some (-1 : Int32) else if (hsh A (hgR A 128 x0 0)).1 = 13 then if wix x2 (hsh A (hgR A 128 x0 0)).2 then if (hsh A (hgR A 1037 (hgR A 128 x0 0) x2.toNatClampNeg)).1 = 2 then ((f_X3_compare A (hgR A 66 (hgR A 1037 (hgR A 128 x0 0) x2.toNatClampNeg) 0) x1).bind fun v7 => (if v7 < (0 : Int32) then rec2 (x2 + (1 : Int32)) else some x2)) else none else none else none) else none
def k_X4_firstNotBefore_2 (A : Hp) (x0 : Nat) (x1 : Nat)  : Nat → Int32 → Option (Int32)
  | 0 => fun _ => none
  | fu + 1 => k_X4_firstNotBefore_2s A x0 x1  (k_X4_firstNotBefore_2 A x0 x1  fu)
set_option maxRecDepth 100000 in
theorem s_X4_firstNotBefore_2 {κ : KT} {r : Int32} {A : Hp} {x0 : Nat} {x1 : Nat}  (K : Cx κ cX4_firstNotBefore 3 RX4 3 78 0 0) (E : Ed κ (some .int) "firstNotBefore" (.inl (some (.inl r))) A 0 0)  : ∀ (fu : Nat)  (x2 : Int32),  k_X4_firstNotBefore_2 A x0 x1  fu x2 = some r → Vw κ A 0 0 2 [(0, .inr (.inr x0)), (1, .inr (.inr x1)), (2, .inl x2)] [] := by
  intro fu
  induction fu with
  | zero => intro x2 h; cases h
  | succ fu hr2 =>
    intro x2 h
    have h : k_X4_firstNotBefore_2s A x0 x1  (k_X4_firstNotBefore_2 A x0 x1  fu) x2 = some r := h
    unfold k_X4_firstNotBefore_2s at h
    refine Vw.iload_n (pc := 2) (x := x2) K dX4_firstNotBefore_2 rfl ?_
    refine Vw.aload_n (pc := 3) (x := x0) K dX4_firstNotBefore_3 rfl ?_
    obtain ⟨g1, h⟩ := wgd h
    refine Vw.getI (pc := 4) (k := 1) (f := 129) K cls2 rfl rfl u_2_7 g1 dX4_firstNotBefore_4 ?_
    refine Vw.icmp_ge (pc := 7) (tgt := 34) K dX4_firstNotBefore_7 (by decide) (fun c2 => ?_) (fun c2 => ?_)
    · have h := wpos c2 h
      refine Vw.iconst (pc := 34) (v := (-1 : Int32)) K (by decide) dX4_firstNotBefore_34 ?_
      exact Vw.iretE (pc := 35) K (Option.some.inj h) rfl E (by decide) (by decide) dX4_firstNotBefore_35
    · have h := wneg c2 h
      refine Vw.aload_n (pc := 10) (x := x0) K dX4_firstNotBefore_10 rfl ?_
      refine Vw.getR (pc := 11) (k := 0) (f := 128) K cls2 rfl rfl u_2_5 g1 dX4_firstNotBefore_11 ?_
      refine Vw.iload_n (pc := 14) (x := x2) K dX4_firstNotBefore_14 rfl ?_
      obtain ⟨g3, h⟩ := wgd h
      obtain ⟨g4, h⟩ := wgd h
      refine Vw.aaloadC (pc := 15) K g3 g4 dX4_firstNotBefore_15 ?_
      obtain ⟨g5, h⟩ := wgd h
      refine Vw.getR (pc := 16) (k := 2) (f := 66) K cls1 rfl rfl u_1_139 g5 dX4_firstNotBefore_16 ?_
      refine Vw.aload_n (pc := 19) (x := x1) K dX4_firstNotBefore_19 rfl ?_
      obtain ⟨v7, e6, h⟩ := wbd h
      refine Vw.cS1 (pc := 20) (v := .inl v7) (c' := 0) (n' := 0) K (s_X3_compare K.tr e6) cal_X3_compare u_5_159 rfl ⟨by decide, by decide⟩ ⟨by decide, by decide⟩ rfl (Nat.le_of_ble_eq_true rfl) dX4_firstNotBefore_20 rfl rfl ?_
      refine Vw.if_lt (pc := 23) (tgt := 28) K dX4_firstNotBefore_23 (by decide) (fun c8 => ?_) (fun c8 => ?_)
      · have h := wpos c8 h
        refine Vw.iinc (pc := 28) (x := x2) (v := (1 : Int32)) K dX4_firstNotBefore_28 rfl (by decide) (by decide) ?_
        refine Vw.goto (pc := 31) (tgt := 2) K dX4_firstNotBefore_31 (by decide) ?_
        exact Vw.loc rfl (hr2 _ h)
      · have h := wneg c8 h
        refine Vw.iload_n (pc := 26) (x := x2) K dX4_firstNotBefore_26 rfl ?_
        exact Vw.iretE (pc := 27) K (Option.some.inj h) rfl E (by decide) (by decide) dX4_firstNotBefore_27
def f_X4_firstNotBefore (A : Hp) (x0 : Nat) (x1 : Nat) : Option (Int32) := k_X4_firstNotBefore_2 A x0 x1 FU (0 : Int32)
set_option maxRecDepth 100000 in
theorem s_X4_firstNotBefore {l : Launch} {g : GT} (hl : l.stackTraces = false) {A : Hp} {x0 : Nat} {x1 : Nat} {r : Int32} (h : f_X4_firstNotBefore A x0 x1 = some r) : MetV l g yX4_firstNotBefore (.code yX4_firstNotBefore cX4_firstNotBefore 3 (some .int)) [.inr (.inr x0), .inr (.inr x1)] A (.inl (some (.inl r))) A 3 78 0 0 := by
  refine MetV.ofV hl (by decide +kernel) (Nat.le_of_ble_eq_true rfl) (fun κ K E => ?_)
  have K : Cx κ cX4_firstNotBefore 3 RX4 3 78 0 0 := K
  have E : Ed κ (some .int) "firstNotBefore" (.inl (some (.inl r))) A 0 0 := E
  unfold f_X4_firstNotBefore at h
  change Vw κ A 0 0 0 [(0, .inr (.inr x0)), (1, .inr (.inr x1))] []
  refine Vw.iconst (pc := 0) (v := (0 : Int32)) K (by decide) dX4_firstNotBefore_0 ?_
  refine Vw.istore_n (pc := 1) K dX4_firstNotBefore_1 (by decide) ?_
  exact Vw.loc rfl (s_X4_firstNotBefore_2 K E  _ _ h)
theorem cal_X4_firstNotBefore : wCalV RX4 yX4_firstNotBefore (.code yX4_firstNotBefore cX4_firstNotBefore 3 (some .int)) 1 := ⟨by decide +kernel, u_5_156, u_5_157, u_1_5, u_5_158⟩
