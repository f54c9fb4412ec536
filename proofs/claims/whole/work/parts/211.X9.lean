def k_X9_init_911  (A : Hp) (x0 : Nat)  : Option (Hp) := if (hsh A x0).1 = 8 then if (hsh A (hgR A 448 x0 0)).1 = 11 then if wix (2 : Int32) (hsh A (hgR A 448 x0 0)).2 then if (hsh (hsL A 1035 (hgR A 448 x0 0) (2 : Int32).toNatClampNeg (5 : Int64)) (hgR (hsL A 1035 (hgR A 448 x0 0) (2 : Int32).toNatClampNeg (5 : Int64)) 448 x0 0)).1 = 11 then if wix (3 : Int32) (hsh (hsL A 1035 (hgR A 448 x0 0) (2 : Int32).toNatClampNeg (5 : Int64)) (hgR (hsL A 1035 (hgR A 448 x0 0) (2 : Int32).toNatClampNeg (5 : Int64)) 448 x0 0)).2 then some (hsL (hsL A 1035 (hgR A 448 x0 0) (2 : Int32).toNatClampNeg (5 : Int64)) 1035 (hgR (hsL A 1035 (hgR A 448 x0 0) (2 : Int32).toNatClampNeg (5 : Int64)) 448 x0 0) (3 : Int32).toNatClampNeg (20 : Int64)) else none else none else none else none else none
set_option maxRecDepth 100000 in
theorem s_X9_init_911 {κ : KT} {B : Hp} {A : Hp} {x0 : Nat}   (K : Cx κ cX9_init 1 RX9 1 20 22 25941) (E : Ed κ none "<init>" (.inl none) B 22 25941)  (h : k_X9_init_911  A x0  = some B) : Vw κ A 22 25941 911 [(0, .inr (.inr x0))] [] := by
  unfold k_X9_init_911 at h
  refine Vw.aload_n (pc := 911) (x := x0) K dX9_init_911 rfl ?_
  obtain ⟨g1, h⟩ := wgd h
  refine Vw.getR (pc := 912) (k := 0) (f := 448) K cls7 rfl rfl u_6_17 g1 dX9_init_912 ?_
  refine Vw.iconst (pc := 915) (v := (2 : Int32)) K (by decide) dX9_init_915 ?_
  refine Vw.ldc2 (pc := 916) (v := (5 : Int64)) K u_6_15 dX9_init_916 ?_
  obtain ⟨g2, h⟩ := wgd h
  obtain ⟨g3, h⟩ := wgd h
  refine Vw.lastore (pc := 919) K g2 g3 dX9_init_919 ?_
  refine Vw.aload_n (pc := 920) (x := x0) K dX9_init_920 rfl ?_
  refine Vw.getR (pc := 921) (k := 0) (f := 448) K cls7 rfl rfl u_6_17 g1 dX9_init_921 ?_
  refine Vw.iconst (pc := 924) (v := (3 : Int32)) K (by decide) dX9_init_924 ?_
  refine Vw.ldc2 (pc := 925) (v := (20 : Int64)) K u_6_16 dX9_init_925 ?_
  obtain ⟨g4, h⟩ := wgd h
  obtain ⟨g5, h⟩ := wgd h
  refine Vw.lastore (pc := 928) K g4 g5 dX9_init_928 ?_
  exact Vw.vretE (pc := 929) K (Option.some.inj h) E (by decide) (by decide) dX9_init_929
def k_X9_init_693  (A : Hp) (x0 : Nat)  : Option (Hp) := if (hsh (hmk A 9 36) (hsz A)).1 = 9 then if wix (0 : Int32) (hsh (hmk A 9 36) (hsz A)).2 then if wix (1 : Int32) (hsh (hsI (hmk A 9 36) 1033 (hsz A) (0 : Int32).toNatClampNeg (vp_nar .char (74 : Int32))) (hsz A)).2 then if wix (2 : Int32) (hsh (hsI (hsI (hmk A 9 36) 1033 (hsz A) (0 : Int32).toNatClampNeg (vp_nar .char (74 : Int32))) 1033 (hsz A) (1 : Int32).toNatClampNeg (vp_nar .char (97 : Int32))) (hsz A)).2 then if wix (3 : Int32) (hsh (hsI (hsI (hsI (hmk A 9 36) 1033 (hsz A) (0 : Int32).toNatClampNeg (vp_nar .char (74 : Int32))) 1033 (hsz A) (1 : Int32).toNatClampNeg (vp_nar .char (97 : Int32))) 1033 (hsz A) (2 : Int32).toNatClampNeg (vp_nar .char (110 : Int32))) (hsz A)).2 then if wix (4 : Int32) (hsh (hsI (hsI (hsI (hsI (hmk A 9 36) 1033 (hsz A) (0 : Int32).toNatClampNeg (vp_nar .char (74 : Int32))) 1033 (hsz A) (1 : Int32).toNatClampNeg (vp_nar .char (97 : Int32))) 1033 (hsz A) (2 : Int32).toNatClampNeg (vp_nar .char (110 : Int32))) 1033 (hsz A) (3 : Int32).toNatClampNeg (vp_nar .char (70 : Int32))) (hsz A)).2 then if wix (5 : Int32) (hsh (hsI (hsI (hsI (hsI (hsI (hmk A 9 36) 1033 (hsz A) (0 : Int32).toNatClampNeg (vp_nar .char (74 : Int32))) 1033 (hsz A) (1 : Int32).toNatClampNeg (vp_nar .char (97 : Int32))) 1033 (hsz A) (2 : Int32).toNatClampNeg (vp_nar .char (110 : Int32))) 1033 (hsz A) (3 : Int32).toNatClampNeg (vp_nar .char (70 : Int32))) 1033 (hsz A) (4 : Int32).toNatClampNeg (vp_nar .char (101 : Int32))) (hsz A)).2 then if wix (6 : Int32) (hsh (hsI (hsI (hsI (hsI (hsI (hsI (hmk A 9 36) 1033 (hsz A) (0 : Int32).toNatClampNeg (vp_nar .char (74 : Int32))) 1033 (hsz A) (1 : Int32).toNatClampNeg (vp_nar .char (97 : Int32))) 1033 (hsz A) (2 : Int32).toNatClampNeg (vp_nar .char (110 : Int32))) 1033 (hsz A) (3 : Int32).toNatClampNeg (vp_nar .char (70 : Int32))) 1033 (hsz A) (4 : Int32).toNatClampNeg (vp_nar .char (101 : Int32))) 1033 (hsz A) (5 : Int32).toNatClampNeg (vp_nar .char (98 : Int32))) (hsz A)).2 then if wix (7 : Int32) (hsh (hsI (hsI (hsI (hsI (hsI (hsI (hsI (hmk A 9 36) 1033 (hsz A) (0 : Int32).toNatClampNeg (vp_nar .char (74 : Int32))) 1033 (hsz A) (1 : Int32).toNatClampNeg (vp_nar .char (97 : Int32))) 1033 (hsz A) (2 : Int32).toNatClampNeg (vp_nar .char (110 : Int32))) 1033 (hsz A) (3 : Int32).toNatClampNeg (vp_nar .char (70 : Int32))) 1033 (hsz A) (4 : Int32).toNatClampNeg (vp_nar .char (101 : Int32))) 1033 (hsz A) (5 : Int32).toNatClampNeg (vp_nar .char (98 : Int32))) 1033 (hsz A) (6 : Int32).toNatClampNeg (vp_nar .char (77 : Int32))) (hsz A)).2 then if wix (8 : Int32) (hsh (hsI (hsI (hsI (hsI (hsI (hsI (hsI (hsI (hmk A 9 36) 1033 (hsz A) (0 : Int32).toNatClampNeg (vp_nar .char (74 : Int32))) 1033 (hsz A) (1 : Int32).toNatClampNeg (vp_nar .char (97 : Int32))) 1033 (hsz A) (2 : Int32).toNatClampNeg (vp_nar .char (110 : Int32))) 1033 (hsz A) (3 : Int32).toNatClampNeg (vp_nar .char (70 : Int32))) 1033 (hsz A) (4 : Int32).toNatClampNeg (vp_nar .char (101 : Int32))) 1033 (hsz A) (5 : Int32).toNatClampNeg (vp_nar .char (98 : Int32))) 1033 (hsz A) (6 : Int32).toNatClampNeg (vp_nar .char (77 : Int32))) 1033 (hsz A) (7 : Int32).toNatClampNeg (vp_nar .char (97 : Int32))) (hsz A)).2 then if wix (9 : Int32) (hsh (hsI (hsI (hsI (hsI (hsI (hsI (hsI (hsI (hsI (hmk A 9 36) 1033 (hsz A) (0 : Int32).toNatClampNeg (vp_nar .char (74 : Int32))) 1033 (hsz A) (1 : Int32).toNatClampNeg (vp_nar .char (97 : Int32))) 1033 (hsz A) (2 : Int32).toNatClampNeg (vp_nar .char (110 : Int32))) 1033 (hsz A) (3 : Int32).toNatClampNeg (vp_nar .char (70 : Int32))) 1033 (hsz A) (4 : Int32).toNatClampNeg (vp_nar .char (101 : Int32))) 1033 (hsz A) (5 : Int32).toNatClampNeg (vp_nar .char (98 : Int32))) 1033 (hsz A) (6 : Int32).toNatClampNeg (vp_nar .char (77 : Int32))) 1033 (hsz A) (7 : Int32).toNatClampNeg (vp_nar .char (97 : Int32))) 1033 (hsz A) (8 : Int32).toNatClampNeg (vp_nar .char (114 : Int32))) (hsz A)).2 then if wix (10 : Int32) (hsh (hsI (hsI (hsI (hsI (hsI (hsI (hsI (hsI (hsI (hsI (hmk A 9 36) 1033 (hsz A) (0 : Int32).toNatClampNeg (vp_nar .char (74 : Int32))) 1033 (hsz A) (1 : Int32).toNatClampNeg (vp_nar .char (97 : Int32))) 1033 (hsz A) (2 : Int32).toNatClampNeg (vp_nar .char (110 : Int32))) 1033 (hsz A) (3 : Int32).toNatClampNeg (vp_nar .char (70 : Int32))) 1033 (hsz A) (4 : Int32).toNatClampNeg (vp_nar .char (101 : Int32))) 1033 (hsz A) (5 : Int32).toNatClampNeg (vp_nar .char (98 : Int32))) 1033 (hsz A) (6 : Int32).toNatClampNeg (vp_nar .char (77 : Int32))) 1033 (hsz A) (7 : Int32).toNatClampNeg (vp_nar .char (97 : Int32))) 1033 (hsz A) (8 : Int32).toNatClampNeg (vp_nar .char (114 : Int32))) 1033 (hsz A) (9 : Int32).toNatClampNeg (vp_nar .char (65 : Int32))) (hsz A)).2 then if wix (11 : Int32) (hsh (hsI (hsI (hsI (hsI (hsI (hsI (hsI (hsI (hsI (hsI (hsI (hmk A 9 36) 1033 (hsz A) (0 : Int32).toNatClampNeg (vp_nar .char (74 : Int32))) 1033 (hsz A) (1 : Int32).toNatClampNeg (vp_nar .char (97 : Int32))) 1033 (hsz A) (2 : Int32).toNatClampNeg (vp_nar .char (110 : Int32))) 1033 (hsz A) (3 : Int32).toNatClampNeg (vp_nar .char (70 : Int32))) 1033 (hsz A) (4 : Int32).toNatClampNeg (vp_nar .char (101 : Int32))) 1033 (hsz A) (5 : Int32).toNatClampNeg (vp_nar .char (98 : Int32))) 1033 (hsz A) (6 : Int32).toNatClampNeg (vp_nar .char (77 : Int32))) 1033 (hsz A) (7 : Int32).toNatClampNeg (vp_nar .char (97 : Int32))) 1033 (hsz A) (8 : Int32).toNatClampNeg (vp_nar .char (114 : Int32))) 1033 (hsz A) (9 : Int32).toNatClampNeg (vp_nar .char (65 : Int32))) 1033 (hsz A) (10 : Int32).toNatClampNeg (vp_nar .char (112 : Int32))) (hsz A)).2 then if wix (12 : Int32) (hsh (hsI (hsI (hsI (hsI (hsI (hsI (hsI (hsI (hsI (hsI (hsI (hsI (hmk A 9 36) 1033 (hsz A) (0 : Int32).toNatClampNeg (vp_nar .char (74 : Int32))) 1033 (hsz A) (1 : Int32).toNatClampNeg (vp_nar .char (97 : Int32))) 1033 (hsz A) (2 : Int32).toNatClampNeg (vp_nar .char (110 : Int32))) 1033 (hsz A) (3 : Int32).toNatClampNeg (vp_nar .char (70 : Int32))) 1033 (hsz A) (4 : Int32).toNatClampNeg (vp_nar .char (101 : Int32))) 1033 (hsz A) (5 : Int32).toNatClampNeg (vp_nar .char (98 : Int32))) 1033 (hsz A) (6 : Int32).toNatClampNeg (vp_nar .char (77 : Int32))) 1033 (hsz A) (7 : Int32).toNatClampNeg (vp_nar .char (97 : Int32))) 1033 (hsz A) (8 : Int32).toNatClampNeg (vp_nar .char (114 : Int32))) 1033 (hsz A) (9 : Int32).toNatClampNeg (vp_nar .char (65 : Int32))) 1033 (hsz A) (10 : Int32).toNatClampNeg (vp_nar .char (112 : Int32))) 1033 (hsz A) (11 : Int32).toNatClampNeg (vp_nar .char (114 : Int32))) (hsz A)).2 then if wix (13 : Int32) (hsh (hsI (hsI (hsI (hsI (hsI (hsI (hsI (hsI (hsI (hsI (hsI (hsI (hsI (hmk A 9 36) 1033 (hsz A) (0 : Int32).toNatClampNeg (vp_nar .char (74 : Int32))) 1033 (hsz A) (1 : Int32).toNatClampNeg (vp_nar .char (97 : Int32))) 1033 (hsz A) (2 : Int32).toNatClampNeg (vp_nar .char (110 : Int32))) 1033 (hsz A) (3 : Int32).toNatClampNeg (vp_nar .char (70 : Int32))) 1033 (hsz A) (4 : Int32).toNatClampNeg (vp_nar .char (101 : Int32))) 1033 (hsz A) (5 : Int32).toNatClampNeg (vp_nar .char (98 : Int32))) 1033 (hsz A) (6 : Int32).toNatClampNeg (vp_nar .char (77 : Int32))) 1033 (hsz A) (7 : Int32).toNatClampNeg (vp_nar .char (97 : Int32))) 1033 (hsz A) (8 : Int32).toNatClampNeg (vp_nar .char (114 : Int32))) 1033 (hsz A) (9 : Int32).toNatClampNeg (vp_nar .char (65 : Int32))) 1033 (hsz A) (10 : Int32).toNatClampNeg (vp_nar .char (112 : Int32))) 1033 (hsz A) (11 : Int32).toNatClampNeg (vp_nar .char (114 : Int32))) 1033 (hsz A) (12 : Int32).toNatClampNeg (vp_nar .char (77 : Int32))) (hsz A)).2 then if wix (14 : Int32) (hsh (hsI (hsI (hsI (hsI (hsI (hsI (hsI (hsI (hsI (hsI (hsI (hsI (hsI (hsI (hmk A 9 36) 1033 (hsz A) (0 : Int32).toNatClampNeg (vp_nar .char (74 : Int32))) 1033 (hsz A) (1 : Int32).toNatClampNeg (vp_nar .char (97 : Int32))) 1033 (hsz A) (2 : Int32).toNatClampNeg (vp_nar .char (110 : Int32))) 1033 (hsz A) (3 : Int32).toNatClampNeg (vp_nar .char (70 : Int32))) 1033 (hsz A) (4 : Int32).toNatClampNeg (vp_nar .char (101 : Int32))) 1033 (hsz A) (5 : Int32).toNatClampNeg (vp_nar .char (98 : Int32))) 1033 (hsz A) (6 : Int32).toNatClampNeg (vp_nar .char (77 : Int32))) 1033 (hsz A) (7 : Int32).toNatClampNeg (vp_nar .char (97 : Int32))) 1033 (hsz A) (8 : Int32).toNatClampNeg (vp_nar .char (114 : Int32))) 1033 (hsz A) (9 : Int32).toNatClampNeg (vp_nar .char (65 : Int32))) 1033 (hsz A) (10 : Int32).toNatClampNeg (vp_nar .char (112 : Int32))) 1033 (hsz A) (11 : Int32).toNatClampNeg (vp_nar .char (114 : Int32))) 1033 (hsz A) (12 : Int32).toNatClampNeg (vp_nar .char (77 : Int32))) 1033 (hsz A) (13 : Int32).toNatClampNeg (vp_nar .char (97 : Int32))) (hsz A)).2 then if wix (15 : Int32) (hsh (hsI (hsI (hsI (hsI (hsI (hsI (hsI (hsI (hsI (hsI (hsI (hsI (hsI (hsI (hsI (hmk A 9 36) 1033 (hsz A) (0 : Int32).toNatClampNeg (vp_nar .char (74 : Int32))) 1033 (hsz A) (1 : Int32).toNatClampNeg (vp_nar .char (97 : Int32))) 1033 (hsz A) (2 : Int32).toNatClampNeg (vp_nar .char (110 : Int32))) 1033 (hsz A) (3 : Int32).toNatClampNeg (vp_nar .char (70 : Int32))) 1033 (hsz A) (4 : Int32).toNatClampNeg (vp_nar .char (101 : Int32))) 1033 (hsz A) (5 : Int32).toNatClampNeg (vp_nar .char (98 : Int32))) 1033 (hsz A) (6 : Int32).toNatClampNeg (vp_nar .char (77 : Int32))) 1033 (hsz A) (7 : Int32).toNatClampNeg (vp_nar .char (97 : Int32))) 1033 (hsz A) (8 : Int32).toNatClampNeg (vp_nar .char (114 : Int32))) 1033 (hsz A) (9 : Int32).toNatClampNeg (vp_nar .char (65 : Int32))) 1033 (hsz A) (10 : Int32).toNatClampNeg (vp_nar .char (112 : Int32))) 1033 (hsz A) (11 : Int32).toNatClampNeg (vp_nar .char (114 : Int32))) 1033 (hsz A) (12 : Int32).toNatClampNeg (vp_nar .char (77 : Int32))) 1033 (hsz A) (13 : Int32).toNatClampNeg (vp_nar .char (97 : Int32))) 1033 (hsz A) (14 : Int32).toNatClampNeg (vp_nar .char (121 : Int32))) (hsz A)).2 then if wix (16 : Int32) (hsh (hsI (hsI (hsI (hsI (hsI (hsI (hsI (hsI (hsI (hsI (hsI (hsI (hsI (hsI (hsI (hsI (hmk A 9 36) 1033 (hsz A) (0 : Int32).toNatClampNeg (vp_nar .char (74 : Int32))) 1033 (hsz A) (1 : Int32).toNatClampNeg (vp_nar .char (97 : Int32))) 1033 (hsz A) (2 : Int32).toNatClampNeg (vp_nar .char (110 : Int32))) 1033 (hsz A) (3 : Int32).toNatClampNeg (vp_nar .char (70 : Int32))) 1033 (hsz A) (4 : Int32).toNatClampNeg (vp_nar .char (101 : Int32))) 1033 (hsz A) (5 : Int32).toNatClampNeg (vp_nar .char (98 : Int32))) 1033 (hsz A) (6 : Int32).toNatClampNeg (vp_nar .char (77 : Int32))) 1033 (hsz A) (7 : Int32).toNatClampNeg (vp_nar .char (97 : Int32))) 1033 (hsz A) (8 : Int32).toNatClampNeg (vp_nar .char (114 : Int32))) 1033 (hsz A) (9 : Int32).toNatClampNeg (vp_nar .char (65 : Int32))) 1033 (hsz A) (10 : Int32).toNatClampNeg (vp_nar .char (112 : Int32))) 1033 (hsz A) (11 : Int32).toNatClampNeg (vp_nar .char (114 : Int32))) 1033 (hsz A) (12 : Int32).toNatClampNeg (vp_nar .char (77 : Int32))) 1033 (hsz A) (13 : Int32).toNatClampNeg (vp_nar .char (97 : Int32))) 1033 (hsz A) (14 : Int32).toNatClampNeg (vp_nar .char (121 : Int32))) 1033 (hsz A) (15 : Int32).toNatClampNeg (vp_nar .char (74 : Int32))) (hsz A)).2 then if wix (17 : Int32) (hsh (hsI (hsI (hsI (hsI (hsI (hsI (hsI (hsI (hsI (hsI (hsI (hsI (hsI (hsI (hsI (hsI (hsI (hmk A 9 36) 1033 (hsz A) (0 : Int32).toNatClampNeg (vp_nar .char (74 : Int32))) 1033 (hsz A) (1 : Int32).toNatClampNeg (vp_nar .char (97 : Int32))) 1033 (hsz A) (2 : Int32).toNatClampNeg (vp_nar .char (110 : Int32))) 1033 (hsz A) (3 : Int32).toNatClampNeg (vp_nar .char (70 : Int32))) 1033 (hsz A) (4 : Int32).toNatClampNeg (vp_nar .char (101 : Int32))) 1033 (hsz A) (5 : Int32).toNatClampNeg (vp_nar .char (98 : Int32))) 1033 (hsz A) (6 : Int32).toNatClampNeg (vp_nar .char (77 : Int32))) 1033 (hsz A) (7 : Int32).toNatClampNeg (vp_nar .char (97 : Int32))) 1033 (hsz A) (8 : Int32).toNatClampNeg (vp_nar .char (114 : Int32))) 1033 (hsz A) (9 : Int32).toNatClampNeg (vp_nar .char (65 : Int32))) 1033 (hsz A) (10 : Int32).toNatClampNeg (vp_nar .char (112 : Int32))) 1033 (hsz A) (11 : Int32).toNatClampNeg (vp_nar .char (114 : Int32))) 1033 (hsz A) (12 : Int32).toNatClampNeg (vp_nar .char (77 : Int32))) 1033 (hsz A) (13 : Int32).toNatClampNeg (vp_nar .char (97 : Int32))) 1033 (hsz A) (14 : Int32).toNatClampNeg (vp_nar .char (121 : Int32))) 1033 (hsz A) (15 : Int32).toNatClampNeg (vp_nar .char (74 : Int32))) 1033 (hsz A) (16 : Int32).toNatClampNeg (vp_nar .char (117 : Int32))) (hsz A)).2 then if wix (18 : Int32) (hsh (hsI (hsI (hsI (hsI (hsI (hsI (hsI (hsI (hsI (hsI (hsI (hsI (hsI (hsI (hsI (hsI (hsI (hsI (hmk A 9 36) 1033 (hsz A) (0 : Int32).toNatClampNeg (vp_nar .char (74 : Int32))) 1033 (hsz A) (1 : Int32).toNatClampNeg (vp_nar .char (97 : Int32))) 1033 (hsz A) (2 : Int32).toNatClampNeg (vp_nar .char (110 : Int32))) 1033 (hsz A) (3 : Int32).toNatClampNeg (vp_nar .char (70 : Int32))) 1033 (hsz A) (4 : Int32).toNatClampNeg (vp_nar .char (101 : Int32))) 1033 (hsz A) (5 : Int32).toNatClampNeg (vp_nar .char (98 : Int32))) 1033 (hsz A) (6 : Int32).toNatClampNeg (vp_nar .char (77 : Int32))) 1033 (hsz A) (7 : Int32).toNatClampNeg (vp_nar .char (97 : Int32))) 1033 (hsz A) (8 : Int32).toNatClampNeg (vp_nar .char (114 : Int32))) 1033 (hsz A) (9 : Int32).toNatClampNeg (vp_nar .char (65 : Int32))) 1033 (hsz A) (10 : Int32).toNatClampNeg (vp_nar .char (112 : Int32))) 1033 (hsz A) (11 : Int32).toNatClampNeg (vp_nar .char (114 : Int32))) 1033 (hsz A) (12 : Int32).toNatClampNeg (vp_nar .char (77 : Int32))) 1033 (hsz A) (13 : Int32).toNatClampNeg (vp_nar .char (97 : Int32))) 1033 (hsz A) (14 : Int32).toNatClampNeg (vp_nar .char (121 : Int32))) 1033 (hsz A) (15 : Int32).toNatClampNeg (vp_nar .char (74 : Int32))) 1033 (hsz A) (16 : Int32).toNatClampNeg (vp_nar .char (117 : Int32))) 1033 (hsz A) (17 : Int32).toNatClampNeg (vp_nar .char (110 : Int32))) (hsz A)).2 then if wix (19 : Int32) (hsh (hsI (hsI (hsI (hsI (hsI (hsI (hsI (hsI (hsI (hsI (hsI (hsI (hsI (hsI (hsI (hsI (hsI (hsI (hsI (hmk A 9 36) 1033 (hsz A) (0 : Int32).toNatClampNeg (vp_nar .char (74 : Int32))) 1033 (hsz A) (1 : Int32).toNatClampNeg (vp_nar .char (97 : Int32))) 1033 (hsz A) (2 : Int32).toNatClampNeg (vp_nar .char (110 : Int32))) 1033 (hsz A) (3 : Int32).toNatClampNeg (vp_nar .char (70 : Int32))) 1033 (hsz A) (4 : Int32).toNatClampNeg (vp_nar .char (101 : Int32))) 1033 (hsz A) (5 : Int32).toNatClampNeg (vp_nar .char (98 : Int32))) 1033 (hsz A) (6 : Int32).toNatClampNeg (vp_nar .char (77 : Int32))) 1033 (hsz A) (7 : Int32).toNatClampNeg (vp_nar .char (97 : Int32))) 1033 (hsz A) (8 : Int32).toNatClampNeg (vp_nar .char (114 : Int32))) 1033 (hsz A) (9 : Int32).toNatClampNeg (vp_nar .char (65 : Int32))) 1033 (hsz A) (10 : Int32).toNatClampNeg (vp_nar .char (112 : Int32))) 1033 (hsz A) (11 : Int32).toNatClampNeg (vp_nar .char (114 : Int32))) 1033 (hsz A) (12 : Int32).toNatClampNeg (vp_nar .char (77 : Int32))) 1033 (hsz A) (13 : Int32).toNatClampNeg (vp_nar .char (97 : Int32))) 1033 (hsz A) (14 : Int32).toNatClampNeg (vp_nar .char (121 : Int32))) 1033 (hsz A) (15 : Int32).toNatClampNeg (vp_nar .char (74 : Int32))) 1033 (hsz A) (16 : Int32).toNatClampNeg (vp_nar .char (117 : Int32))) 1033 (hsz A) (17 : Int32).toNatClampNeg (vp_nar .char (110 : Int32))) 1033 (hsz A) (18 : Int32).toNatClampNeg (vp_nar .char (74 : Int32))) (hsz A)).2 then if wix (20 : Int32) (hsh (hsI (hsI (hsI (hsI (hsI (hsI (hsI (hsI (hsI (hsI (hsI (hsI (hsI (hsI (hsI (hsI (hsI (hsI (hsI (hsI (hmk A 9 36) 1033 (hsz A) (0 : Int32).toNatClampNeg (vp_nar .char (74 : Int32))) 1033 (hsz A) (1 : Int32).toNatClampNeg (vp_nar .char (97 : Int32))) 1033 (hsz A) (2 : Int32).toNatClampNeg (vp_nar .char (110 : Int32))) 1033 (hsz A) (3 : Int32).toNatClampNeg (vp_nar .char (70 : Int32))) 1033 (hsz A) (4 : Int32).toNatClampNeg (vp_nar .char (101 : Int32))) 1033 (hsz A) (5 : Int32).toNatClampNeg (vp_nar .char (98 : Int32))) 1033 (hsz A) (6 : Int32).toNatClampNeg (vp_nar .char (77 : Int32))) 1033 (hsz A) (7 : Int32).toNatClampNeg (vp_nar .char (97 : Int32))) 1033 (hsz A) (8 : Int32).toNatClampNeg (vp_nar .char (114 : Int32))) 1033 (hsz A) (9 : Int32).toNatClampNeg (vp_nar .char (65 : Int32))) 1033 (hsz A) (10 : Int32).toNatClampNeg (vp_nar .char (112 : Int32))) 1033 (hsz A) (11 : Int32).toNatClampNeg (vp_nar .char (114 : Int32))) 1033 (hsz A) (12 : Int32).toNatClampNeg (vp_nar .char (77 : Int32))) 1033 (hsz A) (13 : Int32).toNatClampNeg (vp_nar .char (97 : Int32))) 1033 (hsz A) (14 : Int32).toNatClampNeg (vp_nar .char (121 : Int32))) 1033 (hsz A) (15 : Int32).toNatClampNeg (vp_nar .char (74 : Int32))) 1033 (hsz A) (16 : Int32).toNatClampNeg (vp_nar .char (117 : Int32))) 1033 (hsz A) (17 : Int32).toNatClampNeg (vp_nar .char (110 : Int32))) 1033 (hsz A) (18 : Int32).toNatClampNeg (vp_nar .char (74 : Int32))) 1033 (hsz A) (19 : Int32).toNatClampNeg (vp_nar .char (117 : Int32))) (hsz A)).2 then if wix (21 : Int32) (hsh (hsI (hsI (hsI (hsI (hsI (hsI (hsI (hsI (hsI (hsI (hsI (hsI (hsI (hsI (hsI (hsI (hsI (hsI (hsI (hsI (hsI (hmk A 9 36) 1033 (hsz A) (0 : Int32).toNatClampNeg (vp_nar .char (74 : Int32))) 1033 (hsz A) (1 : Int32).toNatClampNeg (vp_nar .char (97 : Int32))) 1033 (hsz A) (2 : Int32).toNatClampNeg (vp_nar .char (110 : Int32))) 1033 (hsz A) (3 : Int32).toNatClampNeg (vp_nar .char (70 : Int32))) 1033 (hsz A) (4 : Int32).toNatClampNeg (vp_nar .char (101 : Int32))) 1033 (hsz A) (5 : Int32).toNatClampNeg (vp_nar .char (98 : Int32))) 1033 (hsz A) (6 : Int32).toNatClampNeg (vp_nar .char (77 : Int32))) 1033 (hsz A) (7 : Int32).toNatClampNeg (vp_nar .char (97 : Int32))) 1033 (hsz A) (8 : Int32).toNatClampNeg (vp_nar .char (114 : Int32))) 1033 (hsz A) (9 : Int32).toNatClampNeg (vp_nar .char (65 : Int32))) 1033 (hsz A) (10 : Int32).toNatClampNeg (vp_nar .char (112 : Int32))) 1033 (hsz A) (11 : Int32).toNatClampNeg (vp_nar .char (114 : Int32))) 1033 (hsz A) (12 : Int32).toNatClampNeg (vp_nar .char (77 : Int32))) 1033 (hsz A) (13 : Int32).toNatClampNeg (vp_nar .char (97 : Int32))) 1033 (hsz A) (14 : Int32).toNatClampNeg (vp_nar .char (121 : Int32))) 1033 (hsz A) (15 : Int32).toNatClampNeg (vp_nar .char (74 : Int32))) 1033 (hsz A) (16 : Int32).toNatClampNeg (vp_nar .char (117 : Int32))) 1033 (hsz A) (17 : Int32).toNatClampNeg (vp_nar .char (110 : Int32))) 1033 (hsz A) (18 : Int32).toNatClampNeg (vp_nar .char (74 : Int32))) 1033 (hsz A) (19 : Int32).toNatClampNeg (vp_nar .char (117 : Int32))) 1033 (hsz A) (20 : Int32).toNatClampNeg (vp_nar .char (108 : Int32))) (hsz A)).2 then if wix (22 : Int32) (hsh (hsI (hsI (hsI (hsI (hsI (hsI (hsI (hsI (hsI (hsI (hsI (hsI (hsI (hsI (hsI (hsI (hsI (hsI (hsI (hsI (hsI (hsI (hmk A 9 36) 1033 (hsz A) (0 : Int32).toNatClampNeg (vp_nar .char (74 : Int32))) 1033 (hsz A) (1 : Int32).toNatClampNeg (vp_nar .char (97 : Int32))) 1033 (hsz A) (2 : Int32).toNatClampNeg (vp_nar .char (110 : Int32))) 1033 (hsz A) (3 : Int32).toNatClampNeg (vp_nar .char (70 : Int32))) 1033 (hsz A) (4 : Int32).toNatClampNeg (vp_nar .char (101 : Int32))) 1033 (hsz A) (5 : Int32).toNatClampNeg (vp_nar .char (98 : Int32))) 1033 (hsz A) (6 : Int32).toNatClampNeg (vp_nar .char (77 : Int32))) 1033 (hsz A) (7 : Int32).toNatClampNeg (vp_nar .char (97 : Int32))) 1033 (hsz A) (8 : Int32).toNatClampNeg (vp_nar .char (114 : Int32))) 1033 (hsz A) (9 : Int32).toNatClampNeg (vp_nar .char (65 : Int32))) 1033 (hsz A) (10 : Int32).toNatClampNeg (vp_nar .char (112 : Int32))) 1033 (hsz A) (11 : Int32).toNatClampNeg (vp_nar .char (114 : Int32))) 1033 (hsz A) (12 : Int32).toNatClampNeg (vp_nar .char (77 : Int32))) 1033 (hsz A) (13 : Int32).toNatClampNeg (vp_nar .char (97 : Int32))) 1033 (hsz A) (14 : Int32).toNatClampNeg (vp_nar .char (121 : Int32))) 1033 (hsz A) (15 : Int32).toNatClampNeg (vp_nar .char (74 : Int32))) 1033 (hsz A) (16 : Int32).toNatClampNeg (vp_nar .char (117 : Int32))) 1033 (hsz A) (17 : Int32).toNatClampNeg (vp_nar .char (110 : Int32))) 1033 (hsz A) (18 : Int32).toNatClampNeg (vp_nar .char (74 : Int32))) 1033 (hsz A) (19 : Int32).toNatClampNeg (vp_nar .char (117 : Int32))) 1033 (hsz A) (20 : Int32).toNatClampNeg (vp_nar .char (108 : Int32))) 1033 (hsz A) (21 : Int32).toNatClampNeg (vp_nar .char (65 : Int32))) (hsz A)).2 then if wix (23 : Int32) (hsh (hsI (hsI (hsI (hsI (hsI (hsI (hsI (hsI (hsI (hsI (hsI (hsI (hsI (hsI (hsI (hsI (hsI (hsI (hsI (hsI (hsI (hsI (hsI (hmk A 9 36) 1033 (hsz A) (0 : Int32).toNatClampNeg (vp_nar .char (74 : Int32))) 1033 (hsz A) (1 : Int32).toNatClampNeg (vp_nar .char (97 : Int32))) 1033 (hsz A) (2 : Int32).toNatClampNeg (vp_nar .char (110 : Int32))) 1033 (hsz A) (3 : Int32).toNatClampNeg (vp_nar .char (70 : Int32))) 1033 (hsz A) (4 : Int32).toNatClampNeg (vp_nar .char (101 : Int32))) 1033 (hsz A) (5 : Int32).toNatClampNeg (vp_nar .char (98 : Int32))) 1033 (hsz A) (6 : Int32).toNatClampNeg (vp_nar .char (77 : Int32))) 1033 (hsz A) (7 : Int32).toNatClampNeg (vp_nar .char (97 : Int32))) 1033 (hsz A) (8 : Int32).toNatClampNeg (vp_nar .char (114 : Int32))) 1033 (hsz A) (9 : Int32).toNatClampNeg (vp_nar .char (65 : Int32))) 1033 (hsz A) (10 : Int32).toNatClampNeg (vp_nar .char (112 : Int32))) 1033 (hsz A) (11 : Int32).toNatClampNeg (vp_nar .char (114 : Int32))) 1033 (hsz A) (12 : Int32).toNatClampNeg (vp_nar .char (77 : Int32))) 1033 (hsz A) (13 : Int32).toNatClampNeg (vp_nar .char (97 : Int32))) 1033 (hsz A) (14 : Int32).toNatClampNeg (vp_nar .char (121 : Int32))) 1033 (hsz A) (15 : Int32).toNatClampNeg (vp_nar .char (74 : Int32))) 1033 (hsz A) (16 : Int32).toNatClampNeg (vp_nar .char (117 : Int32))) 1033 (hsz A) (17 : Int32).toNatClampNeg (vp_nar .char (110 : Int32))) 1033 (hsz A) (18 : Int32).toNatClampNeg (vp_nar .char (74 : Int32))) 1033 (hsz A) (19 : Int32).toNatClampNeg (vp_nar .char (117 : Int32))) 1033 (hsz A) (20 : Int32).toNatClampNeg (vp_nar .char (108 : Int32))) 1033 (hsz A) (21 : Int32).toNatClampNeg (vp_nar .char (65 : Int32))) 1033 (hsz A) (22 : Int32).toNatClampNeg (vp_nar .char (117 : Int32))) (hsz A)).2 then if wix (24 : Int32) (hsh (hsI (hsI (hsI (hsI (hsI (hsI (hsI (hsI (hsI (hsI (hsI (hsI (hsI (hsI (hsI (hsI (hsI (hsI (hsI (hsI (hsI (hsI (hsI (hsI (hmk A 9 36) 1033 (hsz A) (0 : Int32).toNatClampNeg (vp_nar .char (74 : Int32))) 1033 (hsz A) (1 : Int32).toNatClampNeg (vp_nar .char (97 : Int32))) 1033 (hsz A) (2 : Int32).toNatClampNeg (vp_nar .char (110 : Int32))) 1033 (hsz A) (3 : Int32).toNatClampNeg (vp_nar .char (70 : Int32))) 1033 (hsz A) (4 : Int32).toNatClampNeg (vp_nar .char (101 : Int32))) 1033 (hsz A) (5 : Int32).toNatClampNeg (vp_nar .char (98 : Int32))) 1033 (hsz A) (6 : Int32).toNatClampNeg (vp_nar .char (77 : Int32))) 1033 (hsz A) (7 : Int32).toNatClampNeg (vp_nar .char (97 : Int32))) 1033 (hsz A) (8 : Int32).toNatClampNeg (vp_nar .char (114 : Int32))) 1033 (hsz A) (9 : Int32).toNatClampNeg (vp_nar .char (65 : Int32))) 1033 (hsz A) (10 : Int32).toNatClampNeg (vp_nar .char (112 : Int32))) 1033 (hsz A) (11 : Int32).toNatClampNeg (vp_nar .char (114 : Int32))) 1033 (hsz A) (12 : Int32).toNatClampNeg (vp_nar .char (77 : Int32))) 1033 (hsz A) (13 : Int32).toNatClampNeg (vp_nar .char (97 : Int32))) 1033 (hsz A) (14 : Int32).toNatClampNeg (vp_nar .char (121 : Int32))) 1033 (hsz A) (15 : Int32).toNatClampNeg (vp_nar .char (74 : Int32))) 1033 (hsz A) (16 : Int32).toNatClampNeg (vp_nar .char (117 : Int32))) 1033 (hsz A) (17 : Int32).toNatClampNeg (vp_nar .char (110 : Int32))) 1033 (hsz A) (18 : Int32).toNatClampNeg (vp_nar .char (74 : Int32))) 1033 (hsz A) (19 : Int32).toNatClampNeg (vp_nar .char (117 : Int32))) 1033 (hsz A) (20 : Int32).toNatClampNeg (vp_nar .char (108 : Int32))) 1033 (hsz A) (21 : Int32).toNatClampNeg (vp_nar .char (65 : Int32))) 1033 (hsz A) (22 : Int32).toNatClampNeg (vp_nar .char (117 : Int32))) 1033 (hsz A) (23 : Int32).toNatClampNeg (vp_nar .char (103 : Int32))) (hsz A)).2 then if wix (25 : Int32) (hsh (hsI (hsI (hsI (hsI (hsI (hsI (hsI (hsI (hsI (hsI (hsI (hsI (hsI (hsI (hsI (hsI (hsI (hsI (hsI (hsI (hsI (hsI (hsI (hsI (hsI (hmk A 9 36) 1033 (hsz A) (0 : Int32).toNatClampNeg (vp_nar .char (74 : Int32))) 1033 (hsz A) (1 : Int32).toNatClampNeg (vp_nar .char (97 : Int32))) 1033 (hsz A) (2 : Int32).toNatClampNeg (vp_nar .char (110 : Int32))) 1033 (hsz A) (3 : Int32).toNatClampNeg (vp_nar .char (70 : Int32))) 1033 (hsz A) (4 : Int32).toNatClampNeg (vp_nar .char (101 : Int32))) 1033 (hsz A) (5 : Int32).toNatClampNeg (vp_nar .char (98 : Int32))) 1033 (hsz A) (6 : Int32).toNatClampNeg (vp_nar .char (77 : Int32))) 1033 (hsz A) (7 : Int32).toNatClampNeg (vp_nar .char (97 : Int32))) 1033 (hsz A) (8 : Int32).toNatClampNeg (vp_nar .char (114 : Int32))) 1033 (hsz A) (9 : Int32).toNatClampNeg (vp_nar .char (65 : Int32))) 1033 (hsz A) (10 : Int32).toNatClampNeg (vp_nar .char (112 : Int32))) 1033 (hsz A) (11 : Int32).toNatClampNeg (vp_nar .char (114 : Int32))) 1033 (hsz A) (12 : Int32).toNatClampNeg (vp_nar .char (77 : Int32))) 1033 (hsz A) (13 : Int32).toNatClampNeg (vp_nar .char (97 : Int32))) 1033 (hsz A) (14 : Int32).toNatClampNeg (vp_nar .char (121 : Int32))) 1033 (hsz A) (15 : Int32).toNatClampNeg (vp_nar .char (74 : Int32))) 1033 (hsz A) (16 : Int32).toNatClampNeg (vp_nar .char (117 : Int32))) 1033 (hsz A) (17 : Int32).toNatClampNeg (vp_nar .char (110 : Int32))) 1033 (hsz A) (18 : Int32).toNatClampNeg (vp_nar .char (74 : Int32))) 1033 (hsz A) (19 : Int32).toNatClampNeg (vp_nar .char (117 : Int32))) 1033 (hsz A) (20 : Int32).toNatClampNeg (vp_nar .char (108 : Int32))) 1033 (hsz A) (21 : Int32).toNatClampNeg (vp_nar .char (65 : Int32))) 1033 (hsz A) (22 : Int32).toNatClampNeg (vp_nar .char (117 : Int32))) 1033 (hsz A) (23 : Int32).toNatClampNeg (vp_nar .char (103 : Int32))) 1033 (hsz A) (24 : Int32).toNatClampNeg (vp_nar .char (83 : Int32))) (hsz A)).2 then if wix (26 : Int32) (hsh (hsI (hsI (hsI (hsI (hsI (hsI (hsI (hsI (hsI (hsI (hsI (hsI (hsI (hsI (hsI (hsI (hsI (hsI (hsI (hsI (hsI (hsI (hsI (hsI (hsI (hsI (hmk A 9 36) 1033 (hsz A) (0 : Int32).toNatClampNeg (vp_nar .char (74 : Int32))) 1033 (hsz A) (1 : Int32).toNatClampNeg (vp_nar .char (97 : Int32))) 1033 (hsz A) (2 : Int32).toNatClampNeg (vp_nar .char (110 : Int32))) 1033 (hsz A) (3 : Int32).toNatClampNeg (vp_nar .char (70 : Int32))) 1033 (hsz A) (4 : Int32).toNatClampNeg (vp_nar .char (101 : Int32))) 1033 (hsz A) (5 : Int32).toNatClampNeg (vp_nar .char (98 : Int32))) 1033 (hsz A) (6 : Int32).toNatClampNeg (vp_nar .char (77 : Int32))) 1033 (hsz A) (7 : Int32).toNatClampNeg (vp_nar .char (97 : Int32))) 1033 (hsz A) (8 : Int32).toNatClampNeg (vp_nar .char (114 : Int32))) 1033 (hsz A) (9 : Int32).toNatClampNeg (vp_nar .char (65 : Int32))) 1033 (hsz A) (10 : Int32).toNatClampNeg (vp_nar .char (112 : Int32))) 1033 (hsz A) (11 : Int32).toNatClampNeg (vp_nar .char (114 : Int32))) 1033 (hsz A) (12 : Int32).toNatClampNeg (vp_nar .char (77 : Int32))) 1033 (hsz A) (13 : Int32).toNatClampNeg (vp_nar .char (97 : Int32))) 1033 (hsz A) (14 : Int32).toNatClampNeg (vp_nar .char (121 : Int32))) 1033 (hsz A) (15 : Int32).toNatClampNeg (vp_nar .char (74 : Int32))) 1033 (hsz A) (16 : Int32).toNatClampNeg (vp_nar .char (117 : Int32))) 1033 (hsz A) (17 : Int32).toNatClampNeg (vp_nar .char (110 : Int32))) 1033 (hsz A) (18 : Int32).toNatClampNeg (vp_nar .char (74 : Int32))) 1033 (hsz A) (19 : Int32).toNatClampNeg (vp_nar .char (117 : Int32))) 1033 (hsz A) (20 : Int32).toNatClampNeg (vp_nar .char (108 : Int32))) 1033 (hsz A) (21 : Int32).toNatClampNeg (vp_nar .char (65 : Int32))) 1033 (hsz A) (22 : Int32).toNatClampNeg (vp_nar .char (117 : Int32))) 1033 (hsz A) (23 : Int32).toNatClampNeg (vp_nar .char (103 : Int32))) 1033 (hsz A) (24 : Int32).toNatClampNeg (vp_nar .char (83 : Int32))) 1033 (hsz A) (25 : Int32).toNatClampNeg (vp_nar .char (101 : Int32))) (hsz A)).2 then if wix (27 : Int32) (hsh (hsI (hsI (hsI (hsI (hsI (hsI (hsI (hsI (hsI (hsI (hsI (hsI (hsI (hsI (hsI (hsI (hsI (hsI (hsI (hsI (hsI (hsI (hsI (hsI (hsI (hsI (hsI (hmk A 9 36) 1033 (hsz A) (0 : Int32).toNatClampNeg (vp_nar .char (74 : Int32))) 1033 (hsz A) (1 : Int32).toNatClampNeg (vp_nar .char (97 : Int32))) 1033 (hsz A) (2 : Int32).toNatClampNeg (vp_nar .char (110 : Int32))) 1033 (hsz A) (3 : Int32).toNatClampNeg (vp_nar .char (70 : Int32))) 1033 (hsz A) (4 : Int32).toNatClampNeg (vp_nar .char (101 : Int32))) 1033 (hsz A) (5 : Int32).toNatClampNeg (vp_nar .char (98 : Int32))) 1033 (hsz A) (6 : Int32).toNatClampNeg (vp_nar .char (77 : Int32))) 1033 (hsz A) (7 : Int32).toNatClampNeg (vp_nar .char (97 : Int32))) 1033 (hsz A) (8 : Int32).toNatClampNeg (vp_nar .char (114 : Int32))) 1033 (hsz A) (9 : Int32).toNatClampNeg (vp_nar .char (65 : Int32))) 1033 (hsz A) (10 : Int32).toNatClampNeg (vp_nar .char (112 : Int32))) 1033 (hsz A) (11 : Int32).toNatClampNeg (vp_nar .char (114 : Int32))) 1033 (hsz A) (12 : Int32).toNatClampNeg (vp_nar .char (77 : Int32))) 1033 (hsz A) (13 : Int32).toNatClampNeg (vp_nar .char (97 : Int32))) 1033 (hsz A) (14 : Int32).toNatClampNeg (vp_nar .char (121 : Int32))) 1033 (hsz A) (15 : Int32).toNatClampNeg (vp_nar .char (74 : Int32))) 1033 (hsz A) (16 : Int32).toNatClampNeg (vp_nar .char (117 : Int32))) 1033 (hsz A) (17 : Int32).toNatClampNeg (vp_nar .char (110 : Int32))) 1033 (hsz A) (18 : Int32).toNatClampNeg (vp_nar .char (74 : Int32))) 1033 (hsz A) (19 : Int32).toNatClampNeg (vp_nar .char (117 : Int32))) 1033 (hsz A) (20 : Int32).toNatClampNeg (vp_nar .char (108 : Int32))) 1033 (hsz A) (21 : Int32).toNatClampNeg (vp_nar .char (65 : Int32))) 1033 (hsz A) (22 : Int32).toNatClampNeg (vp_nar .char (117 : Int32))) 1033 (hsz A) (23 : Int32).toNatClampNeg (vp_nar .char (103 : Int32))) 1033 (hsz A) (24 : Int32).toNatClampNeg (vp_nar .char (83 : Int32))) 1033 (hsz A) (25 : Int32).toNatClampNeg (vp_nar .char (101 : Int32))) 1033 (hsz A) (26 : Int32).toNatClampNeg (vp_nar .char (112 : Int32))) (hsz A)).2 then if wix (28 : Int32) (hsh (hsI (hsI (hsI (hsI (hsI (hsI (hsI (hsI (hsI (hsI (hsI (hsI (hsI (hsI (hsI (hsI (hsI (hsI (hsI (hsI (hsI (hsI (hsI (hsI (hsI (hsI (hsI (hsI (hmk A 9 36) 1033 (hsz A) (0 : Int32).toNatClampNeg (vp_nar .char (74 : Int32))) 1033 (hsz A) (1 : Int32).toNatClampNeg (vp_nar .char (97 : Int32))) 1033 (hsz A) (2 : Int32).toNatClampNeg (vp_nar .char (110 : Int32))) 1033 (hsz A) (3 : Int32).toNatClampNeg (vp_nar .char (70 : Int32))) 1033 (hsz A) (4 : Int32).toNatClampNeg (vp_nar .char (101 : Int32))) 1033 (hsz A) (5 : Int32).toNatClampNeg (vp_nar .char (98 : Int32))) 1033 (hsz A) (6 : Int32).toNatClampNeg (vp_nar .char (77 : Int32))) 1033 (hsz A) (7 : Int32).toNatClampNeg (vp_nar .char (97 : Int32))) 1033 (hsz A) (8 : Int32).toNatClampNeg (vp_nar .char (114 : Int32))) 1033 (hsz A) (9 : Int32).toNatClampNeg (vp_nar .char (65 : Int32))) 1033 (hsz A) (10 : Int32).toNatClampNeg (vp_nar .char (112 : Int32))) 1033 (hsz A) (11 : Int32).toNatClampNeg (vp_nar .char (114 : Int32))) 1033 (hsz A) (12 : Int32).toNatClampNeg (vp_nar .char (77 : Int32))) 1033 (hsz A) (13 : Int32).toNatClampNeg (vp_nar .char (97 : Int32))) 1033 (hsz A) (14 : Int32).toNatClampNeg (vp_nar .char (121 : Int32))) 1033 (hsz A) (15 : Int32).toNatClampNeg (vp_nar .char (74 : Int32))) 1033 (hsz A) (16 : Int32).toNatClampNeg (vp_nar .char (117 : Int32))) 1033 (hsz A) (17 : Int32).toNatClampNeg (vp_nar .char (110 : Int32))) 1033 (hsz A) (18 : Int32).toNatClampNeg (vp_nar .char (74 : Int32))) 1033 (hsz A) (19 : Int32).toNatClampNeg (vp_nar .char (117 : Int32))) 1033 (hsz A) (20 : Int32).toNatClampNeg (vp_nar .char (108 : Int32))) 1033 (hsz A) (21 : Int32).toNatClampNeg (vp_nar .char (65 : Int32))) 1033 (hsz A) (22 : Int32).toNatClampNeg (vp_nar .char (117 : Int32))) 1033 (hsz A) (23 : Int32).toNatClampNeg (vp_nar .char (103 : Int32))) 1033 (hsz A) (24 : Int32).toNatClampNeg (vp_nar .char (83 : Int32))) 1033 (hsz A) (25 : Int32).toNatClampNeg (vp_nar .char (101 : Int32))) 1033 (hsz A) (26 : Int32).toNatClampNeg (vp_nar .char (112 : Int32))) 1033 (hsz A) (27 : Int32).toNatClampNeg (vp_nar .char (79 : Int32))) (hsz A)).2 then if wix (29 : Int32) (hsh (hsI (hsI (hsI (hsI (hsI (hsI (hsI (hsI (hsI (hsI (hsI (hsI (hsI (hsI (hsI (hsI (hsI (hsI (hsI (hsI (hsI (hsI (hsI (hsI (hsI (hsI (hsI (hsI (hsI (hmk A 9 36) 1033 (hsz A) (0 : Int32).toNatClampNeg (vp_nar .char (74 : Int32))) 1033 (hsz A) (1 : Int32).toNatClampNeg (vp_nar .char (97 : Int32))) 1033 (hsz A) (2 : Int32).toNatClampNeg (vp_nar .char (110 : Int32))) 1033 (hsz A) (3 : Int32).toNatClampNeg (vp_nar .char (70 : Int32))) 1033 (hsz A) (4 : Int32).toNatClampNeg (vp_nar .char (101 : Int32))) 1033 (hsz A) (5 : Int32).toNatClampNeg (vp_nar .char (98 : Int32))) 1033 (hsz A) (6 : Int32).toNatClampNeg (vp_nar .char (77 : Int32))) 1033 (hsz A) (7 : Int32).toNatClampNeg (vp_nar .char (97 : Int32))) 1033 (hsz A) (8 : Int32).toNatClampNeg (vp_nar .char (114 : Int32))) 1033 (hsz A) (9 : Int32).toNatClampNeg (vp_nar .char (65 : Int32))) 1033 (hsz A) (10 : Int32).toNatClampNeg (vp_nar .char (112 : Int32))) 1033 (hsz A) (11 : Int32).toNatClampNeg (vp_nar .char (114 : Int32))) 1033 (hsz A) (12 : Int32).toNatClampNeg (vp_nar .char (77 : Int32))) 1033 (hsz A) (13 : Int32).toNatClampNeg (vp_nar .char (97 : Int32))) 1033 (hsz A) (14 : Int32).toNatClampNeg (vp_nar .char (121 : Int32))) 1033 (hsz A) (15 : Int32).toNatClampNeg (vp_nar .char (74 : Int32))) 1033 (hsz A) (16 : Int32).toNatClampNeg (vp_nar .char (117 : Int32))) 1033 (hsz A) (17 : Int32).toNatClampNeg (vp_nar .char (110 : Int32))) 1033 (hsz A) (18 : Int32).toNatClampNeg (vp_nar .char (74 : Int32))) 1033 (hsz A) (19 : Int32).toNatClampNeg (vp_nar .char (117 : Int32))) 1033 (hsz A) (20 : Int32).toNatClampNeg (vp_nar .char (108 : Int32))) 1033 (hsz A) (21 : Int32).toNatClampNeg (vp_nar .char (65 : Int32))) 1033 (hsz A) (22 : Int32).toNatClampNeg (vp_nar .char (117 : Int32))) 1033 (hsz A) (23 : Int32).toNatClampNeg (vp_nar .char (103 : Int32))) 1033 (hsz A) (24 : Int32).toNatClampNeg (vp_nar .char (83 : Int32))) 1033 (hsz A) (25 : Int32).toNatClampNeg (vp_nar .char (101 : Int32))) 1033 (hsz A) (26 : Int32).toNatClampNeg (vp_nar .char (112 : Int32))) 1033 (hsz A) (27 : Int32).toNatClampNeg (vp_nar .char (79 : Int32))) 1033 (hsz A) (28 : Int32).toNatClampNeg (vp_nar .char (99 : Int32))) (hsz A)).2 then if wix (30 : Int32) (hsh (hsI (hsI (hsI (hsI (hsI (hsI (hsI (hsI (hsI (hsI (hsI (hsI (hsI (hsI (hsI (hsI (hsI (hsI (hsI (hsI (hsI (hsI (hsI (hsI (hsI (hsI (hsI (hsI (hsI (hsI (hmk A 9 36) 1033 (hsz A) (0 : Int32).toNatClampNeg (vp_nar .char (74 : Int32))) 1033 (hsz A) (1 : Int32).toNatClampNeg (vp_nar .char (97 : Int32))) 1033 (hsz A) (2 : Int32).toNatClampNeg (vp_nar .char (110 : Int32))) 1033 (hsz A) (3 : Int32).toNatClampNeg (vp_nar .char (70 : Int32))) 1033 (hsz A) (4 : Int32).toNatClampNeg (vp_nar .char (101 : Int32))) 1033 (hsz A) (5 : Int32).toNatClampNeg (vp_nar .char (98 : Int32))) 1033 (hsz A) (6 : Int32).toNatClampNeg (vp_nar .char (77 : Int32))) 1033 (hsz A) (7 : Int32).toNatClampNeg (vp_nar .char (97 : Int32))) 1033 (hsz A) (8 : Int32).toNatClampNeg (vp_nar .char (114 : Int32))) 1033 (hsz A) (9 : Int32).toNatClampNeg (vp_nar .char (65 : Int32))) 1033 (hsz A) (10 : Int32).toNatClampNeg (vp_nar .char (112 : Int32))) 1033 (hsz A) (11 : Int32).toNatClampNeg (vp_nar .char (114 : Int32))) 1033 (hsz A) (12 : Int32).toNatClampNeg (vp_nar .char (77 : Int32))) 1033 (hsz A) (13 : Int32).toNatClampNeg (vp_nar .char (97 : Int32))) 1033 (hsz A) (14 : Int32).toNatClampNeg (vp_nar .char (121 : Int32))) 1033 (hsz A) (15 : Int32).toNatClampNeg (vp_nar .char (74 : Int32))) 1033 (hsz A) (16 : Int32).toNatClampNeg (vp_nar .char (117 : Int32))) 1033 (hsz A) (17 : Int32).toNatClampNeg (vp_nar .char (110 : Int32))) 1033 (hsz A) (18 : Int32).toNatClampNeg (vp_nar .char (74 : Int32))) 1033 (hsz A) (19 : Int32).toNatClampNeg (vp_nar .char (117 : Int32))) 1033 (hsz A) (20 : Int32).toNatClampNeg (vp_nar .char (108 : Int32))) 1033 (hsz A) (21 : Int32).toNatClampNeg (vp_nar .char (65 : Int32))) 1033 (hsz A) (22 : Int32).toNatClampNeg (vp_nar .char (117 : Int32))) 1033 (hsz A) (23 : Int32).toNatClampNeg (vp_nar .char (103 : Int32))) 1033 (hsz A) (24 : Int32).toNatClampNeg (vp_nar .char (83 : Int32))) 1033 (hsz A) (25 : Int32).toNatClampNeg (vp_nar .char (101 : Int32))) 1033 (hsz A) (26 : Int32).toNatClampNeg (vp_nar .char (112 : Int32))) 1033 (hsz A) (27 : Int32).toNatClampNeg (vp_nar .char (79 : Int32))) 1033 (hsz A) (28 : Int32).toNatClampNeg (vp_nar .char (99 : Int32))) 1033 (hsz A) (29 : Int32).toNatClampNeg (vp_nar .char (116 : Int32))) (hsz A)).2 then if wix (31 : Int32) (hsh (hsI (hsI (hsI (hsI (hsI (hsI (hsI (hsI (hsI (hsI (hsI (hsI (hsI (hsI (hsI (hsI (hsI (hsI (hsI (hsI (hsI (hsI (hsI (hsI (hsI (hsI (hsI (hsI (hsI (hsI (hsI (hmk A 9 36) 1033 (hsz A) (0 : Int32).toNatClampNeg (vp_nar .char (74 : Int32))) 1033 (hsz A) (1 : Int32).toNatClampNeg (vp_nar .char (97 : Int32))) 1033 (hsz A) (2 : Int32).toNatClampNeg (vp_nar .char (110 : Int32))) 1033 (hsz A) (3 : Int32).toNatClampNeg (vp_nar .char (70 : Int32))) 1033 (hsz A) (4 : Int32).toNatClampNeg (vp_nar .char (101 : Int32))) 1033 (hsz A) (5 : Int32).toNatClampNeg (vp_nar .char (98 : Int32))) 1033 (hsz A) (6 : Int32).toNatClampNeg (vp_nar .char (77 : Int32))) 1033 (hsz A) (7 : Int32).toNatClampNeg (vp_nar .char (97 : Int32))) 1033 (hsz A) (8 : Int32).toNatClampNeg (vp_nar .char (114 : Int32))) 1033 (hsz A) (9 : Int32).toNatClampNeg (vp_nar .char (65 : Int32))) 1033 (hsz A) (10 : Int32).toNatClampNeg (vp_nar .char (112 : Int32))) 1033 (hsz A) (11 : Int32).toNatClampNeg (vp_nar .char (114 : Int32))) 1033 (hsz A) (12 : Int32).toNatClampNeg (vp_nar .char (77 : Int32))) 1033 (hsz A) (13 : Int32).toNatClampNeg (vp_nar .char (97 : Int32))) 1033 (hsz A) (14 : Int32).toNatClampNeg (vp_nar .char (121 : Int32))) 1033 (hsz A) (15 : Int32).toNatClampNeg (vp_nar .char (74 : Int32))) 1033 (hsz A) (16 : Int32).toNatClampNeg (vp_nar .char (117 : Int32))) 1033 (hsz A) (17 : Int32).toNatClampNeg (vp_nar .char (110 : Int32))) 1033 (hsz A) (18 : Int32).toNatClampNeg (vp_nar .char (74 : Int32))) 1033 (hsz A) (19 : Int32).toNatClampNeg (vp_nar .char (117 : Int32))) 1033 (hsz A) (20 : Int32).toNatClampNeg (vp_nar .char (108 : Int32))) 1033 (hsz A) (21 : Int32).toNatClampNeg (vp_nar .char (65 : Int32))) 1033 (hsz A) (22 : Int32).toNatClampNeg (vp_nar .char (117 : Int32))) 1033 (hsz A) (23 : Int32).toNatClampNeg (vp_nar .char (103 : Int32))) 1033 (hsz A) (24 : Int32).toNatClampNeg (vp_nar .char (83 : Int32))) 1033 (hsz A) (25 : Int32).toNatClampNeg (vp_nar .char (101 : Int32))) 1033 (hsz A) (26 : Int32).toNatClampNeg (vp_nar .char (112 : Int32))) 1033 (hsz A) (27 : Int32).toNatClampNeg (vp_nar .char (79 : Int32))) 1033 (hsz A) (28 : Int32).toNatClampNeg (vp_nar .char (99 : Int32))) 1033 (hsz A) (29 : Int32).toNatClampNeg (vp_nar .char (116 : Int32))) 1033 (hsz A) (30 : Int32).toNatClampNeg (vp_nar .char (78 : Int32))) (hsz A)).2 then if wix (32 : Int32) (hsh (hsI (hsI (hsI (hsI (hsI (hsI (hsI (hsI (hsI (hsI (hsI (hsI (hsI (hsI (hsI (hsI (hsI (hsI (hsI (hsI (hsI (hsI (hsI (hsI (hsI (hsI (hsI (hsI (hsI (hsI (hsI (hsI (hmk A 9 36) 1033 (hsz A) (0 : Int32).toNatClampNeg (vp_nar .char (74 : Int32))) 1033 (hsz A) (1 : Int32).toNatClampNeg (vp_nar .char (97 : Int32))) 1033 (hsz A) (2 : Int32).toNatClampNeg (vp_nar .char (110 : Int32))) 1033 (hsz A) (3 : Int32).toNatClampNeg (vp_nar .char (70 : Int32))) 1033 (hsz A) (4 : Int32).toNatClampNeg (vp_nar .char (101 : Int32))) 1033 (hsz A) (5 : Int32).toNatClampNeg (vp_nar .char (98 : Int32))) 1033 (hsz A) (6 : Int32).toNatClampNeg (vp_nar .char (77 : Int32))) 1033 (hsz A) (7 : Int32).toNatClampNeg (vp_nar .char (97 : Int32))) 1033 (hsz A) (8 : Int32).toNatClampNeg (vp_nar .char (114 : Int32))) 1033 (hsz A) (9 : Int32).toNatClampNeg (vp_nar .char (65 : Int32))) 1033 (hsz A) (10 : Int32).toNatClampNeg (vp_nar .char (112 : Int32))) 1033 (hsz A) (11 : Int32).toNatClampNeg (vp_nar .char (114 : Int32))) 1033 (hsz A) (12 : Int32).toNatClampNeg (vp_nar .char (77 : Int32))) 1033 (hsz A) (13 : Int32).toNatClampNeg (vp_nar .char (97 : Int32))) 1033 (hsz A) (14 : Int32).toNatClampNeg (vp_nar .char (121 : Int32))) 1033 (hsz A) (15 : Int32).toNatClampNeg (vp_nar .char (74 : Int32))) 1033 (hsz A) (16 : Int32).toNatClampNeg (vp_nar .char (117 : Int32))) 1033 (hsz A) (17 : Int32).toNatClampNeg (vp_nar .char (110 : Int32))) 1033 (hsz A) (18 : Int32).toNatClampNeg (vp_nar .char (74 : Int32))) 1033 (hsz A) (19 : Int32).toNatClampNeg (vp_nar .char (117 : Int32))) 1033 (hsz A) (20 : Int32).toNatClampNeg (vp_nar .char (108 : Int32))) 1033 (hsz A) (21 : Int32).toNatClampNeg (vp_nar .char (65 : Int32))) 1033 (hsz A) (22 : Int32).toNatClampNeg (vp_nar .char (117 : Int32))) 1033 (hsz A) (23 : Int32).toNatClampNeg (vp_nar .char (103 : Int32))) 1033 (hsz A) (24 : Int32).toNatClampNeg (vp_nar .char (83 : Int32))) 1033 (hsz A) (25 : Int32).toNatClampNeg (vp_nar .char (101 : Int32))) 1033 (hsz A) (26 : Int32).toNatClampNeg (vp_nar .char (112 : Int32))) 1033 (hsz A) (27 : Int32).toNatClampNeg (vp_nar .char (79 : Int32))) 1033 (hsz A) (28 : Int32).toNatClampNeg (vp_nar .char (99 : Int32))) 1033 (hsz A) (29 : Int32).toNatClampNeg (vp_nar .char (116 : Int32))) 1033 (hsz A) (30 : Int32).toNatClampNeg (vp_nar .char (78 : Int32))) 1033 (hsz A) (31 : Int32).toNatClampNeg (vp_nar .char (111 : Int32))) (hsz A)).2 then if wix (33 : Int32) (hsh (hsI (hsI (hsI (hsI (hsI (hsI (hsI (hsI (hsI (hsI (hsI (hsI (hsI (hsI (hsI (hsI (hsI (hsI (hsI (hsI (hsI (hsI (hsI (hsI (hsI (hsI (hsI (hsI (hsI (hsI (hsI (hsI (hsI (hmk A 9 36) 1033 (hsz A) (0 : Int32).toNatClampNeg (vp_nar .char (74 : Int32))) 1033 (hsz A) (1 : Int32).toNatClampNeg (vp_nar .char (97 : Int32))) 1033 (hsz A) (2 : Int32).toNatClampNeg (vp_nar .char (110 : Int32))) 1033 (hsz A) (3 : Int32).toNatClampNeg (vp_nar .char (70 : Int32))) 1033 (hsz A) (4 : Int32).toNatClampNeg (vp_nar .char (101 : Int32))) 1033 (hsz A) (5 : Int32).toNatClampNeg (vp_nar .char (98 : Int32))) 1033 (hsz A) (6 : Int32).toNatClampNeg (vp_nar .char (77 : Int32))) 1033 (hsz A) (7 : Int32).toNatClampNeg (vp_nar .char (97 : Int32))) 1033 (hsz A) (8 : Int32).toNatClampNeg (vp_nar .char (114 : Int32))) 1033 (hsz A) (9 : Int32).toNatClampNeg (vp_nar .char (65 : Int32))) 1033 (hsz A) (10 : Int32).toNatClampNeg (vp_nar .char (112 : Int32))) 1033 (hsz A) (11 : Int32).toNatClampNeg (vp_nar .char (114 : Int32))) 1033 (hsz A) (12 : Int32).toNatClampNeg (vp_nar .char (77 : Int32))) 1033 (hsz A) (13 : Int32).toNatClampNeg (vp_nar .char (97 : Int32))) 1033 (hsz A) (14 : Int32).toNatClampNeg (vp_nar .char (121 : Int32))) 1033 (hsz A) (15 : Int32).toNatClampNeg (vp_nar .char (74 : Int32))) 1033 (hsz A) (16 : Int32).toNatClampNeg (vp_nar .char (117 : Int32))) 1033 (hsz A) (17 : Int32).toNatClampNeg (vp_nar .char (110 : Int32))) 1033 (hsz A) (18 : Int32).toNatClampNeg (vp_nar .char (74 : Int32))) 1033 (hsz A) (19 : Int32).toNatClampNeg (vp_nar .char (117 : Int32))) 1033 (hsz A) (20 : Int32).toNatClampNeg (vp_nar .char (108 : Int32))) 1033 (hsz A) (21 : Int32).toNatClampNeg (vp_nar .char (65 : Int32))) 1033 (hsz A) (22 : Int32).toNatClampNeg (vp_nar .char (117 : Int32))) 1033 (hsz A) (23 : Int32).toNatClampNeg (vp_nar .char (103 : Int32))) 1033 (hsz A) (24 : Int32).toNatClampNeg (vp_nar .char (83 : Int32))) 1033 (hsz A) (25 : Int32).toNatClampNeg (vp_nar .char (101 : Int32))) 1033 (hsz A) (26 : Int32).toNatClampNeg (vp_nar .char (112 : Int32))) 1033 (hsz A) (27 : Int32).toNatClampNeg (vp_nar .char (79 : Int32))) 1033 (hsz A) (28 : Int32).toNatClampNeg (vp_nar .char (99 : Int32))) 1033 (hsz A) (29 : Int32).toNatClampNeg (vp_nar .char (116 : Int32))) 1033 (hsz A) (30 : Int32).toNatClampNeg (vp_nar .char (78 : Int32))) 1033 (hsz A) (31 : Int32).toNatClampNeg (vp_nar .char (111 : Int32))) 1033 (hsz A) (32 : Int32).toNatClampNeg (vp_nar .char (118 : Int32))) (hsz A)).2 then if wix (34 : Int32) (hsh (hsI (hsI (hsI (hsI (hsI (hsI (hsI (hsI (hsI (hsI (hsI (hsI (hsI (hsI (hsI (hsI (hsI (hsI (hsI (hsI (hsI (hsI (hsI (hsI (hsI (hsI (hsI (hsI (hsI (hsI (hsI (hsI (hsI (hsI (hmk A 9 36) 1033 (hsz A) (0 : Int32).toNatClampNeg (vp_nar .char (74 : Int32))) 1033 (hsz A) (1 : Int32).toNatClampNeg (vp_nar .char (97 : Int32))) 1033 (hsz A) (2 : Int32).toNatClampNeg (vp_nar .char (110 : Int32))) 1033 (hsz A) (3 : Int32).toNatClampNeg (vp_nar .char (70 : Int32))) 1033 (hsz A) (4 : Int32).toNatClampNeg (vp_nar .char (101 : Int32))) 1033 (hsz A) (5 : Int32).toNatClampNeg (vp_nar .char (98 : Int32))) 1033 (hsz A) (6 : Int32).toNatClampNeg (vp_nar .char (77 : Int32))) 1033 (hsz A) (7 : Int32).toNatClampNeg (vp_nar .char (97 : Int32))) 1033 (hsz A) (8 : Int32).toNatClampNeg (vp_nar .char (114 : Int32))) 1033 (hsz A) (9 : Int32).toNatClampNeg (vp_nar .char (65 : Int32))) 1033 (hsz A) (10 : Int32).toNatClampNeg (vp_nar .char (112 : Int32))) 1033 (hsz A) (11 : Int32).toNatClampNeg (vp_nar .char (114 : Int32))) 1033 (hsz A) (12 : Int32).toNatClampNeg (vp_nar .char (77 : Int32))) 1033 (hsz A) (13 : Int32).toNatClampNeg (vp_nar .char (97 : Int32))) 1033 (hsz A) (14 : Int32).toNatClampNeg (vp_nar .char (121 : Int32))) 1033 (hsz A) (15 : Int32).toNatClampNeg (vp_nar .char (74 : Int32))) 1033 (hsz A) (16 : Int32).toNatClampNeg (vp_nar .char (117 : Int32))) 1033 (hsz A) (17 : Int32).toNatClampNeg (vp_nar .char (110 : Int32))) 1033 (hsz A) (18 : Int32).toNatClampNeg (vp_nar .char (74 : Int32))) 1033 (hsz A) (19 : Int32).toNatClampNeg (vp_nar .char (117 : Int32))) 1033 (hsz A) (20 : Int32).toNatClampNeg (vp_nar .char (108 : Int32))) 1033 (hsz A) (21 : Int32).toNatClampNeg (vp_nar .char (65 : Int32))) 1033 (hsz A) (22 : Int32).toNatClampNeg (vp_nar .char (117 : Int32))) 1033 (hsz A) (23 : Int32).toNatClampNeg (vp_nar .char (103 : Int32))) 1033 (hsz A) (24 : Int32).toNatClampNeg (vp_nar .char (83 : Int32))) 1033 (hsz A) (25 : Int32).toNatClampNeg (vp_nar .char (101 : Int32))) 1033 (hsz A) (26 : Int32).toNatClampNeg (vp_nar .char (112 : Int32))) 1033 (hsz A) (27 : Int32).toNatClampNeg (vp_nar .char (79 : Int32))) 1033 (hsz A) (28 : Int32).toNatClampNeg (vp_nar .char (99 : Int32))) 1033 (hsz A) (29 : Int32).toNatClampNeg (vp_nar .char (116 : Int32))) 1033 (hsz A) (30 : Int32).toNatClampNeg (vp_nar .char (78 : Int32))) 1033 (hsz A) (31 : Int32).toNatClampNeg (vp_nar .char (111 : Int32))) 1033 (hsz A) (32 : Int32).toNatClampNeg (vp_nar .char (118 : Int32))) 1033 (hsz A) (33 : Int32).toNatClampNeg (vp_nar .char (68 : Int32))) (hsz A)).2 then if wix (35 : Int32) (hsh (hsI (hsI (hsI (hsI (hsI (hsI (hsI (hsI (hsI (hsI (hsI (hsI (hsI (hsI (hsI (hsI (hsI (hsI (hsI (hsI (hsI (hsI (hsI (hsI (hsI (hsI (hsI (hsI (hsI (hsI (hsI (hsI (hsI (hsI (hsI (hmk A 9 36) 1033 (hsz A) (0 : Int32).toNatClampNeg (vp_nar .char (74 : Int32))) 1033 (hsz A) (1 : Int32).toNatClampNeg (vp_nar .char (97 : Int32))) 1033 (hsz A) (2 : Int32).toNatClampNeg (vp_nar .char (110 : Int32))) 1033 (hsz A) (3 : Int32).toNatClampNeg (vp_nar .char (70 : Int32))) 1033 (hsz A) (4 : Int32).toNatClampNeg (vp_nar .char (101 : Int32))) 1033 (hsz A) (5 : Int32).toNatClampNeg (vp_nar .char (98 : Int32))) 1033 (hsz A) (6 : Int32).toNatClampNeg (vp_nar .char (77 : Int32))) 1033 (hsz A) (7 : Int32).toNatClampNeg (vp_nar .char (97 : Int32))) 1033 (hsz A) (8 : Int32).toNatClampNeg (vp_nar .char (114 : Int32))) 1033 (hsz A) (9 : Int32).toNatClampNeg (vp_nar .char (65 : Int32))) 1033 (hsz A) (10 : Int32).toNatClampNeg (vp_nar .char (112 : Int32))) 1033 (hsz A) (11 : Int32).toNatClampNeg (vp_nar .char (114 : Int32))) 1033 (hsz A) (12 : Int32).toNatClampNeg (vp_nar .char (77 : Int32))) 1033 (hsz A) (13 : Int32).toNatClampNeg (vp_nar .char (97 : Int32))) 1033 (hsz A) (14 : Int32).toNatClampNeg (vp_nar .char (121 : Int32))) 1033 (hsz A) (15 : Int32).toNatClampNeg (vp_nar .char (74 : Int32))) 1033 (hsz A) (16 : Int32).toNatClampNeg (vp_nar .char (117 : Int32))) 1033 (hsz A) (17 : Int32).toNatClampNeg (vp_nar .char (110 : Int32))) 1033 (hsz A) (18 : Int32).toNatClampNeg (vp_nar .char (74 : Int32))) 1033 (hsz A) (19 : Int32).toNatClampNeg (vp_nar .char (117 : Int32))) 1033 (hsz A) (20 : Int32).toNatClampNeg (vp_nar .char (108 : Int32))) 1033 (hsz A) (21 : Int32).toNatClampNeg (vp_nar .char (65 : Int32))) 1033 (hsz A) (22 : Int32).toNatClampNeg (vp_nar .char (117 : Int32))) 1033 (hsz A) (23 : Int32).toNatClampNeg (vp_nar .char (103 : Int32))) 1033 (hsz A) (24 : Int32).toNatClampNeg (vp_nar .char (83 : Int32))) 1033 (hsz A) (25 : Int32).toNatClampNeg (vp_nar .char (101 : Int32))) 1033 (hsz A) (26 : Int32).toNatClampNeg (vp_nar .char (112 : Int32))) 1033 (hsz A) (27 : Int32).toNatClampNeg (vp_nar .char (79 : Int32))) 1033 (hsz A) (28 : Int32).toNatClampNeg (vp_nar .char (99 : Int32))) 1033 (hsz A) (29 : Int32).toNatClampNeg (vp_nar .char (116 : Int32))) 1033 (hsz A) (30 : Int32).toNatClampNeg (vp_nar .char (78 : Int32))) 1033 (hsz A) (31 : Int32).toNatClampNeg (vp_nar .char (111 : Int32))) 1033 (hsz A) (32 : Int32).toNatClampNeg (vp_nar .char (118 : Int32))) 1033 (hsz A) (33 : Int32).toNatClampNeg (vp_nar .char (68 : Int32))) 1033 (hsz A) (34 : Int32).toNatClampNeg (vp_nar .char (101 : Int32))) (hsz A)).2 then if (hsh (hsI (hsI (hsI (hsI (hsI (hsI (hsI (hsI (hsI (hsI (hsI (hsI (hsI (hsI (hsI (hsI (hsI (hsI (hsI (hsI (hsI (hsI (hsI (hsI (hsI (hsI (hsI (hsI (hsI (hsI (hsI (hsI (hsI (hsI (hsI (hsI (hmk A 9 36) 1033 (hsz A) (0 : Int32).toNatClampNeg (vp_nar .char (74 : Int32))) 1033 (hsz A) (1 : Int32).toNatClampNeg (vp_nar .char (97 : Int32))) 1033 (hsz A) (2 : Int32).toNatClampNeg (vp_nar .char (110 : Int32))) 1033 (hsz A) (3 : Int32).toNatClampNeg (vp_nar .char (70 : Int32))) 1033 (hsz A) (4 : Int32).toNatClampNeg (vp_nar .char (101 : Int32))) 1033 (hsz A) (5 : Int32).toNatClampNeg (vp_nar .char (98 : Int32))) 1033 (hsz A) (6 : Int32).toNatClampNeg (vp_nar .char (77 : Int32))) 1033 (hsz A) (7 : Int32).toNatClampNeg (vp_nar .char (97 : Int32))) 1033 (hsz A) (8 : Int32).toNatClampNeg (vp_nar .char (114 : Int32))) 1033 (hsz A) (9 : Int32).toNatClampNeg (vp_nar .char (65 : Int32))) 1033 (hsz A) (10 : Int32).toNatClampNeg (vp_nar .char (112 : Int32))) 1033 (hsz A) (11 : Int32).toNatClampNeg (vp_nar .char (114 : Int32))) 1033 (hsz A) (12 : Int32).toNatClampNeg (vp_nar .char (77 : Int32))) 1033 (hsz A) (13 : Int32).toNatClampNeg (vp_nar .char (97 : Int32))) 1033 (hsz A) (14 : Int32).toNatClampNeg (vp_nar .char (121 : Int32))) 1033 (hsz A) (15 : Int32).toNatClampNeg (vp_nar .char (74 : Int32))) 1033 (hsz A) (16 : Int32).toNatClampNeg (vp_nar .char (117 : Int32))) 1033 (hsz A) (17 : Int32).toNatClampNeg (vp_nar .char (110 : Int32))) 1033 (hsz A) (18 : Int32).toNatClampNeg (vp_nar .char (74 : Int32))) 1033 (hsz A) (19 : Int32).toNatClampNeg (vp_nar .char (117 : Int32))) 1033 (hsz A) (20 : Int32).toNatClampNeg (vp_nar .char (108 : Int32))) 1033 (hsz A) (21 : Int32).toNatClampNeg (vp_nar .char (65 : Int32))) 1033 (hsz A) (22 : Int32).toNatClampNeg (vp_nar .char (117 : Int32))) 1033 (hsz A) (23 : Int32).toNatClampNeg (vp_nar .char (103 : Int32))) 1033 (hsz A) (24 : Int32).toNatClampNeg (vp_nar .char (83 : Int32))) 1033 (hsz A) (25 : Int32).toNatClampNeg (vp_nar .char (101 : Int32))) 1033 (hsz A) (26 : Int32).toNatClampNeg (vp_nar .char (112 : Int32))) 1033 (hsz A) (27 : Int32).toNatClampNeg (vp_nar .char (79 : Int32))) 1033 (hsz A) (28 : Int32).toNatClampNeg (vp_nar .char (99 : Int32))) 1033 (hsz A) (29 : Int32).toNatClampNeg (vp_nar .char (116 : Int32))) 1033 (hsz A) (30 : Int32).toNatClampNeg (vp_nar .char (78 : Int32))) 1033 (hsz A) (31 : Int32).toNatClampNeg (vp_nar .char (111 : Int32))) 1033 (hsz A) (32 : Int32).toNatClampNeg (vp_nar .char (118 : Int32))) 1033 (hsz A) (33 : Int32).toNatClampNeg (vp_nar .char (68 : Int32))) 1033 (hsz A) (34 : Int32).toNatClampNeg (vp_nar .char (101 : Int32))) 1033 (hsz A) (35 : Int32).toNatClampNeg (vp_nar .char (99 : Int32))) x0).1 = 8 then k_X9_init_911 (hsR (hsI (hsI (hsI (hsI (hsI (hsI (hsI (hsI (hsI (hsI (hsI (hsI (hsI (hsI (hsI (hsI (hsI (hsI (hsI (hsI (hsI (hsI (hsI (hsI (hsI (hsI (hsI (hsI (hsI (hsI (hsI (hsI (hsI (hsI (hsI (hsI (hmk A 9 36) 1033 (hsz A) (0 : Int32).toNatClampNeg (vp_nar .char (74 : Int32))) 1033 (hsz A) (1 : Int32).toNatClampNeg (vp_nar .char (97 : Int32))) 1033 (hsz A) (2 : Int32).toNatClampNeg (vp_nar .char (110 : Int32))) 1033 (hsz A) (3 : Int32).toNatClampNeg (vp_nar .char (70 : Int32))) 1033 (hsz A) (4 : Int32).toNatClampNeg (vp_nar .char (101 : Int32))) 1033 (hsz A) (5 : Int32).toNatClampNeg (vp_nar .char (98 : Int32))) 1033 (hsz A) (6 : Int32).toNatClampNeg (vp_nar .char (77 : Int32))) 1033 (hsz A) (7 : Int32).toNatClampNeg (vp_nar .char (97 : Int32))) 1033 (hsz A) (8 : Int32).toNatClampNeg (vp_nar .char (114 : Int32))) 1033 (hsz A) (9 : Int32).toNatClampNeg (vp_nar .char (65 : Int32))) 1033 (hsz A) (10 : Int32).toNatClampNeg (vp_nar .char (112 : Int32))) 1033 (hsz A) (11 : Int32).toNatClampNeg (vp_nar .char (114 : Int32))) 1033 (hsz A) (12 : Int32).toNatClampNeg (vp_nar .char (77 : Int32))) 1033 (hsz A) (13 : Int32).toNatClampNeg (vp_nar .char (97 : Int32))) 1033 (hsz A) (14 : Int32).toNatClampNeg (vp_nar .char (121 : Int32))) 1033 (hsz A) (15 : Int32).toNatClampNeg (vp_nar .char (74 : Int32))) 1033 (hsz A) (16 : Int32).toNatClampNeg (vp_nar .char (117 : Int32))) 1033 (hsz A) (17 : Int32).toNatClampNeg (vp_nar .char (110 : Int32))) 1033 (hsz A) (18 : Int32).toNatClampNeg (vp_nar .char (74 : Int32))) 1033 (hsz A) (19 : Int32).toNatClampNeg (vp_nar .char (117 : Int32))) 1033 (hsz A) (20 : Int32).toNatClampNeg (vp_nar .char (108 : Int32))) 1033 (hsz A) (21 : Int32).toNatClampNeg (vp_nar .char (65 : Int32))) 1033 (hsz A) (22 : Int32).toNatClampNeg (vp_nar .char (117 : Int32))) 1033 (hsz A) (23 : Int32).toNatClampNeg (vp_nar .char (103 : Int32))) 1033 (hsz A) (24 : Int32).toNatClampNeg (vp_nar .char (83 : Int32))) 1033 (hsz A) (25 : Int32).toNatClampNeg (vp_nar .char (101 : Int32))) 1033 (hsz A) (26 : Int32).toNatClampNeg (vp_nar .char (112 : Int32))) 1033 (hsz A) (27 : Int32).toNatClampNeg (vp_nar .char (79 : Int32))) 1033 (hsz A) (28 : Int32).toNatClampNeg (vp_nar .char (99 : Int32))) 1033 (hsz A) (29 : Int32).toNatClampNeg (vp_nar .char (116 : Int32))) 1033 (hsz A) (30 : Int32).toNatClampNeg (vp_nar .char (78 : Int32))) 1033 (hsz A) (31 : Int32).toNatClampNeg (vp_nar .char (111 : Int32))) 1033 (hsz A) (32 : Int32).toNatClampNeg (vp_nar .char (118 : Int32))) 1033 (hsz A) (33 : Int32).toNatClampNeg (vp_nar .char (68 : Int32))) 1033 (hsz A) (34 : Int32).toNatClampNeg (vp_nar .char (101 : Int32))) 1033 (hsz A) (35 : Int32).toNatClampNeg (vp_nar .char (99 : Int32))) 471 x0 0 (hsz A)) x0 else none else none else none else none else none else none else none else none else none else none else none else none else none else none else none else none else none else none else none else none else none else none else none else none else none else none else none else none else none else none else none else none else none else none else none else none else none else none
set_option maxRecDepth 100000 in
theorem s_X9_init_693 {κ : KT} {B : Hp} {A : Hp} {x0 : Nat}   (K : Cx κ cX9_init 1 RX9 1 20 22 25941) (E : Ed κ none "<init>" (.inl none) B 22 25941)  (h : k_X9_init_693  A x0  = some B) : Vw κ A 21 25905 693 [(0, .inr (.inr x0))] [] := by
  unfold k_X9_init_693 at h
  refine Vw.aload_n (pc := 693) (x := x0) K dX9_init_693 rfl ?_
  refine Vw.bipush (pc := 694) (v := (36 : Int32)) K (by decide) dX9_init_694 ?_
  refine Vw.newC_ (pc := 696) (c := 21) (n := 25905) (c' := 22) (n' := 25941) (N := 36) K u_1_56 (by decide) (by decide) (by decide) (by decide) (by decide) dX9_init_696 rfl rfl ?_
  refine Vw.dup (pc := 698) K rfl dX9_init_698 ?_
  refine Vw.iconst (pc := 699) (v := (0 : Int32)) K (by decide) dX9_init_699 ?_
  refine Vw.bipush (pc := 700) (v := (74 : Int32)) K (by decide) dX9_init_700 ?_
  obtain ⟨g6, h⟩ := wgd h
  obtain ⟨g7, h⟩ := wgd h
  refine Vw.castore (pc := 702) K g6 g7 dX9_init_702 ?_
  refine Vw.dup (pc := 703) K rfl dX9_init_703 ?_
  refine Vw.iconst (pc := 704) (v := (1 : Int32)) K (by decide) dX9_init_704 ?_
  refine Vw.bipush (pc := 705) (v := (97 : Int32)) K (by decide) dX9_init_705 ?_
  obtain ⟨g8, h⟩ := wgd h
  refine Vw.castore (pc := 707) K g6 g8 dX9_init_707 ?_
  refine Vw.dup (pc := 708) K rfl dX9_init_708 ?_
  refine Vw.iconst (pc := 709) (v := (2 : Int32)) K (by decide) dX9_init_709 ?_
  refine Vw.bipush (pc := 710) (v := (110 : Int32)) K (by decide) dX9_init_710 ?_
  obtain ⟨g9, h⟩ := wgd h
  refine Vw.castore (pc := 712) K g6 g9 dX9_init_712 ?_
  refine Vw.dup (pc := 713) K rfl dX9_init_713 ?_
  refine Vw.iconst (pc := 714) (v := (3 : Int32)) K (by decide) dX9_init_714 ?_
  refine Vw.bipush (pc := 715) (v := (70 : Int32)) K (by decide) dX9_init_715 ?_
  obtain ⟨g10, h⟩ := wgd h
  refine Vw.castore (pc := 717) K g6 g10 dX9_init_717 ?_
  refine Vw.dup (pc := 718) K rfl dX9_init_718 ?_
  refine Vw.iconst (pc := 719) (v := (4 : Int32)) K (by decide) dX9_init_719 ?_
  refine Vw.bipush (pc := 720) (v := (101 : Int32)) K (by decide) dX9_init_720 ?_
  obtain ⟨g11, h⟩ := wgd h
  refine Vw.castore (pc := 722) K g6 g11 dX9_init_722 ?_
  refine Vw.dup (pc := 723) K rfl dX9_init_723 ?_
  refine Vw.iconst (pc := 724) (v := (5 : Int32)) K (by decide) dX9_init_724 ?_
  refine Vw.bipush (pc := 725) (v := (98 : Int32)) K (by decide) dX9_init_725 ?_
  obtain ⟨g12, h⟩ := wgd h
  refine Vw.castore (pc := 727) K g6 g12 dX9_init_727 ?_
  refine Vw.dup (pc := 728) K rfl dX9_init_728 ?_
  refine Vw.bipush (pc := 729) (v := (6 : Int32)) K (by decide) dX9_init_729 ?_
  refine Vw.bipush (pc := 731) (v := (77 : Int32)) K (by decide) dX9_init_731 ?_
  obtain ⟨g13, h⟩ := wgd h
  refine Vw.castore (pc := 733) K g6 g13 dX9_init_733 ?_
  refine Vw.dup (pc := 734) K rfl dX9_init_734 ?_
  refine Vw.bipush (pc := 735) (v := (7 : Int32)) K (by decide) dX9_init_735 ?_
  refine Vw.bipush (pc := 737) (v := (97 : Int32)) K (by decide) dX9_init_737 ?_
  obtain ⟨g14, h⟩ := wgd h
  refine Vw.castore (pc := 739) K g6 g14 dX9_init_739 ?_
  refine Vw.dup (pc := 740) K rfl dX9_init_740 ?_
  refine Vw.bipush (pc := 741) (v := (8 : Int32)) K (by decide) dX9_init_741 ?_
  refine Vw.bipush (pc := 743) (v := (114 : Int32)) K (by decide) dX9_init_743 ?_
  obtain ⟨g15, h⟩ := wgd h
  refine Vw.castore (pc := 745) K g6 g15 dX9_init_745 ?_
  refine Vw.dup (pc := 746) K rfl dX9_init_746 ?_
  refine Vw.bipush (pc := 747) (v := (9 : Int32)) K (by decide) dX9_init_747 ?_
  refine Vw.bipush (pc := 749) (v := (65 : Int32)) K (by decide) dX9_init_749 ?_
  obtain ⟨g16, h⟩ := wgd h
  refine Vw.castore (pc := 751) K g6 g16 dX9_init_751 ?_
  refine Vw.dup (pc := 752) K rfl dX9_init_752 ?_
  refine Vw.bipush (pc := 753) (v := (10 : Int32)) K (by decide) dX9_init_753 ?_
  refine Vw.bipush (pc := 755) (v := (112 : Int32)) K (by decide) dX9_init_755 ?_
  obtain ⟨g17, h⟩ := wgd h
  refine Vw.castore (pc := 757) K g6 g17 dX9_init_757 ?_
  refine Vw.dup (pc := 758) K rfl dX9_init_758 ?_
  refine Vw.bipush (pc := 759) (v := (11 : Int32)) K (by decide) dX9_init_759 ?_
  refine Vw.bipush (pc := 761) (v := (114 : Int32)) K (by decide) dX9_init_761 ?_
  obtain ⟨g18, h⟩ := wgd h
  refine Vw.castore (pc := 763) K g6 g18 dX9_init_763 ?_
  refine Vw.dup (pc := 764) K rfl dX9_init_764 ?_
  refine Vw.bipush (pc := 765) (v := (12 : Int32)) K (by decide) dX9_init_765 ?_
  refine Vw.bipush (pc := 767) (v := (77 : Int32)) K (by decide) dX9_init_767 ?_
  obtain ⟨g19, h⟩ := wgd h
  refine Vw.castore (pc := 769) K g6 g19 dX9_init_769 ?_
  refine Vw.dup (pc := 770) K rfl dX9_init_770 ?_
  refine Vw.bipush (pc := 771) (v := (13 : Int32)) K (by decide) dX9_init_771 ?_
  refine Vw.bipush (pc := 773) (v := (97 : Int32)) K (by decide) dX9_init_773 ?_
  obtain ⟨g20, h⟩ := wgd h
  refine Vw.castore (pc := 775) K g6 g20 dX9_init_775 ?_
  refine Vw.dup (pc := 776) K rfl dX9_init_776 ?_
  refine Vw.bipush (pc := 777) (v := (14 : Int32)) K (by decide) dX9_init_777 ?_
  refine Vw.bipush (pc := 779) (v := (121 : Int32)) K (by decide) dX9_init_779 ?_
  obtain ⟨g21, h⟩ := wgd h
  refine Vw.castore (pc := 781) K g6 g21 dX9_init_781 ?_
  refine Vw.dup (pc := 782) K rfl dX9_init_782 ?_
  refine Vw.bipush (pc := 783) (v := (15 : Int32)) K (by decide) dX9_init_783 ?_
  refine Vw.bipush (pc := 785) (v := (74 : Int32)) K (by decide) dX9_init_785 ?_
  obtain ⟨g22, h⟩ := wgd h
  refine Vw.castore (pc := 787) K g6 g22 dX9_init_787 ?_
  refine Vw.dup (pc := 788) K rfl dX9_init_788 ?_
  refine Vw.bipush (pc := 789) (v := (16 : Int32)) K (by decide) dX9_init_789 ?_
  refine Vw.bipush (pc := 791) (v := (117 : Int32)) K (by decide) dX9_init_791 ?_
  obtain ⟨g23, h⟩ := wgd h
  refine Vw.castore (pc := 793) K g6 g23 dX9_init_793 ?_
  refine Vw.dup (pc := 794) K rfl dX9_init_794 ?_
  refine Vw.bipush (pc := 795) (v := (17 : Int32)) K (by decide) dX9_init_795 ?_
  refine Vw.bipush (pc := 797) (v := (110 : Int32)) K (by decide) dX9_init_797 ?_
  obtain ⟨g24, h⟩ := wgd h
  refine Vw.castore (pc := 799) K g6 g24 dX9_init_799 ?_
  refine Vw.dup (pc := 800) K rfl dX9_init_800 ?_
  refine Vw.bipush (pc := 801) (v := (18 : Int32)) K (by decide) dX9_init_801 ?_
  refine Vw.bipush (pc := 803) (v := (74 : Int32)) K (by decide) dX9_init_803 ?_
  obtain ⟨g25, h⟩ := wgd h
  refine Vw.castore (pc := 805) K g6 g25 dX9_init_805 ?_
  refine Vw.dup (pc := 806) K rfl dX9_init_806 ?_
  refine Vw.bipush (pc := 807) (v := (19 : Int32)) K (by decide) dX9_init_807 ?_
  refine Vw.bipush (pc := 809) (v := (117 : Int32)) K (by decide) dX9_init_809 ?_
  obtain ⟨g26, h⟩ := wgd h
  refine Vw.castore (pc := 811) K g6 g26 dX9_init_811 ?_
  refine Vw.dup (pc := 812) K rfl dX9_init_812 ?_
  refine Vw.bipush (pc := 813) (v := (20 : Int32)) K (by decide) dX9_init_813 ?_
  refine Vw.bipush (pc := 815) (v := (108 : Int32)) K (by decide) dX9_init_815 ?_
  obtain ⟨g27, h⟩ := wgd h
  refine Vw.castore (pc := 817) K g6 g27 dX9_init_817 ?_
  refine Vw.dup (pc := 818) K rfl dX9_init_818 ?_
  refine Vw.bipush (pc := 819) (v := (21 : Int32)) K (by decide) dX9_init_819 ?_
  refine Vw.bipush (pc := 821) (v := (65 : Int32)) K (by decide) dX9_init_821 ?_
  obtain ⟨g28, h⟩ := wgd h
  refine Vw.castore (pc := 823) K g6 g28 dX9_init_823 ?_
  refine Vw.dup (pc := 824) K rfl dX9_init_824 ?_
  refine Vw.bipush (pc := 825) (v := (22 : Int32)) K (by decide) dX9_init_825 ?_
  refine Vw.bipush (pc := 827) (v := (117 : Int32)) K (by decide) dX9_init_827 ?_
  obtain ⟨g29, h⟩ := wgd h
  refine Vw.castore (pc := 829) K g6 g29 dX9_init_829 ?_
  refine Vw.dup (pc := 830) K rfl dX9_init_830 ?_
  refine Vw.bipush (pc := 831) (v := (23 : Int32)) K (by decide) dX9_init_831 ?_
  refine Vw.bipush (pc := 833) (v := (103 : Int32)) K (by decide) dX9_init_833 ?_
  obtain ⟨g30, h⟩ := wgd h
  refine Vw.castore (pc := 835) K g6 g30 dX9_init_835 ?_
  refine Vw.dup (pc := 836) K rfl dX9_init_836 ?_
  refine Vw.bipush (pc := 837) (v := (24 : Int32)) K (by decide) dX9_init_837 ?_
  refine Vw.bipush (pc := 839) (v := (83 : Int32)) K (by decide) dX9_init_839 ?_
  obtain ⟨g31, h⟩ := wgd h
  refine Vw.castore (pc := 841) K g6 g31 dX9_init_841 ?_
  refine Vw.dup (pc := 842) K rfl dX9_init_842 ?_
  refine Vw.bipush (pc := 843) (v := (25 : Int32)) K (by decide) dX9_init_843 ?_
  refine Vw.bipush (pc := 845) (v := (101 : Int32)) K (by decide) dX9_init_845 ?_
  obtain ⟨g32, h⟩ := wgd h
  refine Vw.castore (pc := 847) K g6 g32 dX9_init_847 ?_
  refine Vw.dup (pc := 848) K rfl dX9_init_848 ?_
  refine Vw.bipush (pc := 849) (v := (26 : Int32)) K (by decide) dX9_init_849 ?_
  refine Vw.bipush (pc := 851) (v := (112 : Int32)) K (by decide) dX9_init_851 ?_
  obtain ⟨g33, h⟩ := wgd h
  refine Vw.castore (pc := 853) K g6 g33 dX9_init_853 ?_
  refine Vw.dup (pc := 854) K rfl dX9_init_854 ?_
  refine Vw.bipush (pc := 855) (v := (27 : Int32)) K (by decide) dX9_init_855 ?_
  refine Vw.bipush (pc := 857) (v := (79 : Int32)) K (by decide) dX9_init_857 ?_
  obtain ⟨g34, h⟩ := wgd h
  refine Vw.castore (pc := 859) K g6 g34 dX9_init_859 ?_
  refine Vw.dup (pc := 860) K rfl dX9_init_860 ?_
  refine Vw.bipush (pc := 861) (v := (28 : Int32)) K (by decide) dX9_init_861 ?_
  refine Vw.bipush (pc := 863) (v := (99 : Int32)) K (by decide) dX9_init_863 ?_
  obtain ⟨g35, h⟩ := wgd h
  refine Vw.castore (pc := 865) K g6 g35 dX9_init_865 ?_
  refine Vw.dup (pc := 866) K rfl dX9_init_866 ?_
  refine Vw.bipush (pc := 867) (v := (29 : Int32)) K (by decide) dX9_init_867 ?_
  refine Vw.bipush (pc := 869) (v := (116 : Int32)) K (by decide) dX9_init_869 ?_
  obtain ⟨g36, h⟩ := wgd h
  refine Vw.castore (pc := 871) K g6 g36 dX9_init_871 ?_
  refine Vw.dup (pc := 872) K rfl dX9_init_872 ?_
  refine Vw.bipush (pc := 873) (v := (30 : Int32)) K (by decide) dX9_init_873 ?_
  refine Vw.bipush (pc := 875) (v := (78 : Int32)) K (by decide) dX9_init_875 ?_
  obtain ⟨g37, h⟩ := wgd h
  refine Vw.castore (pc := 877) K g6 g37 dX9_init_877 ?_
  refine Vw.dup (pc := 878) K rfl dX9_init_878 ?_
  refine Vw.bipush (pc := 879) (v := (31 : Int32)) K (by decide) dX9_init_879 ?_
  refine Vw.bipush (pc := 881) (v := (111 : Int32)) K (by decide) dX9_init_881 ?_
  obtain ⟨g38, h⟩ := wgd h
  refine Vw.castore (pc := 883) K g6 g38 dX9_init_883 ?_
  refine Vw.dup (pc := 884) K rfl dX9_init_884 ?_
  refine Vw.bipush (pc := 885) (v := (32 : Int32)) K (by decide) dX9_init_885 ?_
  refine Vw.bipush (pc := 887) (v := (118 : Int32)) K (by decide) dX9_init_887 ?_
  obtain ⟨g39, h⟩ := wgd h
  refine Vw.castore (pc := 889) K g6 g39 dX9_init_889 ?_
  refine Vw.dup (pc := 890) K rfl dX9_init_890 ?_
  refine Vw.bipush (pc := 891) (v := (33 : Int32)) K (by decide) dX9_init_891 ?_
  refine Vw.bipush (pc := 893) (v := (68 : Int32)) K (by decide) dX9_init_893 ?_
  obtain ⟨g40, h⟩ := wgd h
  refine Vw.castore (pc := 895) K g6 g40 dX9_init_895 ?_
  refine Vw.dup (pc := 896) K rfl dX9_init_896 ?_
  refine Vw.bipush (pc := 897) (v := (34 : Int32)) K (by decide) dX9_init_897 ?_
  refine Vw.bipush (pc := 899) (v := (101 : Int32)) K (by decide) dX9_init_899 ?_
  obtain ⟨g41, h⟩ := wgd h
  refine Vw.castore (pc := 901) K g6 g41 dX9_init_901 ?_
  refine Vw.dup (pc := 902) K rfl dX9_init_902 ?_
  refine Vw.bipush (pc := 903) (v := (35 : Int32)) K (by decide) dX9_init_903 ?_
  refine Vw.bipush (pc := 905) (v := (99 : Int32)) K (by decide) dX9_init_905 ?_
  obtain ⟨g42, h⟩ := wgd h
  refine Vw.castore (pc := 907) K g6 g42 dX9_init_907 ?_
  obtain ⟨g43, h⟩ := wgd h
  refine Vw.putR (pc := 908) (k := 23) (f := 471) K cls7 rfl rfl u_6_40 g43 (Or.inr ⟨rfl, E.2.2.1, rfl⟩) (wAn _ _) (wAf _ _) dX9_init_908 ?_
  exact Vw.loc rfl (s_X9_init_911 K E  h)
def k_X9_init_649  (A : Hp) (x0 : Nat)  : Option (Hp) := if (hsh (hmk A 9 7) (hsz A)).1 = 9 then if wix (0 : Int32) (hsh (hmk A 9 7) (hsz A)).2 then if wix (1 : Int32) (hsh (hsI (hmk A 9 7) 1033 (hsz A) (0 : Int32).toNatClampNeg (vp_nar .char (95 : Int32))) (hsz A)).2 then if wix (2 : Int32) (hsh (hsI (hsI (hmk A 9 7) 1033 (hsz A) (0 : Int32).toNatClampNeg (vp_nar .char (95 : Int32))) 1033 (hsz A) (1 : Int32).toNatClampNeg (vp_nar .char (95 : Int32))) (hsz A)).2 then if wix (3 : Int32) (hsh (hsI (hsI (hsI (hmk A 9 7) 1033 (hsz A) (0 : Int32).toNatClampNeg (vp_nar .char (95 : Int32))) 1033 (hsz A) (1 : Int32).toNatClampNeg (vp_nar .char (95 : Int32))) 1033 (hsz A) (2 : Int32).toNatClampNeg (vp_nar .char (72 : Int32))) (hsz A)).2 then if wix (4 : Int32) (hsh (hsI (hsI (hsI (hsI (hmk A 9 7) 1033 (hsz A) (0 : Int32).toNatClampNeg (vp_nar .char (95 : Int32))) 1033 (hsz A) (1 : Int32).toNatClampNeg (vp_nar .char (95 : Int32))) 1033 (hsz A) (2 : Int32).toNatClampNeg (vp_nar .char (72 : Int32))) 1033 (hsz A) (3 : Int32).toNatClampNeg (vp_nar .char (111 : Int32))) (hsz A)).2 then if wix (5 : Int32) (hsh (hsI (hsI (hsI (hsI (hsI (hmk A 9 7) 1033 (hsz A) (0 : Int32).toNatClampNeg (vp_nar .char (95 : Int32))) 1033 (hsz A) (1 : Int32).toNatClampNeg (vp_nar .char (95 : Int32))) 1033 (hsz A) (2 : Int32).toNatClampNeg (vp_nar .char (72 : Int32))) 1033 (hsz A) (3 : Int32).toNatClampNeg (vp_nar .char (111 : Int32))) 1033 (hsz A) (4 : Int32).toNatClampNeg (vp_nar .char (115 : Int32))) (hsz A)).2 then if wix (6 : Int32) (hsh (hsI (hsI (hsI (hsI (hsI (hsI (hmk A 9 7) 1033 (hsz A) (0 : Int32).toNatClampNeg (vp_nar .char (95 : Int32))) 1033 (hsz A) (1 : Int32).toNatClampNeg (vp_nar .char (95 : Int32))) 1033 (hsz A) (2 : Int32).toNatClampNeg (vp_nar .char (72 : Int32))) 1033 (hsz A) (3 : Int32).toNatClampNeg (vp_nar .char (111 : Int32))) 1033 (hsz A) (4 : Int32).toNatClampNeg (vp_nar .char (115 : Int32))) 1033 (hsz A) (5 : Int32).toNatClampNeg (vp_nar .char (116 : Int32))) (hsz A)).2 then if (hsh (hsI (hsI (hsI (hsI (hsI (hsI (hsI (hmk A 9 7) 1033 (hsz A) (0 : Int32).toNatClampNeg (vp_nar .char (95 : Int32))) 1033 (hsz A) (1 : Int32).toNatClampNeg (vp_nar .char (95 : Int32))) 1033 (hsz A) (2 : Int32).toNatClampNeg (vp_nar .char (72 : Int32))) 1033 (hsz A) (3 : Int32).toNatClampNeg (vp_nar .char (111 : Int32))) 1033 (hsz A) (4 : Int32).toNatClampNeg (vp_nar .char (115 : Int32))) 1033 (hsz A) (5 : Int32).toNatClampNeg (vp_nar .char (116 : Int32))) 1033 (hsz A) (6 : Int32).toNatClampNeg (vp_nar .char (45 : Int32))) x0).1 = 8 then k_X9_init_693 (hsR (hsI (hsI (hsI (hsI (hsI (hsI (hsI (hmk A 9 7) 1033 (hsz A) (0 : Int32).toNatClampNeg (vp_nar .char (95 : Int32))) 1033 (hsz A) (1 : Int32).toNatClampNeg (vp_nar .char (95 : Int32))) 1033 (hsz A) (2 : Int32).toNatClampNeg (vp_nar .char (72 : Int32))) 1033 (hsz A) (3 : Int32).toNatClampNeg (vp_nar .char (111 : Int32))) 1033 (hsz A) (4 : Int32).toNatClampNeg (vp_nar .char (115 : Int32))) 1033 (hsz A) (5 : Int32).toNatClampNeg (vp_nar .char (116 : Int32))) 1033 (hsz A) (6 : Int32).toNatClampNeg (vp_nar .char (45 : Int32))) 470 x0 0 (hsz A)) x0 else none else none else none else none else none else none else none else none else none
set_option maxRecDepth 100000 in
theorem s_X9_init_649 {κ : KT} {B : Hp} {A : Hp} {x0 : Nat}   (K : Cx κ cX9_init 1 RX9 1 20 22 25941) (E : Ed κ none "<init>" (.inl none) B 22 25941)  (h : k_X9_init_649  A x0  = some B) : Vw κ A 20 25898 649 [(0, .inr (.inr x0))] [] := by
  unfold k_X9_init_649 at h
  refine Vw.aload_n (pc := 649) (x := x0) K dX9_init_649 rfl ?_
  refine Vw.bipush (pc := 650) (v := (7 : Int32)) K (by decide) dX9_init_650 ?_
  refine Vw.newC_ (pc := 652) (c := 20) (n := 25898) (c' := 21) (n' := 25905) (N := 7) K u_1_56 (by decide) (by decide) (by decide) (by decide) (by decide) dX9_init_652 rfl rfl ?_
  refine Vw.dup (pc := 654) K rfl dX9_init_654 ?_
  refine Vw.iconst (pc := 655) (v := (0 : Int32)) K (by decide) dX9_init_655 ?_
  refine Vw.bipush (pc := 656) (v := (95 : Int32)) K (by decide) dX9_init_656 ?_
  obtain ⟨g44, h⟩ := wgd h
  obtain ⟨g45, h⟩ := wgd h
  refine Vw.castore (pc := 658) K g44 g45 dX9_init_658 ?_
  refine Vw.dup (pc := 659) K rfl dX9_init_659 ?_
  refine Vw.iconst (pc := 660) (v := (1 : Int32)) K (by decide) dX9_init_660 ?_
  refine Vw.bipush (pc := 661) (v := (95 : Int32)) K (by decide) dX9_init_661 ?_
  obtain ⟨g46, h⟩ := wgd h
  refine Vw.castore (pc := 663) K g44 g46 dX9_init_663 ?_
  refine Vw.dup (pc := 664) K rfl dX9_init_664 ?_
  refine Vw.iconst (pc := 665) (v := (2 : Int32)) K (by decide) dX9_init_665 ?_
  refine Vw.bipush (pc := 666) (v := (72 : Int32)) K (by decide) dX9_init_666 ?_
  obtain ⟨g47, h⟩ := wgd h
  refine Vw.castore (pc := 668) K g44 g47 dX9_init_668 ?_
  refine Vw.dup (pc := 669) K rfl dX9_init_669 ?_
  refine Vw.iconst (pc := 670) (v := (3 : Int32)) K (by decide) dX9_init_670 ?_
  refine Vw.bipush (pc := 671) (v := (111 : Int32)) K (by decide) dX9_init_671 ?_
  obtain ⟨g48, h⟩ := wgd h
  refine Vw.castore (pc := 673) K g44 g48 dX9_init_673 ?_
  refine Vw.dup (pc := 674) K rfl dX9_init_674 ?_
  refine Vw.iconst (pc := 675) (v := (4 : Int32)) K (by decide) dX9_init_675 ?_
  refine Vw.bipush (pc := 676) (v := (115 : Int32)) K (by decide) dX9_init_676 ?_
  obtain ⟨g49, h⟩ := wgd h
  refine Vw.castore (pc := 678) K g44 g49 dX9_init_678 ?_
  refine Vw.dup (pc := 679) K rfl dX9_init_679 ?_
  refine Vw.iconst (pc := 680) (v := (5 : Int32)) K (by decide) dX9_init_680 ?_
  refine Vw.bipush (pc := 681) (v := (116 : Int32)) K (by decide) dX9_init_681 ?_
  obtain ⟨g50, h⟩ := wgd h
  refine Vw.castore (pc := 683) K g44 g50 dX9_init_683 ?_
  refine Vw.dup (pc := 684) K rfl dX9_init_684 ?_
  refine Vw.bipush (pc := 685) (v := (6 : Int32)) K (by decide) dX9_init_685 ?_
  refine Vw.bipush (pc := 687) (v := (45 : Int32)) K (by decide) dX9_init_687 ?_
  obtain ⟨g51, h⟩ := wgd h
  refine Vw.castore (pc := 689) K g44 g51 dX9_init_689 ?_
  obtain ⟨g52, h⟩ := wgd h
  refine Vw.putR (pc := 690) (k := 22) (f := 470) K cls7 rfl rfl u_6_39 g52 (Or.inr ⟨rfl, E.2.2.1, rfl⟩) (wAn _ _) (wAf _ _) dX9_init_690 ?_
  exact Vw.loc rfl (s_X9_init_693 K E  h)
def k_X9_init_593  (A : Hp) (x0 : Nat)  : Option (Hp) := if (hsh (hmk A 9 9) (hsz A)).1 = 9 then if wix (0 : Int32) (hsh (hmk A 9 9) (hsz A)).2 then if wix (1 : Int32) (hsh (hsI (hmk A 9 9) 1033 (hsz A) (0 : Int32).toNatClampNeg (vp_nar .char (95 : Int32))) (hsz A)).2 then if wix (2 : Int32) (hsh (hsI (hsI (hmk A 9 9) 1033 (hsz A) (0 : Int32).toNatClampNeg (vp_nar .char (95 : Int32))) 1033 (hsz A) (1 : Int32).toNatClampNeg (vp_nar .char (95 : Int32))) (hsz A)).2 then if wix (3 : Int32) (hsh (hsI (hsI (hsI (hmk A 9 9) 1033 (hsz A) (0 : Int32).toNatClampNeg (vp_nar .char (95 : Int32))) 1033 (hsz A) (1 : Int32).toNatClampNeg (vp_nar .char (95 : Int32))) 1033 (hsz A) (2 : Int32).toNatClampNeg (vp_nar .char (83 : Int32))) (hsz A)).2 then if wix (4 : Int32) (hsh (hsI (hsI (hsI (hsI (hmk A 9 9) 1033 (hsz A) (0 : Int32).toNatClampNeg (vp_nar .char (95 : Int32))) 1033 (hsz A) (1 : Int32).toNatClampNeg (vp_nar .char (95 : Int32))) 1033 (hsz A) (2 : Int32).toNatClampNeg (vp_nar .char (83 : Int32))) 1033 (hsz A) (3 : Int32).toNatClampNeg (vp_nar .char (101 : Int32))) (hsz A)).2 then if wix (5 : Int32) (hsh (hsI (hsI (hsI (hsI (hsI (hmk A 9 9) 1033 (hsz A) (0 : Int32).toNatClampNeg (vp_nar .char (95 : Int32))) 1033 (hsz A) (1 : Int32).toNatClampNeg (vp_nar .char (95 : Int32))) 1033 (hsz A) (2 : Int32).toNatClampNeg (vp_nar .char (83 : Int32))) 1033 (hsz A) (3 : Int32).toNatClampNeg (vp_nar .char (101 : Int32))) 1033 (hsz A) (4 : Int32).toNatClampNeg (vp_nar .char (99 : Int32))) (hsz A)).2 then if wix (6 : Int32) (hsh (hsI (hsI (hsI (hsI (hsI (hsI (hmk A 9 9) 1033 (hsz A) (0 : Int32).toNatClampNeg (vp_nar .char (95 : Int32))) 1033 (hsz A) (1 : Int32).toNatClampNeg (vp_nar .char (95 : Int32))) 1033 (hsz A) (2 : Int32).toNatClampNeg (vp_nar .char (83 : Int32))) 1033 (hsz A) (3 : Int32).toNatClampNeg (vp_nar .char (101 : Int32))) 1033 (hsz A) (4 : Int32).toNatClampNeg (vp_nar .char (99 : Int32))) 1033 (hsz A) (5 : Int32).toNatClampNeg (vp_nar .char (117 : Int32))) (hsz A)).2 then if wix (7 : Int32) (hsh (hsI (hsI (hsI (hsI (hsI (hsI (hsI (hmk A 9 9) 1033 (hsz A) (0 : Int32).toNatClampNeg (vp_nar .char (95 : Int32))) 1033 (hsz A) (1 : Int32).toNatClampNeg (vp_nar .char (95 : Int32))) 1033 (hsz A) (2 : Int32).toNatClampNeg (vp_nar .char (83 : Int32))) 1033 (hsz A) (3 : Int32).toNatClampNeg (vp_nar .char (101 : Int32))) 1033 (hsz A) (4 : Int32).toNatClampNeg (vp_nar .char (99 : Int32))) 1033 (hsz A) (5 : Int32).toNatClampNeg (vp_nar .char (117 : Int32))) 1033 (hsz A) (6 : Int32).toNatClampNeg (vp_nar .char (114 : Int32))) (hsz A)).2 then if wix (8 : Int32) (hsh (hsI (hsI (hsI (hsI (hsI (hsI (hsI (hsI (hmk A 9 9) 1033 (hsz A) (0 : Int32).toNatClampNeg (vp_nar .char (95 : Int32))) 1033 (hsz A) (1 : Int32).toNatClampNeg (vp_nar .char (95 : Int32))) 1033 (hsz A) (2 : Int32).toNatClampNeg (vp_nar .char (83 : Int32))) 1033 (hsz A) (3 : Int32).toNatClampNeg (vp_nar .char (101 : Int32))) 1033 (hsz A) (4 : Int32).toNatClampNeg (vp_nar .char (99 : Int32))) 1033 (hsz A) (5 : Int32).toNatClampNeg (vp_nar .char (117 : Int32))) 1033 (hsz A) (6 : Int32).toNatClampNeg (vp_nar .char (114 : Int32))) 1033 (hsz A) (7 : Int32).toNatClampNeg (vp_nar .char (101 : Int32))) (hsz A)).2 then if (hsh (hsI (hsI (hsI (hsI (hsI (hsI (hsI (hsI (hsI (hmk A 9 9) 1033 (hsz A) (0 : Int32).toNatClampNeg (vp_nar .char (95 : Int32))) 1033 (hsz A) (1 : Int32).toNatClampNeg (vp_nar .char (95 : Int32))) 1033 (hsz A) (2 : Int32).toNatClampNeg (vp_nar .char (83 : Int32))) 1033 (hsz A) (3 : Int32).toNatClampNeg (vp_nar .char (101 : Int32))) 1033 (hsz A) (4 : Int32).toNatClampNeg (vp_nar .char (99 : Int32))) 1033 (hsz A) (5 : Int32).toNatClampNeg (vp_nar .char (117 : Int32))) 1033 (hsz A) (6 : Int32).toNatClampNeg (vp_nar .char (114 : Int32))) 1033 (hsz A) (7 : Int32).toNatClampNeg (vp_nar .char (101 : Int32))) 1033 (hsz A) (8 : Int32).toNatClampNeg (vp_nar .char (45 : Int32))) x0).1 = 8 then k_X9_init_649 (hsR (hsI (hsI (hsI (hsI (hsI (hsI (hsI (hsI (hsI (hmk A 9 9) 1033 (hsz A) (0 : Int32).toNatClampNeg (vp_nar .char (95 : Int32))) 1033 (hsz A) (1 : Int32).toNatClampNeg (vp_nar .char (95 : Int32))) 1033 (hsz A) (2 : Int32).toNatClampNeg (vp_nar .char (83 : Int32))) 1033 (hsz A) (3 : Int32).toNatClampNeg (vp_nar .char (101 : Int32))) 1033 (hsz A) (4 : Int32).toNatClampNeg (vp_nar .char (99 : Int32))) 1033 (hsz A) (5 : Int32).toNatClampNeg (vp_nar .char (117 : Int32))) 1033 (hsz A) (6 : Int32).toNatClampNeg (vp_nar .char (114 : Int32))) 1033 (hsz A) (7 : Int32).toNatClampNeg (vp_nar .char (101 : Int32))) 1033 (hsz A) (8 : Int32).toNatClampNeg (vp_nar .char (45 : Int32))) 469 x0 0 (hsz A)) x0 else none else none else none else none else none else none else none else none else none else none else none
set_option maxRecDepth 100000 in
theorem s_X9_init_593 {κ : KT} {B : Hp} {A : Hp} {x0 : Nat}   (K : Cx κ cX9_init 1 RX9 1 20 22 25941) (E : Ed κ none "<init>" (.inl none) B 22 25941)  (h : k_X9_init_593  A x0  = some B) : Vw κ A 19 25889 593 [(0, .inr (.inr x0))] [] := by
  unfold k_X9_init_593 at h
  refine Vw.aload_n (pc := 593) (x := x0) K dX9_init_593 rfl ?_
  refine Vw.bipush (pc := 594) (v := (9 : Int32)) K (by decide) dX9_init_594 ?_
  refine Vw.newC_ (pc := 596) (c := 19) (n := 25889) (c' := 20) (n' := 25898) (N := 9) K u_1_56 (by decide) (by decide) (by decide) (by decide) (by decide) dX9_init_596 rfl rfl ?_
  refine Vw.dup (pc := 598) K rfl dX9_init_598 ?_
  refine Vw.iconst (pc := 599) (v := (0 : Int32)) K (by decide) dX9_init_599 ?_
  refine Vw.bipush (pc := 600) (v := (95 : Int32)) K (by decide) dX9_init_600 ?_
  obtain ⟨g53, h⟩ := wgd h
  obtain ⟨g54, h⟩ := wgd h
  refine Vw.castore (pc := 602) K g53 g54 dX9_init_602 ?_
  refine Vw.dup (pc := 603) K rfl dX9_init_603 ?_
  refine Vw.iconst (pc := 604) (v := (1 : Int32)) K (by decide) dX9_init_604 ?_
  refine Vw.bipush (pc := 605) (v := (95 : Int32)) K (by decide) dX9_init_605 ?_
  obtain ⟨g55, h⟩ := wgd h
  refine Vw.castore (pc := 607) K g53 g55 dX9_init_607 ?_
  refine Vw.dup (pc := 608) K rfl dX9_init_608 ?_
  refine Vw.iconst (pc := 609) (v := (2 : Int32)) K (by decide) dX9_init_609 ?_
  refine Vw.bipush (pc := 610) (v := (83 : Int32)) K (by decide) dX9_init_610 ?_
  obtain ⟨g56, h⟩ := wgd h
  refine Vw.castore (pc := 612) K g53 g56 dX9_init_612 ?_
  refine Vw.dup (pc := 613) K rfl dX9_init_613 ?_
  refine Vw.iconst (pc := 614) (v := (3 : Int32)) K (by decide) dX9_init_614 ?_
  refine Vw.bipush (pc := 615) (v := (101 : Int32)) K (by decide) dX9_init_615 ?_
  obtain ⟨g57, h⟩ := wgd h
  refine Vw.castore (pc := 617) K g53 g57 dX9_init_617 ?_
  refine Vw.dup (pc := 618) K rfl dX9_init_618 ?_
  refine Vw.iconst (pc := 619) (v := (4 : Int32)) K (by decide) dX9_init_619 ?_
  refine Vw.bipush (pc := 620) (v := (99 : Int32)) K (by decide) dX9_init_620 ?_
  obtain ⟨g58, h⟩ := wgd h
  refine Vw.castore (pc := 622) K g53 g58 dX9_init_622 ?_
  refine Vw.dup (pc := 623) K rfl dX9_init_623 ?_
  refine Vw.iconst (pc := 624) (v := (5 : Int32)) K (by decide) dX9_init_624 ?_
  refine Vw.bipush (pc := 625) (v := (117 : Int32)) K (by decide) dX9_init_625 ?_
  obtain ⟨g59, h⟩ := wgd h
  refine Vw.castore (pc := 627) K g53 g59 dX9_init_627 ?_
  refine Vw.dup (pc := 628) K rfl dX9_init_628 ?_
  refine Vw.bipush (pc := 629) (v := (6 : Int32)) K (by decide) dX9_init_629 ?_
  refine Vw.bipush (pc := 631) (v := (114 : Int32)) K (by decide) dX9_init_631 ?_
  obtain ⟨g60, h⟩ := wgd h
  refine Vw.castore (pc := 633) K g53 g60 dX9_init_633 ?_
  refine Vw.dup (pc := 634) K rfl dX9_init_634 ?_
  refine Vw.bipush (pc := 635) (v := (7 : Int32)) K (by decide) dX9_init_635 ?_
  refine Vw.bipush (pc := 637) (v := (101 : Int32)) K (by decide) dX9_init_637 ?_
  obtain ⟨g61, h⟩ := wgd h
  refine Vw.castore (pc := 639) K g53 g61 dX9_init_639 ?_
  refine Vw.dup (pc := 640) K rfl dX9_init_640 ?_
  refine Vw.bipush (pc := 641) (v := (8 : Int32)) K (by decide) dX9_init_641 ?_
  refine Vw.bipush (pc := 643) (v := (45 : Int32)) K (by decide) dX9_init_643 ?_
  obtain ⟨g62, h⟩ := wgd h
  refine Vw.castore (pc := 645) K g53 g62 dX9_init_645 ?_
  obtain ⟨g63, h⟩ := wgd h
  refine Vw.putR (pc := 646) (k := 21) (f := 469) K cls7 rfl rfl u_6_38 g63 (Or.inr ⟨rfl, E.2.2.1, rfl⟩) (wAn _ _) (wAf _ _) dX9_init_646 ?_
  exact Vw.loc rfl (s_X9_init_649 K E  h)
def k_X9_init_566  (A : Hp) (x0 : Nat)  : Option (Hp) := if (hsh (hmk A 9 4) (hsz A)).1 = 9 then if wix (0 : Int32) (hsh (hmk A 9 4) (hsz A)).2 then if wix (1 : Int32) (hsh (hsI (hmk A 9 4) 1033 (hsz A) (0 : Int32).toNatClampNeg (vp_nar .char (104 : Int32))) (hsz A)).2 then if wix (2 : Int32) (hsh (hsI (hsI (hmk A 9 4) 1033 (hsz A) (0 : Int32).toNatClampNeg (vp_nar .char (104 : Int32))) 1033 (hsz A) (1 : Int32).toNatClampNeg (vp_nar .char (105 : Int32))) (hsz A)).2 then if wix (3 : Int32) (hsh (hsI (hsI (hsI (hmk A 9 4) 1033 (hsz A) (0 : Int32).toNatClampNeg (vp_nar .char (104 : Int32))) 1033 (hsz A) (1 : Int32).toNatClampNeg (vp_nar .char (105 : Int32))) 1033 (hsz A) (2 : Int32).toNatClampNeg (vp_nar .char (103 : Int32))) (hsz A)).2 then if (hsh (hsI (hsI (hsI (hsI (hmk A 9 4) 1033 (hsz A) (0 : Int32).toNatClampNeg (vp_nar .char (104 : Int32))) 1033 (hsz A) (1 : Int32).toNatClampNeg (vp_nar .char (105 : Int32))) 1033 (hsz A) (2 : Int32).toNatClampNeg (vp_nar .char (103 : Int32))) 1033 (hsz A) (3 : Int32).toNatClampNeg (vp_nar .char (104 : Int32))) x0).1 = 8 then k_X9_init_593 (hsR (hsI (hsI (hsI (hsI (hmk A 9 4) 1033 (hsz A) (0 : Int32).toNatClampNeg (vp_nar .char (104 : Int32))) 1033 (hsz A) (1 : Int32).toNatClampNeg (vp_nar .char (105 : Int32))) 1033 (hsz A) (2 : Int32).toNatClampNeg (vp_nar .char (103 : Int32))) 1033 (hsz A) (3 : Int32).toNatClampNeg (vp_nar .char (104 : Int32))) 468 x0 0 (hsz A)) x0 else none else none else none else none else none else none
set_option maxRecDepth 100000 in
theorem s_X9_init_566 {κ : KT} {B : Hp} {A : Hp} {x0 : Nat}   (K : Cx κ cX9_init 1 RX9 1 20 22 25941) (E : Ed κ none "<init>" (.inl none) B 22 25941)  (h : k_X9_init_566  A x0  = some B) : Vw κ A 18 25885 566 [(0, .inr (.inr x0))] [] := by
  unfold k_X9_init_566 at h
  refine Vw.aload_n (pc := 566) (x := x0) K dX9_init_566 rfl ?_
  refine Vw.iconst (pc := 567) (v := (4 : Int32)) K (by decide) dX9_init_567 ?_
  refine Vw.newC_ (pc := 568) (c := 18) (n := 25885) (c' := 19) (n' := 25889) (N := 4) K u_1_56 (by decide) (by decide) (by decide) (by decide) (by decide) dX9_init_568 rfl rfl ?_
  refine Vw.dup (pc := 570) K rfl dX9_init_570 ?_
  refine Vw.iconst (pc := 571) (v := (0 : Int32)) K (by decide) dX9_init_571 ?_
  refine Vw.bipush (pc := 572) (v := (104 : Int32)) K (by decide) dX9_init_572 ?_
  obtain ⟨g64, h⟩ := wgd h
  obtain ⟨g65, h⟩ := wgd h
  refine Vw.castore (pc := 574) K g64 g65 dX9_init_574 ?_
  refine Vw.dup (pc := 575) K rfl dX9_init_575 ?_
  refine Vw.iconst (pc := 576) (v := (1 : Int32)) K (by decide) dX9_init_576 ?_
  refine Vw.bipush (pc := 577) (v := (105 : Int32)) K (by decide) dX9_init_577 ?_
  obtain ⟨g66, h⟩ := wgd h
  refine Vw.castore (pc := 579) K g64 g66 dX9_init_579 ?_
  refine Vw.dup (pc := 580) K rfl dX9_init_580 ?_
  refine Vw.iconst (pc := 581) (v := (2 : Int32)) K (by decide) dX9_init_581 ?_
  refine Vw.bipush (pc := 582) (v := (103 : Int32)) K (by decide) dX9_init_582 ?_
  obtain ⟨g67, h⟩ := wgd h
  refine Vw.castore (pc := 584) K g64 g67 dX9_init_584 ?_
  refine Vw.dup (pc := 585) K rfl dX9_init_585 ?_
  refine Vw.iconst (pc := 586) (v := (3 : Int32)) K (by decide) dX9_init_586 ?_
  refine Vw.bipush (pc := 587) (v := (104 : Int32)) K (by decide) dX9_init_587 ?_
  obtain ⟨g68, h⟩ := wgd h
  refine Vw.castore (pc := 589) K g64 g68 dX9_init_589 ?_
  obtain ⟨g69, h⟩ := wgd h
  refine Vw.putR (pc := 590) (k := 20) (f := 468) K cls7 rfl rfl u_6_37 g69 (Or.inr ⟨rfl, E.2.2.1, rfl⟩) (wAn _ _) (wAf _ _) dX9_init_590 ?_
  exact Vw.loc rfl (s_X9_init_593 K E  h)
def k_X9_init_506  (A : Hp) (x0 : Nat)  : Option (Hp) := if (hsh (hmk A 9 3) (hsz A)).1 = 9 then if wix (0 : Int32) (hsh (hmk A 9 3) (hsz A)).2 then if wix (1 : Int32) (hsh (hsI (hmk A 9 3) 1033 (hsz A) (0 : Int32).toNatClampNeg (vp_nar .char (108 : Int32))) (hsz A)).2 then if wix (2 : Int32) (hsh (hsI (hsI (hmk A 9 3) 1033 (hsz A) (0 : Int32).toNatClampNeg (vp_nar .char (108 : Int32))) 1033 (hsz A) (1 : Int32).toNatClampNeg (vp_nar .char (111 : Int32))) (hsz A)).2 then if (hsh (hsI (hsI (hsI (hmk A 9 3) 1033 (hsz A) (0 : Int32).toNatClampNeg (vp_nar .char (108 : Int32))) 1033 (hsz A) (1 : Int32).toNatClampNeg (vp_nar .char (111 : Int32))) 1033 (hsz A) (2 : Int32).toNatClampNeg (vp_nar .char (119 : Int32))) x0).1 = 8 then if (hsh (hmk (hsR (hsI (hsI (hsI (hmk A 9 3) 1033 (hsz A) (0 : Int32).toNatClampNeg (vp_nar .char (108 : Int32))) 1033 (hsz A) (1 : Int32).toNatClampNeg (vp_nar .char (111 : Int32))) 1033 (hsz A) (2 : Int32).toNatClampNeg (vp_nar .char (119 : Int32))) 466 x0 0 (hsz A)) 9 6) (hsz (hsR (hsI (hsI (hsI (hmk A 9 3) 1033 (hsz A) (0 : Int32).toNatClampNeg (vp_nar .char (108 : Int32))) 1033 (hsz A) (1 : Int32).toNatClampNeg (vp_nar .char (111 : Int32))) 1033 (hsz A) (2 : Int32).toNatClampNeg (vp_nar .char (119 : Int32))) 466 x0 0 (hsz A)))).1 = 9 then if wix (0 : Int32) (hsh (hmk (hsR (hsI (hsI (hsI (hmk A 9 3) 1033 (hsz A) (0 : Int32).toNatClampNeg (vp_nar .char (108 : Int32))) 1033 (hsz A) (1 : Int32).toNatClampNeg (vp_nar .char (111 : Int32))) 1033 (hsz A) (2 : Int32).toNatClampNeg (vp_nar .char (119 : Int32))) 466 x0 0 (hsz A)) 9 6) (hsz (hsR (hsI (hsI (hsI (hmk A 9 3) 1033 (hsz A) (0 : Int32).toNatClampNeg (vp_nar .char (108 : Int32))) 1033 (hsz A) (1 : Int32).toNatClampNeg (vp_nar .char (111 : Int32))) 1033 (hsz A) (2 : Int32).toNatClampNeg (vp_nar .char (119 : Int32))) 466 x0 0 (hsz A)))).2 then if wix (1 : Int32) (hsh (hsI (hmk (hsR (hsI (hsI (hsI (hmk A 9 3) 1033 (hsz A) (0 : Int32).toNatClampNeg (vp_nar .char (108 : Int32))) 1033 (hsz A) (1 : Int32).toNatClampNeg (vp_nar .char (111 : Int32))) 1033 (hsz A) (2 : Int32).toNatClampNeg (vp_nar .char (119 : Int32))) 466 x0 0 (hsz A)) 9 6) 1033 (hsz (hsR (hsI (hsI (hsI (hmk A 9 3) 1033 (hsz A) (0 : Int32).toNatClampNeg (vp_nar .char (108 : Int32))) 1033 (hsz A) (1 : Int32).toNatClampNeg (vp_nar .char (111 : Int32))) 1033 (hsz A) (2 : Int32).toNatClampNeg (vp_nar .char (119 : Int32))) 466 x0 0 (hsz A))) (0 : Int32).toNatClampNeg (vp_nar .char (109 : Int32))) (hsz (hsR (hsI (hsI (hsI (hmk A 9 3) 1033 (hsz A) (0 : Int32).toNatClampNeg (vp_nar .char (108 : Int32))) 1033 (hsz A) (1 : Int32).toNatClampNeg (vp_nar .char (111 : Int32))) 1033 (hsz A) (2 : Int32).toNatClampNeg (vp_nar .char (119 : Int32))) 466 x0 0 (hsz A)))).2 then if wix (2 : Int32) (hsh (hsI (hsI (hmk (hsR (hsI (hsI (hsI (hmk A 9 3) 1033 (hsz A) (0 : Int32).toNatClampNeg (vp_nar .char (108 : Int32))) 1033 (hsz A) (1 : Int32).toNatClampNeg (vp_nar .char (111 : Int32))) 1033 (hsz A) (2 : Int32).toNatClampNeg (vp_nar .char (119 : Int32))) 466 x0 0 (hsz A)) 9 6) 1033 (hsz (hsR (hsI (hsI (hsI (hmk A 9 3) 1033 (hsz A) (0 : Int32).toNatClampNeg (vp_nar .char (108 : Int32))) 1033 (hsz A) (1 : Int32).toNatClampNeg (vp_nar .char (111 : Int32))) 1033 (hsz A) (2 : Int32).toNatClampNeg (vp_nar .char (119 : Int32))) 466 x0 0 (hsz A))) (0 : Int32).toNatClampNeg (vp_nar .char (109 : Int32))) 1033 (hsz (hsR (hsI (hsI (hsI (hmk A 9 3) 1033 (hsz A) (0 : Int32).toNatClampNeg (vp_nar .char (108 : Int32))) 1033 (hsz A) (1 : Int32).toNatClampNeg (vp_nar .char (111 : Int32))) 1033 (hsz A) (2 : Int32).toNatClampNeg (vp_nar .char (119 : Int32))) 466 x0 0 (hsz A))) (1 : Int32).toNatClampNeg (vp_nar .char (101 : Int32))) (hsz (hsR (hsI (hsI (hsI (hmk A 9 3) 1033 (hsz A) (0 : Int32).toNatClampNeg (vp_nar .char (108 : Int32))) 1033 (hsz A) (1 : Int32).toNatClampNeg (vp_nar .char (111 : Int32))) 1033 (hsz A) (2 : Int32).toNatClampNeg (vp_nar .char (119 : Int32))) 466 x0 0 (hsz A)))).2 then if wix (3 : Int32) (hsh (hsI (hsI (hsI (hmk (hsR (hsI (hsI (hsI (hmk A 9 3) 1033 (hsz A) (0 : Int32).toNatClampNeg (vp_nar .char (108 : Int32))) 1033 (hsz A) (1 : Int32).toNatClampNeg (vp_nar .char (111 : Int32))) 1033 (hsz A) (2 : Int32).toNatClampNeg (vp_nar .char (119 : Int32))) 466 x0 0 (hsz A)) 9 6) 1033 (hsz (hsR (hsI (hsI (hsI (hmk A 9 3) 1033 (hsz A) (0 : Int32).toNatClampNeg (vp_nar .char (108 : Int32))) 1033 (hsz A) (1 : Int32).toNatClampNeg (vp_nar .char (111 : Int32))) 1033 (hsz A) (2 : Int32).toNatClampNeg (vp_nar .char (119 : Int32))) 466 x0 0 (hsz A))) (0 : Int32).toNatClampNeg (vp_nar .char (109 : Int32))) 1033 (hsz (hsR (hsI (hsI (hsI (hmk A 9 3) 1033 (hsz A) (0 : Int32).toNatClampNeg (vp_nar .char (108 : Int32))) 1033 (hsz A) (1 : Int32).toNatClampNeg (vp_nar .char (111 : Int32))) 1033 (hsz A) (2 : Int32).toNatClampNeg (vp_nar .char (119 : Int32))) 466 x0 0 (hsz A))) (1 : Int32).toNatClampNeg (vp_nar .char (101 : Int32))) 1033 (hsz (hsR (hsI (hsI (hsI (hmk A 9 3) 1033 (hsz A) (0 : Int32).toNatClampNeg (vp_nar .char (108 : Int32))) 1033 (hsz A) (1 : Int32).toNatClampNeg (vp_nar .char (111 : Int32))) 1033 (hsz A) (2 : Int32).toNatClampNeg (vp_nar .char (119 : Int32))) 466 x0 0 (hsz A))) (2 : Int32).toNatClampNeg (vp_nar .char (100 : Int32))) (hsz (hsR (hsI (hsI (hsI (hmk A 9 3) 1033 (hsz A) (0 : Int32).toNatClampNeg (vp_nar .char (108 : Int32))) 1033 (hsz A) (1 : Int32).toNatClampNeg (vp_nar .char (111 : Int32))) 1033 (hsz A) (2 : Int32).toNatClampNeg (vp_nar .char (119 : Int32))) 466 x0 0 (hsz A)))).2 then if wix (4 : Int32) (hsh (hsI (hsI (hsI (hsI (hmk (hsR (hsI (hsI (hsI (hmk A 9 3) 1033 (hsz A) (0 : Int32).toNatClampNeg (vp_nar .char (108 : Int32))) 1033 (hsz A) (1 : Int32).toNatClampNeg (vp_nar .char (111 : Int32))) 1033 (hsz A) (2 : Int32).toNatClampNeg (vp_nar .char (119 : Int32))) 466 x0 0 (hsz A)) 9 6) 1033 (hsz (hsR (hsI (hsI (hsI (hmk A 9 3) 1033 (hsz A) (0 : Int32).toNatClampNeg (vp_nar .char (108 : Int32))) 1033 (hsz A) (1 : Int32).toNatClampNeg (vp_nar .char (111 : Int32))) 1033 (hsz A) (2 : Int32).toNatClampNeg (vp_nar .char (119 : Int32))) 466 x0 0 (hsz A))) (0 : Int32).toNatClampNeg (vp_nar .char (109 : Int32))) 1033 (hsz (hsR (hsI (hsI (hsI (hmk A 9 3) 1033 (hsz A) (0 : Int32).toNatClampNeg (vp_nar .char (108 : Int32))) 1033 (hsz A) (1 : Int32).toNatClampNeg (vp_nar .char (111 : Int32))) 1033 (hsz A) (2 : Int32).toNatClampNeg (vp_nar .char (119 : Int32))) 466 x0 0 (hsz A))) (1 : Int32).toNatClampNeg (vp_nar .char (101 : Int32))) 1033 (hsz (hsR (hsI (hsI (hsI (hmk A 9 3) 1033 (hsz A) (0 : Int32).toNatClampNeg (vp_nar .char (108 : Int32))) 1033 (hsz A) (1 : Int32).toNatClampNeg (vp_nar .char (111 : Int32))) 1033 (hsz A) (2 : Int32).toNatClampNeg (vp_nar .char (119 : Int32))) 466 x0 0 (hsz A))) (2 : Int32).toNatClampNeg (vp_nar .char (100 : Int32))) 1033 (hsz (hsR (hsI (hsI (hsI (hmk A 9 3) 1033 (hsz A) (0 : Int32).toNatClampNeg (vp_nar .char (108 : Int32))) 1033 (hsz A) (1 : Int32).toNatClampNeg (vp_nar .char (111 : Int32))) 1033 (hsz A) (2 : Int32).toNatClampNeg (vp_nar .char (119 : Int32))) 466 x0 0 (hsz A))) (3 : Int32).toNatClampNeg (vp_nar .char (105 : Int32))) (hsz (hsR (hsI (hsI (hsI (hmk A 9 3) 1033 (hsz A) (0 : Int32).toNatClampNeg (vp_nar .char (108 : Int32))) 1033 (hsz A) (1 : Int32).toNatClampNeg (vp_nar .char (111 : Int32))) 1033 (hsz A) (2 : Int32).toNatClampNeg (vp_nar .char (119 : Int32))) 466 x0 0 (hsz A)))).2 then if wix (5 : Int32) (hsh (hsI (hsI (hsI (hsI (hsI (hmk (hsR (hsI (hsI (hsI (hmk A 9 3) 1033 (hsz A) (0 : Int32).toNatClampNeg (vp_nar .char (108 : Int32))) 1033 (hsz A) (1 : Int32).toNatClampNeg (vp_nar .char (111 : Int32))) 1033 (hsz A) (2 : Int32).toNatClampNeg (vp_nar .char (119 : Int32))) 466 x0 0 (hsz A)) 9 6) 1033 (hsz (hsR (hsI (hsI (hsI (hmk A 9 3) 1033 (hsz A) (0 : Int32).toNatClampNeg (vp_nar .char (108 : Int32))) 1033 (hsz A) (1 : Int32).toNatClampNeg (vp_nar .char (111 : Int32))) 1033 (hsz A) (2 : Int32).toNatClampNeg (vp_nar .char (119 : Int32))) 466 x0 0 (hsz A))) (0 : Int32).toNatClampNeg (vp_nar .char (109 : Int32))) 1033 (hsz (hsR (hsI (hsI (hsI (hmk A 9 3) 1033 (hsz A) (0 : Int32).toNatClampNeg (vp_nar .char (108 : Int32))) 1033 (hsz A) (1 : Int32).toNatClampNeg (vp_nar .char (111 : Int32))) 1033 (hsz A) (2 : Int32).toNatClampNeg (vp_nar .char (119 : Int32))) 466 x0 0 (hsz A))) (1 : Int32).toNatClampNeg (vp_nar .char (101 : Int32))) 1033 (hsz (hsR (hsI (hsI (hsI (hmk A 9 3) 1033 (hsz A) (0 : Int32).toNatClampNeg (vp_nar .char (108 : Int32))) 1033 (hsz A) (1 : Int32).toNatClampNeg (vp_nar .char (111 : Int32))) 1033 (hsz A) (2 : Int32).toNatClampNeg (vp_nar .char (119 : Int32))) 466 x0 0 (hsz A))) (2 : Int32).toNatClampNeg (vp_nar .char (100 : Int32))) 1033 (hsz (hsR (hsI (hsI (hsI (hmk A 9 3) 1033 (hsz A) (0 : Int32).toNatClampNeg (vp_nar .char (108 : Int32))) 1033 (hsz A) (1 : Int32).toNatClampNeg (vp_nar .char (111 : Int32))) 1033 (hsz A) (2 : Int32).toNatClampNeg (vp_nar .char (119 : Int32))) 466 x0 0 (hsz A))) (3 : Int32).toNatClampNeg (vp_nar .char (105 : Int32))) 1033 (hsz (hsR (hsI (hsI (hsI (hmk A 9 3) 1033 (hsz A) (0 : Int32).toNatClampNeg (vp_nar .char (108 : Int32))) 1033 (hsz A) (1 : Int32).toNatClampNeg (vp_nar .char (111 : Int32))) 1033 (hsz A) (2 : Int32).toNatClampNeg (vp_nar .char (119 : Int32))) 466 x0 0 (hsz A))) (4 : Int32).toNatClampNeg (vp_nar .char (117 : Int32))) (hsz (hsR (hsI (hsI (hsI (hmk A 9 3) 1033 (hsz A) (0 : Int32).toNatClampNeg (vp_nar .char (108 : Int32))) 1033 (hsz A) (1 : Int32).toNatClampNeg (vp_nar .char (111 : Int32))) 1033 (hsz A) (2 : Int32).toNatClampNeg (vp_nar .char (119 : Int32))) 466 x0 0 (hsz A)))).2 then if (hsh (hsI (hsI (hsI (hsI (hsI (hsI (hmk (hsR (hsI (hsI (hsI (hmk A 9 3) 1033 (hsz A) (0 : Int32).toNatClampNeg (vp_nar .char (108 : Int32))) 1033 (hsz A) (1 : Int32).toNatClampNeg (vp_nar .char (111 : Int32))) 1033 (hsz A) (2 : Int32).toNatClampNeg (vp_nar .char (119 : Int32))) 466 x0 0 (hsz A)) 9 6) 1033 (hsz (hsR (hsI (hsI (hsI (hmk A 9 3) 1033 (hsz A) (0 : Int32).toNatClampNeg (vp_nar .char (108 : Int32))) 1033 (hsz A) (1 : Int32).toNatClampNeg (vp_nar .char (111 : Int32))) 1033 (hsz A) (2 : Int32).toNatClampNeg (vp_nar .char (119 : Int32))) 466 x0 0 (hsz A))) (0 : Int32).toNatClampNeg (vp_nar .char (109 : Int32))) 1033 (hsz (hsR (hsI (hsI (hsI (hmk A 9 3) 1033 (hsz A) (0 : Int32).toNatClampNeg (vp_nar .char (108 : Int32))) 1033 (hsz A) (1 : Int32).toNatClampNeg (vp_nar .char (111 : Int32))) 1033 (hsz A) (2 : Int32).toNatClampNeg (vp_nar .char (119 : Int32))) 466 x0 0 (hsz A))) (1 : Int32).toNatClampNeg (vp_nar .char (101 : Int32))) 1033 (hsz (hsR (hsI (hsI (hsI (hmk A 9 3) 1033 (hsz A) (0 : Int32).toNatClampNeg (vp_nar .char (108 : Int32))) 1033 (hsz A) (1 : Int32).toNatClampNeg (vp_nar .char (111 : Int32))) 1033 (hsz A) (2 : Int32).toNatClampNeg (vp_nar .char (119 : Int32))) 466 x0 0 (hsz A))) (2 : Int32).toNatClampNeg (vp_nar .char (100 : Int32))) 1033 (hsz (hsR (hsI (hsI (hsI (hmk A 9 3) 1033 (hsz A) (0 : Int32).toNatClampNeg (vp_nar .char (108 : Int32))) 1033 (hsz A) (1 : Int32).toNatClampNeg (vp_nar .char (111 : Int32))) 1033 (hsz A) (2 : Int32).toNatClampNeg (vp_nar .char (119 : Int32))) 466 x0 0 (hsz A))) (3 : Int32).toNatClampNeg (vp_nar .char (105 : Int32))) 1033 (hsz (hsR (hsI (hsI (hsI (hmk A 9 3) 1033 (hsz A) (0 : Int32).toNatClampNeg (vp_nar .char (108 : Int32))) 1033 (hsz A) (1 : Int32).toNatClampNeg (vp_nar .char (111 : Int32))) 1033 (hsz A) (2 : Int32).toNatClampNeg (vp_nar .char (119 : Int32))) 466 x0 0 (hsz A))) (4 : Int32).toNatClampNeg (vp_nar .char (117 : Int32))) 1033 (hsz (hsR (hsI (hsI (hsI (hmk A 9 3) 1033 (hsz A) (0 : Int32).toNatClampNeg (vp_nar .char (108 : Int32))) 1033 (hsz A) (1 : Int32).toNatClampNeg (vp_nar .char (111 : Int32))) 1033 (hsz A) (2 : Int32).toNatClampNeg (vp_nar .char (119 : Int32))) 466 x0 0 (hsz A))) (5 : Int32).toNatClampNeg (vp_nar .char (109 : Int32))) x0).1 = 8 then k_X9_init_566 (hsR (hsI (hsI (hsI (hsI (hsI (hsI (hmk (hsR (hsI (hsI (hsI (hmk A 9 3) 1033 (hsz A) (0 : Int32).toNatClampNeg (vp_nar .char (108 : Int32))) 1033 (hsz A) (1 : Int32).toNatClampNeg (vp_nar .char (111 : Int32))) 1033 (hsz A) (2 : Int32).toNatClampNeg (vp_nar .char (119 : Int32))) 466 x0 0 (hsz A)) 9 6) 1033 (hsz (hsR (hsI (hsI (hsI (hmk A 9 3) 1033 (hsz A) (0 : Int32).toNatClampNeg (vp_nar .char (108 : Int32))) 1033 (hsz A) (1 : Int32).toNatClampNeg (vp_nar .char (111 : Int32))) 1033 (hsz A) (2 : Int32).toNatClampNeg (vp_nar .char (119 : Int32))) 466 x0 0 (hsz A))) (0 : Int32).toNatClampNeg (vp_nar .char (109 : Int32))) 1033 (hsz (hsR (hsI (hsI (hsI (hmk A 9 3) 1033 (hsz A) (0 : Int32).toNatClampNeg (vp_nar .char (108 : Int32))) 1033 (hsz A) (1 : Int32).toNatClampNeg (vp_nar .char (111 : Int32))) 1033 (hsz A) (2 : Int32).toNatClampNeg (vp_nar .char (119 : Int32))) 466 x0 0 (hsz A))) (1 : Int32).toNatClampNeg (vp_nar .char (101 : Int32))) 1033 (hsz (hsR (hsI (hsI (hsI (hmk A 9 3) 1033 (hsz A) (0 : Int32).toNatClampNeg (vp_nar .char (108 : Int32))) 1033 (hsz A) (1 : Int32).toNatClampNeg (vp_nar .char (111 : Int32))) 1033 (hsz A) (2 : Int32).toNatClampNeg (vp_nar .char (119 : Int32))) 466 x0 0 (hsz A))) (2 : Int32).toNatClampNeg (vp_nar .char (100 : Int32))) 1033 (hsz (hsR (hsI (hsI (hsI (hmk A 9 3) 1033 (hsz A) (0 : Int32).toNatClampNeg (vp_nar .char (108 : Int32))) 1033 (hsz A) (1 : Int32).toNatClampNeg (vp_nar .char (111 : Int32))) 1033 (hsz A) (2 : Int32).toNatClampNeg (vp_nar .char (119 : Int32))) 466 x0 0 (hsz A))) (3 : Int32).toNatClampNeg (vp_nar .char (105 : Int32))) 1033 (hsz (hsR (hsI (hsI (hsI (hmk A 9 3) 1033 (hsz A) (0 : Int32).toNatClampNeg (vp_nar .char (108 : Int32))) 1033 (hsz A) (1 : Int32).toNatClampNeg (vp_nar .char (111 : Int32))) 1033 (hsz A) (2 : Int32).toNatClampNeg (vp_nar .char (119 : Int32))) 466 x0 0 (hsz A))) (4 : Int32).toNatClampNeg (vp_nar .char (117 : Int32))) 1033 (hsz (hsR (hsI (hsI (hsI (hmk A 9 3) 1033 (hsz A) (0 : Int32).toNatClampNeg (vp_nar .char (108 : Int32))) 1033 (hsz A) (1 : Int32).toNatClampNeg (vp_nar .char (111 : Int32))) 1033 (hsz A) (2 : Int32).toNatClampNeg (vp_nar .char (119 : Int32))) 466 x0 0 (hsz A))) (5 : Int32).toNatClampNeg (vp_nar .char (109 : Int32))) 467 x0 0 (hsz (hsR (hsI (hsI (hsI (hmk A 9 3) 1033 (hsz A) (0 : Int32).toNatClampNeg (vp_nar .char (108 : Int32))) 1033 (hsz A) (1 : Int32).toNatClampNeg (vp_nar .char (111 : Int32))) 1033 (hsz A) (2 : Int32).toNatClampNeg (vp_nar .char (119 : Int32))) 466 x0 0 (hsz A)))) x0 else none else none else none else none else none else none else none else none else none else none else none else none else none
set_option maxRecDepth 100000 in
theorem s_X9_init_506 {κ : KT} {B : Hp} {A : Hp} {x0 : Nat}   (K : Cx κ cX9_init 1 RX9 1 20 22 25941) (E : Ed κ none "<init>" (.inl none) B 22 25941)  (h : k_X9_init_506  A x0  = some B) : Vw κ A 16 25876 506 [(0, .inr (.inr x0))] [] := by
  unfold k_X9_init_506 at h
  refine Vw.aload_n (pc := 506) (x := x0) K dX9_init_506 rfl ?_
  refine Vw.iconst (pc := 507) (v := (3 : Int32)) K (by decide) dX9_init_507 ?_
  refine Vw.newC_ (pc := 508) (c := 16) (n := 25876) (c' := 17) (n' := 25879) (N := 3) K u_1_56 (by decide) (by decide) (by decide) (by decide) (by decide) dX9_init_508 rfl rfl ?_
  refine Vw.dup (pc := 510) K rfl dX9_init_510 ?_
  refine Vw.iconst (pc := 511) (v := (0 : Int32)) K (by decide) dX9_init_511 ?_
  refine Vw.bipush (pc := 512) (v := (108 : Int32)) K (by decide) dX9_init_512 ?_
  obtain ⟨g70, h⟩ := wgd h
  obtain ⟨g71, h⟩ := wgd h
  refine Vw.castore (pc := 514) K g70 g71 dX9_init_514 ?_
  refine Vw.dup (pc := 515) K rfl dX9_init_515 ?_
  refine Vw.iconst (pc := 516) (v := (1 : Int32)) K (by decide) dX9_init_516 ?_
  refine Vw.bipush (pc := 517) (v := (111 : Int32)) K (by decide) dX9_init_517 ?_
  obtain ⟨g72, h⟩ := wgd h
  refine Vw.castore (pc := 519) K g70 g72 dX9_init_519 ?_
  refine Vw.dup (pc := 520) K rfl dX9_init_520 ?_
  refine Vw.iconst (pc := 521) (v := (2 : Int32)) K (by decide) dX9_init_521 ?_
  refine Vw.bipush (pc := 522) (v := (119 : Int32)) K (by decide) dX9_init_522 ?_
  obtain ⟨g73, h⟩ := wgd h
  refine Vw.castore (pc := 524) K g70 g73 dX9_init_524 ?_
  obtain ⟨g74, h⟩ := wgd h
  refine Vw.putR (pc := 525) (k := 18) (f := 466) K cls7 rfl rfl u_6_35 g74 (Or.inr ⟨rfl, E.2.2.1, rfl⟩) (wAn _ _) (wAf _ _) dX9_init_525 ?_
  refine Vw.aload_n (pc := 528) (x := x0) K dX9_init_528 rfl ?_
  refine Vw.bipush (pc := 529) (v := (6 : Int32)) K (by decide) dX9_init_529 ?_
  refine Vw.newC_ (pc := 531) (c := 17) (n := 25879) (c' := 18) (n' := 25885) (N := 6) K u_1_56 (by decide) (by decide) (by decide) (by decide) (by decide) dX9_init_531 rfl rfl ?_
  refine Vw.dup (pc := 533) K rfl dX9_init_533 ?_
  refine Vw.iconst (pc := 534) (v := (0 : Int32)) K (by decide) dX9_init_534 ?_
  refine Vw.bipush (pc := 535) (v := (109 : Int32)) K (by decide) dX9_init_535 ?_
  obtain ⟨g75, h⟩ := wgd h
  obtain ⟨g76, h⟩ := wgd h
  refine Vw.castore (pc := 537) K g75 g76 dX9_init_537 ?_
  refine Vw.dup (pc := 538) K rfl dX9_init_538 ?_
  refine Vw.iconst (pc := 539) (v := (1 : Int32)) K (by decide) dX9_init_539 ?_
  refine Vw.bipush (pc := 540) (v := (101 : Int32)) K (by decide) dX9_init_540 ?_
  obtain ⟨g77, h⟩ := wgd h
  refine Vw.castore (pc := 542) K g75 g77 dX9_init_542 ?_
  refine Vw.dup (pc := 543) K rfl dX9_init_543 ?_
  refine Vw.iconst (pc := 544) (v := (2 : Int32)) K (by decide) dX9_init_544 ?_
  refine Vw.bipush (pc := 545) (v := (100 : Int32)) K (by decide) dX9_init_545 ?_
  obtain ⟨g78, h⟩ := wgd h
  refine Vw.castore (pc := 547) K g75 g78 dX9_init_547 ?_
  refine Vw.dup (pc := 548) K rfl dX9_init_548 ?_
  refine Vw.iconst (pc := 549) (v := (3 : Int32)) K (by decide) dX9_init_549 ?_
  refine Vw.bipush (pc := 550) (v := (105 : Int32)) K (by decide) dX9_init_550 ?_
  obtain ⟨g79, h⟩ := wgd h
  refine Vw.castore (pc := 552) K g75 g79 dX9_init_552 ?_
  refine Vw.dup (pc := 553) K rfl dX9_init_553 ?_
  refine Vw.iconst (pc := 554) (v := (4 : Int32)) K (by decide) dX9_init_554 ?_
  refine Vw.bipush (pc := 555) (v := (117 : Int32)) K (by decide) dX9_init_555 ?_
  obtain ⟨g80, h⟩ := wgd h
  refine Vw.castore (pc := 557) K g75 g80 dX9_init_557 ?_
  refine Vw.dup (pc := 558) K rfl dX9_init_558 ?_
  refine Vw.iconst (pc := 559) (v := (5 : Int32)) K (by decide) dX9_init_559 ?_
  refine Vw.bipush (pc := 560) (v := (109 : Int32)) K (by decide) dX9_init_560 ?_
  obtain ⟨g81, h⟩ := wgd h
  refine Vw.castore (pc := 562) K g75 g81 dX9_init_562 ?_
  obtain ⟨g82, h⟩ := wgd h
  refine Vw.putR (pc := 563) (k := 19) (f := 467) K cls7 rfl rfl u_6_36 g82 (Or.inr ⟨rfl, E.2.2.1, rfl⟩) (wAn _ _) (wAf _ _) dX9_init_563 ?_
  exact Vw.loc rfl (s_X9_init_566 K E  h)
def k_X9_init_446  (A : Hp) (x0 : Nat)  : Option (Hp) := if (hsh (hmk A 9 3) (hsz A)).1 = 9 then if wix (0 : Int32) (hsh (hmk A 9 3) (hsz A)).2 then if wix (1 : Int32) (hsh (hsI (hmk A 9 3) 1033 (hsz A) (0 : Int32).toNatClampNeg (vp_nar .char (108 : Int32))) (hsz A)).2 then if wix (2 : Int32) (hsh (hsI (hsI (hmk A 9 3) 1033 (hsz A) (0 : Int32).toNatClampNeg (vp_nar .char (108 : Int32))) 1033 (hsz A) (1 : Int32).toNatClampNeg (vp_nar .char (97 : Int32))) (hsz A)).2 then if (hsh (hsI (hsI (hsI (hmk A 9 3) 1033 (hsz A) (0 : Int32).toNatClampNeg (vp_nar .char (108 : Int32))) 1033 (hsz A) (1 : Int32).toNatClampNeg (vp_nar .char (97 : Int32))) 1033 (hsz A) (2 : Int32).toNatClampNeg (vp_nar .char (120 : Int32))) x0).1 = 8 then if (hsh (hmk (hsR (hsI (hsI (hsI (hmk A 9 3) 1033 (hsz A) (0 : Int32).toNatClampNeg (vp_nar .char (108 : Int32))) 1033 (hsz A) (1 : Int32).toNatClampNeg (vp_nar .char (97 : Int32))) 1033 (hsz A) (2 : Int32).toNatClampNeg (vp_nar .char (120 : Int32))) 464 x0 0 (hsz A)) 9 6) (hsz (hsR (hsI (hsI (hsI (hmk A 9 3) 1033 (hsz A) (0 : Int32).toNatClampNeg (vp_nar .char (108 : Int32))) 1033 (hsz A) (1 : Int32).toNatClampNeg (vp_nar .char (97 : Int32))) 1033 (hsz A) (2 : Int32).toNatClampNeg (vp_nar .char (120 : Int32))) 464 x0 0 (hsz A)))).1 = 9 then if wix (0 : Int32) (hsh (hmk (hsR (hsI (hsI (hsI (hmk A 9 3) 1033 (hsz A) (0 : Int32).toNatClampNeg (vp_nar .char (108 : Int32))) 1033 (hsz A) (1 : Int32).toNatClampNeg (vp_nar .char (97 : Int32))) 1033 (hsz A) (2 : Int32).toNatClampNeg (vp_nar .char (120 : Int32))) 464 x0 0 (hsz A)) 9 6) (hsz (hsR (hsI (hsI (hsI (hmk A 9 3) 1033 (hsz A) (0 : Int32).toNatClampNeg (vp_nar .char (108 : Int32))) 1033 (hsz A) (1 : Int32).toNatClampNeg (vp_nar .char (97 : Int32))) 1033 (hsz A) (2 : Int32).toNatClampNeg (vp_nar .char (120 : Int32))) 464 x0 0 (hsz A)))).2 then if wix (1 : Int32) (hsh (hsI (hmk (hsR (hsI (hsI (hsI (hmk A 9 3) 1033 (hsz A) (0 : Int32).toNatClampNeg (vp_nar .char (108 : Int32))) 1033 (hsz A) (1 : Int32).toNatClampNeg (vp_nar .char (97 : Int32))) 1033 (hsz A) (2 : Int32).toNatClampNeg (vp_nar .char (120 : Int32))) 464 x0 0 (hsz A)) 9 6) 1033 (hsz (hsR (hsI (hsI (hsI (hmk A 9 3) 1033 (hsz A) (0 : Int32).toNatClampNeg (vp_nar .char (108 : Int32))) 1033 (hsz A) (1 : Int32).toNatClampNeg (vp_nar .char (97 : Int32))) 1033 (hsz A) (2 : Int32).toNatClampNeg (vp_nar .char (120 : Int32))) 464 x0 0 (hsz A))) (0 : Int32).toNatClampNeg (vp_nar .char (115 : Int32))) (hsz (hsR (hsI (hsI (hsI (hmk A 9 3) 1033 (hsz A) (0 : Int32).toNatClampNeg (vp_nar .char (108 : Int32))) 1033 (hsz A) (1 : Int32).toNatClampNeg (vp_nar .char (97 : Int32))) 1033 (hsz A) (2 : Int32).toNatClampNeg (vp_nar .char (120 : Int32))) 464 x0 0 (hsz A)))).2 then if wix (2 : Int32) (hsh (hsI (hsI (hmk (hsR (hsI (hsI (hsI (hmk A 9 3) 1033 (hsz A) (0 : Int32).toNatClampNeg (vp_nar .char (108 : Int32))) 1033 (hsz A) (1 : Int32).toNatClampNeg (vp_nar .char (97 : Int32))) 1033 (hsz A) (2 : Int32).toNatClampNeg (vp_nar .char (120 : Int32))) 464 x0 0 (hsz A)) 9 6) 1033 (hsz (hsR (hsI (hsI (hsI (hmk A 9 3) 1033 (hsz A) (0 : Int32).toNatClampNeg (vp_nar .char (108 : Int32))) 1033 (hsz A) (1 : Int32).toNatClampNeg (vp_nar .char (97 : Int32))) 1033 (hsz A) (2 : Int32).toNatClampNeg (vp_nar .char (120 : Int32))) 464 x0 0 (hsz A))) (0 : Int32).toNatClampNeg (vp_nar .char (115 : Int32))) 1033 (hsz (hsR (hsI (hsI (hsI (hmk A 9 3) 1033 (hsz A) (0 : Int32).toNatClampNeg (vp_nar .char (108 : Int32))) 1033 (hsz A) (1 : Int32).toNatClampNeg (vp_nar .char (97 : Int32))) 1033 (hsz A) (2 : Int32).toNatClampNeg (vp_nar .char (120 : Int32))) 464 x0 0 (hsz A))) (1 : Int32).toNatClampNeg (vp_nar .char (116 : Int32))) (hsz (hsR (hsI (hsI (hsI (hmk A 9 3) 1033 (hsz A) (0 : Int32).toNatClampNeg (vp_nar .char (108 : Int32))) 1033 (hsz A) (1 : Int32).toNatClampNeg (vp_nar .char (97 : Int32))) 1033 (hsz A) (2 : Int32).toNatClampNeg (vp_nar .char (120 : Int32))) 464 x0 0 (hsz A)))).2 then if wix (3 : Int32) (hsh (hsI (hsI (hsI (hmk (hsR (hsI (hsI (hsI (hmk A 9 3) 1033 (hsz A) (0 : Int32).toNatClampNeg (vp_nar .char (108 : Int32))) 1033 (hsz A) (1 : Int32).toNatClampNeg (vp_nar .char (97 : Int32))) 1033 (hsz A) (2 : Int32).toNatClampNeg (vp_nar .char (120 : Int32))) 464 x0 0 (hsz A)) 9 6) 1033 (hsz (hsR (hsI (hsI (hsI (hmk A 9 3) 1033 (hsz A) (0 : Int32).toNatClampNeg (vp_nar .char (108 : Int32))) 1033 (hsz A) (1 : Int32).toNatClampNeg (vp_nar .char (97 : Int32))) 1033 (hsz A) (2 : Int32).toNatClampNeg (vp_nar .char (120 : Int32))) 464 x0 0 (hsz A))) (0 : Int32).toNatClampNeg (vp_nar .char (115 : Int32))) 1033 (hsz (hsR (hsI (hsI (hsI (hmk A 9 3) 1033 (hsz A) (0 : Int32).toNatClampNeg (vp_nar .char (108 : Int32))) 1033 (hsz A) (1 : Int32).toNatClampNeg (vp_nar .char (97 : Int32))) 1033 (hsz A) (2 : Int32).toNatClampNeg (vp_nar .char (120 : Int32))) 464 x0 0 (hsz A))) (1 : Int32).toNatClampNeg (vp_nar .char (116 : Int32))) 1033 (hsz (hsR (hsI (hsI (hsI (hmk A 9 3) 1033 (hsz A) (0 : Int32).toNatClampNeg (vp_nar .char (108 : Int32))) 1033 (hsz A) (1 : Int32).toNatClampNeg (vp_nar .char (97 : Int32))) 1033 (hsz A) (2 : Int32).toNatClampNeg (vp_nar .char (120 : Int32))) 464 x0 0 (hsz A))) (2 : Int32).toNatClampNeg (vp_nar .char (114 : Int32))) (hsz (hsR (hsI (hsI (hsI (hmk A 9 3) 1033 (hsz A) (0 : Int32).toNatClampNeg (vp_nar .char (108 : Int32))) 1033 (hsz A) (1 : Int32).toNatClampNeg (vp_nar .char (97 : Int32))) 1033 (hsz A) (2 : Int32).toNatClampNeg (vp_nar .char (120 : Int32))) 464 x0 0 (hsz A)))).2 then if wix (4 : Int32) (hsh (hsI (hsI (hsI (hsI (hmk (hsR (hsI (hsI (hsI (hmk A 9 3) 1033 (hsz A) (0 : Int32).toNatClampNeg (vp_nar .char (108 : Int32))) 1033 (hsz A) (1 : Int32).toNatClampNeg (vp_nar .char (97 : Int32))) 1033 (hsz A) (2 : Int32).toNatClampNeg (vp_nar .char (120 : Int32))) 464 x0 0 (hsz A)) 9 6) 1033 (hsz (hsR (hsI (hsI (hsI (hmk A 9 3) 1033 (hsz A) (0 : Int32).toNatClampNeg (vp_nar .char (108 : Int32))) 1033 (hsz A) (1 : Int32).toNatClampNeg (vp_nar .char (97 : Int32))) 1033 (hsz A) (2 : Int32).toNatClampNeg (vp_nar .char (120 : Int32))) 464 x0 0 (hsz A))) (0 : Int32).toNatClampNeg (vp_nar .char (115 : Int32))) 1033 (hsz (hsR (hsI (hsI (hsI (hmk A 9 3) 1033 (hsz A) (0 : Int32).toNatClampNeg (vp_nar .char (108 : Int32))) 1033 (hsz A) (1 : Int32).toNatClampNeg (vp_nar .char (97 : Int32))) 1033 (hsz A) (2 : Int32).toNatClampNeg (vp_nar .char (120 : Int32))) 464 x0 0 (hsz A))) (1 : Int32).toNatClampNeg (vp_nar .char (116 : Int32))) 1033 (hsz (hsR (hsI (hsI (hsI (hmk A 9 3) 1033 (hsz A) (0 : Int32).toNatClampNeg (vp_nar .char (108 : Int32))) 1033 (hsz A) (1 : Int32).toNatClampNeg (vp_nar .char (97 : Int32))) 1033 (hsz A) (2 : Int32).toNatClampNeg (vp_nar .char (120 : Int32))) 464 x0 0 (hsz A))) (2 : Int32).toNatClampNeg (vp_nar .char (114 : Int32))) 1033 (hsz (hsR (hsI (hsI (hsI (hmk A 9 3) 1033 (hsz A) (0 : Int32).toNatClampNeg (vp_nar .char (108 : Int32))) 1033 (hsz A) (1 : Int32).toNatClampNeg (vp_nar .char (97 : Int32))) 1033 (hsz A) (2 : Int32).toNatClampNeg (vp_nar .char (120 : Int32))) 464 x0 0 (hsz A))) (3 : Int32).toNatClampNeg (vp_nar .char (105 : Int32))) (hsz (hsR (hsI (hsI (hsI (hmk A 9 3) 1033 (hsz A) (0 : Int32).toNatClampNeg (vp_nar .char (108 : Int32))) 1033 (hsz A) (1 : Int32).toNatClampNeg (vp_nar .char (97 : Int32))) 1033 (hsz A) (2 : Int32).toNatClampNeg (vp_nar .char (120 : Int32))) 464 x0 0 (hsz A)))).2 then if wix (5 : Int32) (hsh (hsI (hsI (hsI (hsI (hsI (hmk (hsR (hsI (hsI (hsI (hmk A 9 3) 1033 (hsz A) (0 : Int32).toNatClampNeg (vp_nar .char (108 : Int32))) 1033 (hsz A) (1 : Int32).toNatClampNeg (vp_nar .char (97 : Int32))) 1033 (hsz A) (2 : Int32).toNatClampNeg (vp_nar .char (120 : Int32))) 464 x0 0 (hsz A)) 9 6) 1033 (hsz (hsR (hsI (hsI (hsI (hmk A 9 3) 1033 (hsz A) (0 : Int32).toNatClampNeg (vp_nar .char (108 : Int32))) 1033 (hsz A) (1 : Int32).toNatClampNeg (vp_nar .char (97 : Int32))) 1033 (hsz A) (2 : Int32).toNatClampNeg (vp_nar .char (120 : Int32))) 464 x0 0 (hsz A))) (0 : Int32).toNatClampNeg (vp_nar .char (115 : Int32))) 1033 (hsz (hsR (hsI (hsI (hsI (hmk A 9 3) 1033 (hsz A) (0 : Int32).toNatClampNeg (vp_nar .char (108 : Int32))) 1033 (hsz A) (1 : Int32).toNatClampNeg (vp_nar .char (97 : Int32))) 1033 (hsz A) (2 : Int32).toNatClampNeg (vp_nar .char (120 : Int32))) 464 x0 0 (hsz A))) (1 : Int32).toNatClampNeg (vp_nar .char (116 : Int32))) 1033 (hsz (hsR (hsI (hsI (hsI (hmk A 9 3) 1033 (hsz A) (0 : Int32).toNatClampNeg (vp_nar .char (108 : Int32))) 1033 (hsz A) (1 : Int32).toNatClampNeg (vp_nar .char (97 : Int32))) 1033 (hsz A) (2 : Int32).toNatClampNeg (vp_nar .char (120 : Int32))) 464 x0 0 (hsz A))) (2 : Int32).toNatClampNeg (vp_nar .char (114 : Int32))) 1033 (hsz (hsR (hsI (hsI (hsI (hmk A 9 3) 1033 (hsz A) (0 : Int32).toNatClampNeg (vp_nar .char (108 : Int32))) 1033 (hsz A) (1 : Int32).toNatClampNeg (vp_nar .char (97 : Int32))) 1033 (hsz A) (2 : Int32).toNatClampNeg (vp_nar .char (120 : Int32))) 464 x0 0 (hsz A))) (3 : Int32).toNatClampNeg (vp_nar .char (105 : Int32))) 1033 (hsz (hsR (hsI (hsI (hsI (hmk A 9 3) 1033 (hsz A) (0 : Int32).toNatClampNeg (vp_nar .char (108 : Int32))) 1033 (hsz A) (1 : Int32).toNatClampNeg (vp_nar .char (97 : Int32))) 1033 (hsz A) (2 : Int32).toNatClampNeg (vp_nar .char (120 : Int32))) 464 x0 0 (hsz A))) (4 : Int32).toNatClampNeg (vp_nar .char (99 : Int32))) (hsz (hsR (hsI (hsI (hsI (hmk A 9 3) 1033 (hsz A) (0 : Int32).toNatClampNeg (vp_nar .char (108 : Int32))) 1033 (hsz A) (1 : Int32).toNatClampNeg (vp_nar .char (97 : Int32))) 1033 (hsz A) (2 : Int32).toNatClampNeg (vp_nar .char (120 : Int32))) 464 x0 0 (hsz A)))).2 then if (hsh (hsI (hsI (hsI (hsI (hsI (hsI (hmk (hsR (hsI (hsI (hsI (hmk A 9 3) 1033 (hsz A) (0 : Int32).toNatClampNeg (vp_nar .char (108 : Int32))) 1033 (hsz A) (1 : Int32).toNatClampNeg (vp_nar .char (97 : Int32))) 1033 (hsz A) (2 : Int32).toNatClampNeg (vp_nar .char (120 : Int32))) 464 x0 0 (hsz A)) 9 6) 1033 (hsz (hsR (hsI (hsI (hsI (hmk A 9 3) 1033 (hsz A) (0 : Int32).toNatClampNeg (vp_nar .char (108 : Int32))) 1033 (hsz A) (1 : Int32).toNatClampNeg (vp_nar .char (97 : Int32))) 1033 (hsz A) (2 : Int32).toNatClampNeg (vp_nar .char (120 : Int32))) 464 x0 0 (hsz A))) (0 : Int32).toNatClampNeg (vp_nar .char (115 : Int32))) 1033 (hsz (hsR (hsI (hsI (hsI (hmk A 9 3) 1033 (hsz A) (0 : Int32).toNatClampNeg (vp_nar .char (108 : Int32))) 1033 (hsz A) (1 : Int32).toNatClampNeg (vp_nar .char (97 : Int32))) 1033 (hsz A) (2 : Int32).toNatClampNeg (vp_nar .char (120 : Int32))) 464 x0 0 (hsz A))) (1 : Int32).toNatClampNeg (vp_nar .char (116 : Int32))) 1033 (hsz (hsR (hsI (hsI (hsI (hmk A 9 3) 1033 (hsz A) (0 : Int32).toNatClampNeg (vp_nar .char (108 : Int32))) 1033 (hsz A) (1 : Int32).toNatClampNeg (vp_nar .char (97 : Int32))) 1033 (hsz A) (2 : Int32).toNatClampNeg (vp_nar .char (120 : Int32))) 464 x0 0 (hsz A))) (2 : Int32).toNatClampNeg (vp_nar .char (114 : Int32))) 1033 (hsz (hsR (hsI (hsI (hsI (hmk A 9 3) 1033 (hsz A) (0 : Int32).toNatClampNeg (vp_nar .char (108 : Int32))) 1033 (hsz A) (1 : Int32).toNatClampNeg (vp_nar .char (97 : Int32))) 1033 (hsz A) (2 : Int32).toNatClampNeg (vp_nar .char (120 : Int32))) 464 x0 0 (hsz A))) (3 : Int32).toNatClampNeg (vp_nar .char (105 : Int32))) 1033 (hsz (hsR (hsI (hsI (hsI (hmk A 9 3) 1033 (hsz A) (0 : Int32).toNatClampNeg (vp_nar .char (108 : Int32))) 1033 (hsz A) (1 : Int32).toNatClampNeg (vp_nar .char (97 : Int32))) 1033 (hsz A) (2 : Int32).toNatClampNeg (vp_nar .char (120 : Int32))) 464 x0 0 (hsz A))) (4 : Int32).toNatClampNeg (vp_nar .char (99 : Int32))) 1033 (hsz (hsR (hsI (hsI (hsI (hmk A 9 3) 1033 (hsz A) (0 : Int32).toNatClampNeg (vp_nar .char (108 : Int32))) 1033 (hsz A) (1 : Int32).toNatClampNeg (vp_nar .char (97 : Int32))) 1033 (hsz A) (2 : Int32).toNatClampNeg (vp_nar .char (120 : Int32))) 464 x0 0 (hsz A))) (5 : Int32).toNatClampNeg (vp_nar .char (116 : Int32))) x0).1 = 8 then k_X9_init_506 (hsR (hsI (hsI (hsI (hsI (hsI (hsI (hmk (hsR (hsI (hsI (hsI (hmk A 9 3) 1033 (hsz A) (0 : Int32).toNatClampNeg (vp_nar .char (108 : Int32))) 1033 (hsz A) (1 : Int32).toNatClampNeg (vp_nar .char (97 : Int32))) 1033 (hsz A) (2 : Int32).toNatClampNeg (vp_nar .char (120 : Int32))) 464 x0 0 (hsz A)) 9 6) 1033 (hsz (hsR (hsI (hsI (hsI (hmk A 9 3) 1033 (hsz A) (0 : Int32).toNatClampNeg (vp_nar .char (108 : Int32))) 1033 (hsz A) (1 : Int32).toNatClampNeg (vp_nar .char (97 : Int32))) 1033 (hsz A) (2 : Int32).toNatClampNeg (vp_nar .char (120 : Int32))) 464 x0 0 (hsz A))) (0 : Int32).toNatClampNeg (vp_nar .char (115 : Int32))) 1033 (hsz (hsR (hsI (hsI (hsI (hmk A 9 3) 1033 (hsz A) (0 : Int32).toNatClampNeg (vp_nar .char (108 : Int32))) 1033 (hsz A) (1 : Int32).toNatClampNeg (vp_nar .char (97 : Int32))) 1033 (hsz A) (2 : Int32).toNatClampNeg (vp_nar .char (120 : Int32))) 464 x0 0 (hsz A))) (1 : Int32).toNatClampNeg (vp_nar .char (116 : Int32))) 1033 (hsz (hsR (hsI (hsI (hsI (hmk A 9 3) 1033 (hsz A) (0 : Int32).toNatClampNeg (vp_nar .char (108 : Int32))) 1033 (hsz A) (1 : Int32).toNatClampNeg (vp_nar .char (97 : Int32))) 1033 (hsz A) (2 : Int32).toNatClampNeg (vp_nar .char (120 : Int32))) 464 x0 0 (hsz A))) (2 : Int32).toNatClampNeg (vp_nar .char (114 : Int32))) 1033 (hsz (hsR (hsI (hsI (hsI (hmk A 9 3) 1033 (hsz A) (0 : Int32).toNatClampNeg (vp_nar .char (108 : Int32))) 1033 (hsz A) (1 : Int32).toNatClampNeg (vp_nar .char (97 : Int32))) 1033 (hsz A) (2 : Int32).toNatClampNeg (vp_nar .char (120 : Int32))) 464 x0 0 (hsz A))) (3 : Int32).toNatClampNeg (vp_nar .char (105 : Int32))) 1033 (hsz (hsR (hsI (hsI (hsI (hmk A 9 3) 1033 (hsz A) (0 : Int32).toNatClampNeg (vp_nar .char (108 : Int32))) 1033 (hsz A) (1 : Int32).toNatClampNeg (vp_nar .char (97 : Int32))) 1033 (hsz A) (2 : Int32).toNatClampNeg (vp_nar .char (120 : Int32))) 464 x0 0 (hsz A))) (4 : Int32).toNatClampNeg (vp_nar .char (99 : Int32))) 1033 (hsz (hsR (hsI (hsI (hsI (hmk A 9 3) 1033 (hsz A) (0 : Int32).toNatClampNeg (vp_nar .char (108 : Int32))) 1033 (hsz A) (1 : Int32).toNatClampNeg (vp_nar .char (97 : Int32))) 1033 (hsz A) (2 : Int32).toNatClampNeg (vp_nar .char (120 : Int32))) 464 x0 0 (hsz A))) (5 : Int32).toNatClampNeg (vp_nar .char (116 : Int32))) 465 x0 0 (hsz (hsR (hsI (hsI (hsI (hmk A 9 3) 1033 (hsz A) (0 : Int32).toNatClampNeg (vp_nar .char (108 : Int32))) 1033 (hsz A) (1 : Int32).toNatClampNeg (vp_nar .char (97 : Int32))) 1033 (hsz A) (2 : Int32).toNatClampNeg (vp_nar .char (120 : Int32))) 464 x0 0 (hsz A)))) x0 else none else none else none else none else none else none else none else none else none else none else none else none else none
set_option maxRecDepth 100000 in
theorem s_X9_init_446 {κ : KT} {B : Hp} {A : Hp} {x0 : Nat}   (K : Cx κ cX9_init 1 RX9 1 20 22 25941) (E : Ed κ none "<init>" (.inl none) B 22 25941)  (h : k_X9_init_446  A x0  = some B) : Vw κ A 14 25867 446 [(0, .inr (.inr x0))] [] := by
  unfold k_X9_init_446 at h
  refine Vw.aload_n (pc := 446) (x := x0) K dX9_init_446 rfl ?_
  refine Vw.iconst (pc := 447) (v := (3 : Int32)) K (by decide) dX9_init_447 ?_
  refine Vw.newC_ (pc := 448) (c := 14) (n := 25867) (c' := 15) (n' := 25870) (N := 3) K u_1_56 (by decide) (by decide) (by decide) (by decide) (by decide) dX9_init_448 rfl rfl ?_
  refine Vw.dup (pc := 450) K rfl dX9_init_450 ?_
  refine Vw.iconst (pc := 451) (v := (0 : Int32)) K (by decide) dX9_init_451 ?_
  refine Vw.bipush (pc := 452) (v := (108 : Int32)) K (by decide) dX9_init_452 ?_
  obtain ⟨g83, h⟩ := wgd h
  obtain ⟨g84, h⟩ := wgd h
  refine Vw.castore (pc := 454) K g83 g84 dX9_init_454 ?_
  refine Vw.dup (pc := 455) K rfl dX9_init_455 ?_
  refine Vw.iconst (pc := 456) (v := (1 : Int32)) K (by decide) dX9_init_456 ?_
  refine Vw.bipush (pc := 457) (v := (97 : Int32)) K (by decide) dX9_init_457 ?_
  obtain ⟨g85, h⟩ := wgd h
  refine Vw.castore (pc := 459) K g83 g85 dX9_init_459 ?_
  refine Vw.dup (pc := 460) K rfl dX9_init_460 ?_
  refine Vw.iconst (pc := 461) (v := (2 : Int32)) K (by decide) dX9_init_461 ?_
  refine Vw.bipush (pc := 462) (v := (120 : Int32)) K (by decide) dX9_init_462 ?_
  obtain ⟨g86, h⟩ := wgd h
  refine Vw.castore (pc := 464) K g83 g86 dX9_init_464 ?_
  obtain ⟨g87, h⟩ := wgd h
  refine Vw.putR (pc := 465) (k := 16) (f := 464) K cls7 rfl rfl u_6_33 g87 (Or.inr ⟨rfl, E.2.2.1, rfl⟩) (wAn _ _) (wAf _ _) dX9_init_465 ?_
  refine Vw.aload_n (pc := 468) (x := x0) K dX9_init_468 rfl ?_
  refine Vw.bipush (pc := 469) (v := (6 : Int32)) K (by decide) dX9_init_469 ?_
  refine Vw.newC_ (pc := 471) (c := 15) (n := 25870) (c' := 16) (n' := 25876) (N := 6) K u_1_56 (by decide) (by decide) (by decide) (by decide) (by decide) dX9_init_471 rfl rfl ?_
  refine Vw.dup (pc := 473) K rfl dX9_init_473 ?_
  refine Vw.iconst (pc := 474) (v := (0 : Int32)) K (by decide) dX9_init_474 ?_
  refine Vw.bipush (pc := 475) (v := (115 : Int32)) K (by decide) dX9_init_475 ?_
  obtain ⟨g88, h⟩ := wgd h
  obtain ⟨g89, h⟩ := wgd h
  refine Vw.castore (pc := 477) K g88 g89 dX9_init_477 ?_
  refine Vw.dup (pc := 478) K rfl dX9_init_478 ?_
  refine Vw.iconst (pc := 479) (v := (1 : Int32)) K (by decide) dX9_init_479 ?_
  refine Vw.bipush (pc := 480) (v := (116 : Int32)) K (by decide) dX9_init_480 ?_
  obtain ⟨g90, h⟩ := wgd h
  refine Vw.castore (pc := 482) K g88 g90 dX9_init_482 ?_
  refine Vw.dup (pc := 483) K rfl dX9_init_483 ?_
  refine Vw.iconst (pc := 484) (v := (2 : Int32)) K (by decide) dX9_init_484 ?_
  refine Vw.bipush (pc := 485) (v := (114 : Int32)) K (by decide) dX9_init_485 ?_
  obtain ⟨g91, h⟩ := wgd h
  refine Vw.castore (pc := 487) K g88 g91 dX9_init_487 ?_
  refine Vw.dup (pc := 488) K rfl dX9_init_488 ?_
  refine Vw.iconst (pc := 489) (v := (3 : Int32)) K (by decide) dX9_init_489 ?_
  refine Vw.bipush (pc := 490) (v := (105 : Int32)) K (by decide) dX9_init_490 ?_
  obtain ⟨g92, h⟩ := wgd h
  refine Vw.castore (pc := 492) K g88 g92 dX9_init_492 ?_
  refine Vw.dup (pc := 493) K rfl dX9_init_493 ?_
  refine Vw.iconst (pc := 494) (v := (4 : Int32)) K (by decide) dX9_init_494 ?_
  refine Vw.bipush (pc := 495) (v := (99 : Int32)) K (by decide) dX9_init_495 ?_
  obtain ⟨g93, h⟩ := wgd h
  refine Vw.castore (pc := 497) K g88 g93 dX9_init_497 ?_
  refine Vw.dup (pc := 498) K rfl dX9_init_498 ?_
  refine Vw.iconst (pc := 499) (v := (5 : Int32)) K (by decide) dX9_init_499 ?_
  refine Vw.bipush (pc := 500) (v := (116 : Int32)) K (by decide) dX9_init_500 ?_
  obtain ⟨g94, h⟩ := wgd h
  refine Vw.castore (pc := 502) K g88 g94 dX9_init_502 ?_
  obtain ⟨g95, h⟩ := wgd h
  refine Vw.putR (pc := 503) (k := 17) (f := 465) K cls7 rfl rfl u_6_34 g95 (Or.inr ⟨rfl, E.2.2.1, rfl⟩) (wAn _ _) (wAf _ _) dX9_init_503 ?_
  exact Vw.loc rfl (s_X9_init_506 K E  h)
def k_X9_init_419  (A : Hp) (x0 : Nat)  : Option (Hp) := if (hsh (hmk A 9 4) (hsz A)).1 = 9 then if wix (0 : Int32) (hsh (hmk A 9 4) (hsz A)).2 then if wix (1 : Int32) (hsh (hsI (hmk A 9 4) 1033 (hsz A) (0 : Int32).toNatClampNeg (vp_nar .char (110 : Int32))) (hsz A)).2 then if wix (2 : Int32) (hsh (hsI (hsI (hmk A 9 4) 1033 (hsz A) (0 : Int32).toNatClampNeg (vp_nar .char (110 : Int32))) 1033 (hsz A) (1 : Int32).toNatClampNeg (vp_nar .char (111 : Int32))) (hsz A)).2 then if wix (3 : Int32) (hsh (hsI (hsI (hsI (hmk A 9 4) 1033 (hsz A) (0 : Int32).toNatClampNeg (vp_nar .char (110 : Int32))) 1033 (hsz A) (1 : Int32).toNatClampNeg (vp_nar .char (111 : Int32))) 1033 (hsz A) (2 : Int32).toNatClampNeg (vp_nar .char (110 : Int32))) (hsz A)).2 then if (hsh (hsI (hsI (hsI (hsI (hmk A 9 4) 1033 (hsz A) (0 : Int32).toNatClampNeg (vp_nar .char (110 : Int32))) 1033 (hsz A) (1 : Int32).toNatClampNeg (vp_nar .char (111 : Int32))) 1033 (hsz A) (2 : Int32).toNatClampNeg (vp_nar .char (110 : Int32))) 1033 (hsz A) (3 : Int32).toNatClampNeg (vp_nar .char (101 : Int32))) x0).1 = 8 then k_X9_init_446 (hsR (hsI (hsI (hsI (hsI (hmk A 9 4) 1033 (hsz A) (0 : Int32).toNatClampNeg (vp_nar .char (110 : Int32))) 1033 (hsz A) (1 : Int32).toNatClampNeg (vp_nar .char (111 : Int32))) 1033 (hsz A) (2 : Int32).toNatClampNeg (vp_nar .char (110 : Int32))) 1033 (hsz A) (3 : Int32).toNatClampNeg (vp_nar .char (101 : Int32))) 463 x0 0 (hsz A)) x0 else none else none else none else none else none else none
set_option maxRecDepth 100000 in
theorem s_X9_init_419 {κ : KT} {B : Hp} {A : Hp} {x0 : Nat}   (K : Cx κ cX9_init 1 RX9 1 20 22 25941) (E : Ed κ none "<init>" (.inl none) B 22 25941)  (h : k_X9_init_419  A x0  = some B) : Vw κ A 13 25863 419 [(0, .inr (.inr x0))] [] := by
  unfold k_X9_init_419 at h
  refine Vw.aload_n (pc := 419) (x := x0) K dX9_init_419 rfl ?_
  refine Vw.iconst (pc := 420) (v := (4 : Int32)) K (by decide) dX9_init_420 ?_
  refine Vw.newC_ (pc := 421) (c := 13) (n := 25863) (c' := 14) (n' := 25867) (N := 4) K u_1_56 (by decide) (by decide) (by decide) (by decide) (by decide) dX9_init_421 rfl rfl ?_
  refine Vw.dup (pc := 423) K rfl dX9_init_423 ?_
  refine Vw.iconst (pc := 424) (v := (0 : Int32)) K (by decide) dX9_init_424 ?_
  refine Vw.bipush (pc := 425) (v := (110 : Int32)) K (by decide) dX9_init_425 ?_
  obtain ⟨g96, h⟩ := wgd h
  obtain ⟨g97, h⟩ := wgd h
  refine Vw.castore (pc := 427) K g96 g97 dX9_init_427 ?_
  refine Vw.dup (pc := 428) K rfl dX9_init_428 ?_
  refine Vw.iconst (pc := 429) (v := (1 : Int32)) K (by decide) dX9_init_429 ?_
  refine Vw.bipush (pc := 430) (v := (111 : Int32)) K (by decide) dX9_init_430 ?_
  obtain ⟨g98, h⟩ := wgd h
  refine Vw.castore (pc := 432) K g96 g98 dX9_init_432 ?_
  refine Vw.dup (pc := 433) K rfl dX9_init_433 ?_
  refine Vw.iconst (pc := 434) (v := (2 : Int32)) K (by decide) dX9_init_434 ?_
  refine Vw.bipush (pc := 435) (v := (110 : Int32)) K (by decide) dX9_init_435 ?_
  obtain ⟨g99, h⟩ := wgd h
  refine Vw.castore (pc := 437) K g96 g99 dX9_init_437 ?_
  refine Vw.dup (pc := 438) K rfl dX9_init_438 ?_
  refine Vw.iconst (pc := 439) (v := (3 : Int32)) K (by decide) dX9_init_439 ?_
  refine Vw.bipush (pc := 440) (v := (101 : Int32)) K (by decide) dX9_init_440 ?_
  obtain ⟨g100, h⟩ := wgd h
  refine Vw.castore (pc := 442) K g96 g100 dX9_init_442 ?_
  obtain ⟨g101, h⟩ := wgd h
  refine Vw.putR (pc := 443) (k := 15) (f := 463) K cls7 rfl rfl u_6_32 g101 (Or.inr ⟨rfl, E.2.2.1, rfl⟩) (wAn _ _) (wAf _ _) dX9_init_443 ?_
  exact Vw.loc rfl (s_X9_init_446 K E  h)
def k_X9_init_369  (A : Hp) (x0 : Nat)  : Option (Hp) := if (hsh (hmk A 9 8) (hsz A)).1 = 9 then if wix (0 : Int32) (hsh (hmk A 9 8) (hsz A)).2 then if wix (1 : Int32) (hsh (hsI (hmk A 9 8) 1033 (hsz A) (0 : Int32).toNatClampNeg (vp_nar .char (112 : Int32))) (hsz A)).2 then if wix (2 : Int32) (hsh (hsI (hsI (hmk A 9 8) 1033 (hsz A) (0 : Int32).toNatClampNeg (vp_nar .char (112 : Int32))) 1033 (hsz A) (1 : Int32).toNatClampNeg (vp_nar .char (114 : Int32))) (hsz A)).2 then if wix (3 : Int32) (hsh (hsI (hsI (hsI (hmk A 9 8) 1033 (hsz A) (0 : Int32).toNatClampNeg (vp_nar .char (112 : Int32))) 1033 (hsz A) (1 : Int32).toNatClampNeg (vp_nar .char (114 : Int32))) 1033 (hsz A) (2 : Int32).toNatClampNeg (vp_nar .char (105 : Int32))) (hsz A)).2 then if wix (4 : Int32) (hsh (hsI (hsI (hsI (hsI (hmk A 9 8) 1033 (hsz A) (0 : Int32).toNatClampNeg (vp_nar .char (112 : Int32))) 1033 (hsz A) (1 : Int32).toNatClampNeg (vp_nar .char (114 : Int32))) 1033 (hsz A) (2 : Int32).toNatClampNeg (vp_nar .char (105 : Int32))) 1033 (hsz A) (3 : Int32).toNatClampNeg (vp_nar .char (111 : Int32))) (hsz A)).2 then if wix (5 : Int32) (hsh (hsI (hsI (hsI (hsI (hsI (hmk A 9 8) 1033 (hsz A) (0 : Int32).toNatClampNeg (vp_nar .char (112 : Int32))) 1033 (hsz A) (1 : Int32).toNatClampNeg (vp_nar .char (114 : Int32))) 1033 (hsz A) (2 : Int32).toNatClampNeg (vp_nar .char (105 : Int32))) 1033 (hsz A) (3 : Int32).toNatClampNeg (vp_nar .char (111 : Int32))) 1033 (hsz A) (4 : Int32).toNatClampNeg (vp_nar .char (114 : Int32))) (hsz A)).2 then if wix (6 : Int32) (hsh (hsI (hsI (hsI (hsI (hsI (hsI (hmk A 9 8) 1033 (hsz A) (0 : Int32).toNatClampNeg (vp_nar .char (112 : Int32))) 1033 (hsz A) (1 : Int32).toNatClampNeg (vp_nar .char (114 : Int32))) 1033 (hsz A) (2 : Int32).toNatClampNeg (vp_nar .char (105 : Int32))) 1033 (hsz A) (3 : Int32).toNatClampNeg (vp_nar .char (111 : Int32))) 1033 (hsz A) (4 : Int32).toNatClampNeg (vp_nar .char (114 : Int32))) 1033 (hsz A) (5 : Int32).toNatClampNeg (vp_nar .char (105 : Int32))) (hsz A)).2 then if wix (7 : Int32) (hsh (hsI (hsI (hsI (hsI (hsI (hsI (hsI (hmk A 9 8) 1033 (hsz A) (0 : Int32).toNatClampNeg (vp_nar .char (112 : Int32))) 1033 (hsz A) (1 : Int32).toNatClampNeg (vp_nar .char (114 : Int32))) 1033 (hsz A) (2 : Int32).toNatClampNeg (vp_nar .char (105 : Int32))) 1033 (hsz A) (3 : Int32).toNatClampNeg (vp_nar .char (111 : Int32))) 1033 (hsz A) (4 : Int32).toNatClampNeg (vp_nar .char (114 : Int32))) 1033 (hsz A) (5 : Int32).toNatClampNeg (vp_nar .char (105 : Int32))) 1033 (hsz A) (6 : Int32).toNatClampNeg (vp_nar .char (116 : Int32))) (hsz A)).2 then if (hsh (hsI (hsI (hsI (hsI (hsI (hsI (hsI (hsI (hmk A 9 8) 1033 (hsz A) (0 : Int32).toNatClampNeg (vp_nar .char (112 : Int32))) 1033 (hsz A) (1 : Int32).toNatClampNeg (vp_nar .char (114 : Int32))) 1033 (hsz A) (2 : Int32).toNatClampNeg (vp_nar .char (105 : Int32))) 1033 (hsz A) (3 : Int32).toNatClampNeg (vp_nar .char (111 : Int32))) 1033 (hsz A) (4 : Int32).toNatClampNeg (vp_nar .char (114 : Int32))) 1033 (hsz A) (5 : Int32).toNatClampNeg (vp_nar .char (105 : Int32))) 1033 (hsz A) (6 : Int32).toNatClampNeg (vp_nar .char (116 : Int32))) 1033 (hsz A) (7 : Int32).toNatClampNeg (vp_nar .char (121 : Int32))) x0).1 = 8 then k_X9_init_419 (hsR (hsI (hsI (hsI (hsI (hsI (hsI (hsI (hsI (hmk A 9 8) 1033 (hsz A) (0 : Int32).toNatClampNeg (vp_nar .char (112 : Int32))) 1033 (hsz A) (1 : Int32).toNatClampNeg (vp_nar .char (114 : Int32))) 1033 (hsz A) (2 : Int32).toNatClampNeg (vp_nar .char (105 : Int32))) 1033 (hsz A) (3 : Int32).toNatClampNeg (vp_nar .char (111 : Int32))) 1033 (hsz A) (4 : Int32).toNatClampNeg (vp_nar .char (114 : Int32))) 1033 (hsz A) (5 : Int32).toNatClampNeg (vp_nar .char (105 : Int32))) 1033 (hsz A) (6 : Int32).toNatClampNeg (vp_nar .char (116 : Int32))) 1033 (hsz A) (7 : Int32).toNatClampNeg (vp_nar .char (121 : Int32))) 462 x0 0 (hsz A)) x0 else none else none else none else none else none else none else none else none else none else none
set_option maxRecDepth 100000 in
theorem s_X9_init_369 {κ : KT} {B : Hp} {A : Hp} {x0 : Nat}   (K : Cx κ cX9_init 1 RX9 1 20 22 25941) (E : Ed κ none "<init>" (.inl none) B 22 25941)  (h : k_X9_init_369  A x0  = some B) : Vw κ A 12 25855 369 [(0, .inr (.inr x0))] [] := by
  unfold k_X9_init_369 at h
  refine Vw.aload_n (pc := 369) (x := x0) K dX9_init_369 rfl ?_
  refine Vw.bipush (pc := 370) (v := (8 : Int32)) K (by decide) dX9_init_370 ?_
  refine Vw.newC_ (pc := 372) (c := 12) (n := 25855) (c' := 13) (n' := 25863) (N := 8) K u_1_56 (by decide) (by decide) (by decide) (by decide) (by decide) dX9_init_372 rfl rfl ?_
  refine Vw.dup (pc := 374) K rfl dX9_init_374 ?_
  refine Vw.iconst (pc := 375) (v := (0 : Int32)) K (by decide) dX9_init_375 ?_
  refine Vw.bipush (pc := 376) (v := (112 : Int32)) K (by decide) dX9_init_376 ?_
  obtain ⟨g102, h⟩ := wgd h
  obtain ⟨g103, h⟩ := wgd h
  refine Vw.castore (pc := 378) K g102 g103 dX9_init_378 ?_
  refine Vw.dup (pc := 379) K rfl dX9_init_379 ?_
  refine Vw.iconst (pc := 380) (v := (1 : Int32)) K (by decide) dX9_init_380 ?_
  refine Vw.bipush (pc := 381) (v := (114 : Int32)) K (by decide) dX9_init_381 ?_
  obtain ⟨g104, h⟩ := wgd h
  refine Vw.castore (pc := 383) K g102 g104 dX9_init_383 ?_
  refine Vw.dup (pc := 384) K rfl dX9_init_384 ?_
  refine Vw.iconst (pc := 385) (v := (2 : Int32)) K (by decide) dX9_init_385 ?_
  refine Vw.bipush (pc := 386) (v := (105 : Int32)) K (by decide) dX9_init_386 ?_
  obtain ⟨g105, h⟩ := wgd h
  refine Vw.castore (pc := 388) K g102 g105 dX9_init_388 ?_
  refine Vw.dup (pc := 389) K rfl dX9_init_389 ?_
  refine Vw.iconst (pc := 390) (v := (3 : Int32)) K (by decide) dX9_init_390 ?_
  refine Vw.bipush (pc := 391) (v := (111 : Int32)) K (by decide) dX9_init_391 ?_
  obtain ⟨g106, h⟩ := wgd h
  refine Vw.castore (pc := 393) K g102 g106 dX9_init_393 ?_
  refine Vw.dup (pc := 394) K rfl dX9_init_394 ?_
  refine Vw.iconst (pc := 395) (v := (4 : Int32)) K (by decide) dX9_init_395 ?_
  refine Vw.bipush (pc := 396) (v := (114 : Int32)) K (by decide) dX9_init_396 ?_
  obtain ⟨g107, h⟩ := wgd h
  refine Vw.castore (pc := 398) K g102 g107 dX9_init_398 ?_
  refine Vw.dup (pc := 399) K rfl dX9_init_399 ?_
  refine Vw.iconst (pc := 400) (v := (5 : Int32)) K (by decide) dX9_init_400 ?_
  refine Vw.bipush (pc := 401) (v := (105 : Int32)) K (by decide) dX9_init_401 ?_
  obtain ⟨g108, h⟩ := wgd h
  refine Vw.castore (pc := 403) K g102 g108 dX9_init_403 ?_
  refine Vw.dup (pc := 404) K rfl dX9_init_404 ?_
  refine Vw.bipush (pc := 405) (v := (6 : Int32)) K (by decide) dX9_init_405 ?_
  refine Vw.bipush (pc := 407) (v := (116 : Int32)) K (by decide) dX9_init_407 ?_
  obtain ⟨g109, h⟩ := wgd h
  refine Vw.castore (pc := 409) K g102 g109 dX9_init_409 ?_
  refine Vw.dup (pc := 410) K rfl dX9_init_410 ?_
  refine Vw.bipush (pc := 411) (v := (7 : Int32)) K (by decide) dX9_init_411 ?_
  refine Vw.bipush (pc := 413) (v := (121 : Int32)) K (by decide) dX9_init_413 ?_
  obtain ⟨g110, h⟩ := wgd h
  refine Vw.castore (pc := 415) K g102 g110 dX9_init_415 ?_
  obtain ⟨g111, h⟩ := wgd h
  refine Vw.putR (pc := 416) (k := 14) (f := 462) K cls7 rfl rfl u_6_31 g111 (Or.inr ⟨rfl, E.2.2.1, rfl⟩) (wAn _ _) (wAf _ _) dX9_init_416 ?_
  exact Vw.loc rfl (s_X9_init_419 K E  h)
def k_X9_init_319  (A : Hp) (x0 : Nat)  : Option (Hp) := if (hsh (hmk A 9 8) (hsz A)).1 = 9 then if wix (0 : Int32) (hsh (hmk A 9 8) (hsz A)).2 then if wix (1 : Int32) (hsh (hsI (hmk A 9 8) 1033 (hsz A) (0 : Int32).toNatClampNeg (vp_nar .char (115 : Int32))) (hsz A)).2 then if wix (2 : Int32) (hsh (hsI (hsI (hmk A 9 8) 1033 (hsz A) (0 : Int32).toNatClampNeg (vp_nar .char (115 : Int32))) 1033 (hsz A) (1 : Int32).toNatClampNeg (vp_nar .char (97 : Int32))) (hsz A)).2 then if wix (3 : Int32) (hsh (hsI (hsI (hsI (hmk A 9 8) 1033 (hsz A) (0 : Int32).toNatClampNeg (vp_nar .char (115 : Int32))) 1033 (hsz A) (1 : Int32).toNatClampNeg (vp_nar .char (97 : Int32))) 1033 (hsz A) (2 : Int32).toNatClampNeg (vp_nar .char (109 : Int32))) (hsz A)).2 then if wix (4 : Int32) (hsh (hsI (hsI (hsI (hsI (hmk A 9 8) 1033 (hsz A) (0 : Int32).toNatClampNeg (vp_nar .char (115 : Int32))) 1033 (hsz A) (1 : Int32).toNatClampNeg (vp_nar .char (97 : Int32))) 1033 (hsz A) (2 : Int32).toNatClampNeg (vp_nar .char (109 : Int32))) 1033 (hsz A) (3 : Int32).toNatClampNeg (vp_nar .char (101 : Int32))) (hsz A)).2 then if wix (5 : Int32) (hsh (hsI (hsI (hsI (hsI (hsI (hmk A 9 8) 1033 (hsz A) (0 : Int32).toNatClampNeg (vp_nar .char (115 : Int32))) 1033 (hsz A) (1 : Int32).toNatClampNeg (vp_nar .char (97 : Int32))) 1033 (hsz A) (2 : Int32).toNatClampNeg (vp_nar .char (109 : Int32))) 1033 (hsz A) (3 : Int32).toNatClampNeg (vp_nar .char (101 : Int32))) 1033 (hsz A) (4 : Int32).toNatClampNeg (vp_nar .char (115 : Int32))) (hsz A)).2 then if wix (6 : Int32) (hsh (hsI (hsI (hsI (hsI (hsI (hsI (hmk A 9 8) 1033 (hsz A) (0 : Int32).toNatClampNeg (vp_nar .char (115 : Int32))) 1033 (hsz A) (1 : Int32).toNatClampNeg (vp_nar .char (97 : Int32))) 1033 (hsz A) (2 : Int32).toNatClampNeg (vp_nar .char (109 : Int32))) 1033 (hsz A) (3 : Int32).toNatClampNeg (vp_nar .char (101 : Int32))) 1033 (hsz A) (4 : Int32).toNatClampNeg (vp_nar .char (115 : Int32))) 1033 (hsz A) (5 : Int32).toNatClampNeg (vp_nar .char (105 : Int32))) (hsz A)).2 then if wix (7 : Int32) (hsh (hsI (hsI (hsI (hsI (hsI (hsI (hsI (hmk A 9 8) 1033 (hsz A) (0 : Int32).toNatClampNeg (vp_nar .char (115 : Int32))) 1033 (hsz A) (1 : Int32).toNatClampNeg (vp_nar .char (97 : Int32))) 1033 (hsz A) (2 : Int32).toNatClampNeg (vp_nar .char (109 : Int32))) 1033 (hsz A) (3 : Int32).toNatClampNeg (vp_nar .char (101 : Int32))) 1033 (hsz A) (4 : Int32).toNatClampNeg (vp_nar .char (115 : Int32))) 1033 (hsz A) (5 : Int32).toNatClampNeg (vp_nar .char (105 : Int32))) 1033 (hsz A) (6 : Int32).toNatClampNeg (vp_nar .char (116 : Int32))) (hsz A)).2 then if (hsh (hsI (hsI (hsI (hsI (hsI (hsI (hsI (hsI (hmk A 9 8) 1033 (hsz A) (0 : Int32).toNatClampNeg (vp_nar .char (115 : Int32))) 1033 (hsz A) (1 : Int32).toNatClampNeg (vp_nar .char (97 : Int32))) 1033 (hsz A) (2 : Int32).toNatClampNeg (vp_nar .char (109 : Int32))) 1033 (hsz A) (3 : Int32).toNatClampNeg (vp_nar .char (101 : Int32))) 1033 (hsz A) (4 : Int32).toNatClampNeg (vp_nar .char (115 : Int32))) 1033 (hsz A) (5 : Int32).toNatClampNeg (vp_nar .char (105 : Int32))) 1033 (hsz A) (6 : Int32).toNatClampNeg (vp_nar .char (116 : Int32))) 1033 (hsz A) (7 : Int32).toNatClampNeg (vp_nar .char (101 : Int32))) x0).1 = 8 then k_X9_init_369 (hsR (hsI (hsI (hsI (hsI (hsI (hsI (hsI (hsI (hmk A 9 8) 1033 (hsz A) (0 : Int32).toNatClampNeg (vp_nar .char (115 : Int32))) 1033 (hsz A) (1 : Int32).toNatClampNeg (vp_nar .char (97 : Int32))) 1033 (hsz A) (2 : Int32).toNatClampNeg (vp_nar .char (109 : Int32))) 1033 (hsz A) (3 : Int32).toNatClampNeg (vp_nar .char (101 : Int32))) 1033 (hsz A) (4 : Int32).toNatClampNeg (vp_nar .char (115 : Int32))) 1033 (hsz A) (5 : Int32).toNatClampNeg (vp_nar .char (105 : Int32))) 1033 (hsz A) (6 : Int32).toNatClampNeg (vp_nar .char (116 : Int32))) 1033 (hsz A) (7 : Int32).toNatClampNeg (vp_nar .char (101 : Int32))) 461 x0 0 (hsz A)) x0 else none else none else none else none else none else none else none else none else none else none
set_option maxRecDepth 100000 in
theorem s_X9_init_319 {κ : KT} {B : Hp} {A : Hp} {x0 : Nat}   (K : Cx κ cX9_init 1 RX9 1 20 22 25941) (E : Ed κ none "<init>" (.inl none) B 22 25941)  (h : k_X9_init_319  A x0  = some B) : Vw κ A 11 25847 319 [(0, .inr (.inr x0))] [] := by
  unfold k_X9_init_319 at h
  refine Vw.aload_n (pc := 319) (x := x0) K dX9_init_319 rfl ?_
  refine Vw.bipush (pc := 320) (v := (8 : Int32)) K (by decide) dX9_init_320 ?_
  refine Vw.newC_ (pc := 322) (c := 11) (n := 25847) (c' := 12) (n' := 25855) (N := 8) K u_1_56 (by decide) (by decide) (by decide) (by decide) (by decide) dX9_init_322 rfl rfl ?_
  refine Vw.dup (pc := 324) K rfl dX9_init_324 ?_
  refine Vw.iconst (pc := 325) (v := (0 : Int32)) K (by decide) dX9_init_325 ?_
  refine Vw.bipush (pc := 326) (v := (115 : Int32)) K (by decide) dX9_init_326 ?_
  obtain ⟨g112, h⟩ := wgd h
  obtain ⟨g113, h⟩ := wgd h
  refine Vw.castore (pc := 328) K g112 g113 dX9_init_328 ?_
  refine Vw.dup (pc := 329) K rfl dX9_init_329 ?_
  refine Vw.iconst (pc := 330) (v := (1 : Int32)) K (by decide) dX9_init_330 ?_
  refine Vw.bipush (pc := 331) (v := (97 : Int32)) K (by decide) dX9_init_331 ?_
  obtain ⟨g114, h⟩ := wgd h
  refine Vw.castore (pc := 333) K g112 g114 dX9_init_333 ?_
  refine Vw.dup (pc := 334) K rfl dX9_init_334 ?_
  refine Vw.iconst (pc := 335) (v := (2 : Int32)) K (by decide) dX9_init_335 ?_
  refine Vw.bipush (pc := 336) (v := (109 : Int32)) K (by decide) dX9_init_336 ?_
  obtain ⟨g115, h⟩ := wgd h
  refine Vw.castore (pc := 338) K g112 g115 dX9_init_338 ?_
  refine Vw.dup (pc := 339) K rfl dX9_init_339 ?_
  refine Vw.iconst (pc := 340) (v := (3 : Int32)) K (by decide) dX9_init_340 ?_
  refine Vw.bipush (pc := 341) (v := (101 : Int32)) K (by decide) dX9_init_341 ?_
  obtain ⟨g116, h⟩ := wgd h
  refine Vw.castore (pc := 343) K g112 g116 dX9_init_343 ?_
  refine Vw.dup (pc := 344) K rfl dX9_init_344 ?_
  refine Vw.iconst (pc := 345) (v := (4 : Int32)) K (by decide) dX9_init_345 ?_
  refine Vw.bipush (pc := 346) (v := (115 : Int32)) K (by decide) dX9_init_346 ?_
  obtain ⟨g117, h⟩ := wgd h
  refine Vw.castore (pc := 348) K g112 g117 dX9_init_348 ?_
  refine Vw.dup (pc := 349) K rfl dX9_init_349 ?_
  refine Vw.iconst (pc := 350) (v := (5 : Int32)) K (by decide) dX9_init_350 ?_
  refine Vw.bipush (pc := 351) (v := (105 : Int32)) K (by decide) dX9_init_351 ?_
  obtain ⟨g118, h⟩ := wgd h
  refine Vw.castore (pc := 353) K g112 g118 dX9_init_353 ?_
  refine Vw.dup (pc := 354) K rfl dX9_init_354 ?_
  refine Vw.bipush (pc := 355) (v := (6 : Int32)) K (by decide) dX9_init_355 ?_
  refine Vw.bipush (pc := 357) (v := (116 : Int32)) K (by decide) dX9_init_357 ?_
  obtain ⟨g119, h⟩ := wgd h
  refine Vw.castore (pc := 359) K g112 g119 dX9_init_359 ?_
  refine Vw.dup (pc := 360) K rfl dX9_init_360 ?_
  refine Vw.bipush (pc := 361) (v := (7 : Int32)) K (by decide) dX9_init_361 ?_
  refine Vw.bipush (pc := 363) (v := (101 : Int32)) K (by decide) dX9_init_363 ?_
  obtain ⟨g120, h⟩ := wgd h
  refine Vw.castore (pc := 365) K g112 g120 dX9_init_365 ?_
  obtain ⟨g121, h⟩ := wgd h
  refine Vw.putR (pc := 366) (k := 13) (f := 461) K cls7 rfl rfl u_6_30 g121 (Or.inr ⟨rfl, E.2.2.1, rfl⟩) (wAn _ _) (wAf _ _) dX9_init_366 ?_
  exact Vw.loc rfl (s_X9_init_369 K E  h)
def k_X9_init_269  (A : Hp) (x0 : Nat)  : Option (Hp) := if (hsh (hmk A 9 8) (hsz A)).1 = 9 then if wix (0 : Int32) (hsh (hmk A 9 8) (hsz A)).2 then if wix (1 : Int32) (hsh (hsI (hmk A 9 8) 1033 (hsz A) (0 : Int32).toNatClampNeg (vp_nar .char (104 : Int32))) (hsz A)).2 then if wix (2 : Int32) (hsh (hsI (hsI (hmk A 9 8) 1033 (hsz A) (0 : Int32).toNatClampNeg (vp_nar .char (104 : Int32))) 1033 (hsz A) (1 : Int32).toNatClampNeg (vp_nar .char (116 : Int32))) (hsz A)).2 then if wix (3 : Int32) (hsh (hsI (hsI (hsI (hmk A 9 8) 1033 (hsz A) (0 : Int32).toNatClampNeg (vp_nar .char (104 : Int32))) 1033 (hsz A) (1 : Int32).toNatClampNeg (vp_nar .char (116 : Int32))) 1033 (hsz A) (2 : Int32).toNatClampNeg (vp_nar .char (116 : Int32))) (hsz A)).2 then if wix (4 : Int32) (hsh (hsI (hsI (hsI (hsI (hmk A 9 8) 1033 (hsz A) (0 : Int32).toNatClampNeg (vp_nar .char (104 : Int32))) 1033 (hsz A) (1 : Int32).toNatClampNeg (vp_nar .char (116 : Int32))) 1033 (hsz A) (2 : Int32).toNatClampNeg (vp_nar .char (116 : Int32))) 1033 (hsz A) (3 : Int32).toNatClampNeg (vp_nar .char (112 : Int32))) (hsz A)).2 then if wix (5 : Int32) (hsh (hsI (hsI (hsI (hsI (hsI (hmk A 9 8) 1033 (hsz A) (0 : Int32).toNatClampNeg (vp_nar .char (104 : Int32))) 1033 (hsz A) (1 : Int32).toNatClampNeg (vp_nar .char (116 : Int32))) 1033 (hsz A) (2 : Int32).toNatClampNeg (vp_nar .char (116 : Int32))) 1033 (hsz A) (3 : Int32).toNatClampNeg (vp_nar .char (112 : Int32))) 1033 (hsz A) (4 : Int32).toNatClampNeg (vp_nar .char (111 : Int32))) (hsz A)).2 then if wix (6 : Int32) (hsh (hsI (hsI (hsI (hsI (hsI (hsI (hmk A 9 8) 1033 (hsz A) (0 : Int32).toNatClampNeg (vp_nar .char (104 : Int32))) 1033 (hsz A) (1 : Int32).toNatClampNeg (vp_nar .char (116 : Int32))) 1033 (hsz A) (2 : Int32).toNatClampNeg (vp_nar .char (116 : Int32))) 1033 (hsz A) (3 : Int32).toNatClampNeg (vp_nar .char (112 : Int32))) 1033 (hsz A) (4 : Int32).toNatClampNeg (vp_nar .char (111 : Int32))) 1033 (hsz A) (5 : Int32).toNatClampNeg (vp_nar .char (110 : Int32))) (hsz A)).2 then if wix (7 : Int32) (hsh (hsI (hsI (hsI (hsI (hsI (hsI (hsI (hmk A 9 8) 1033 (hsz A) (0 : Int32).toNatClampNeg (vp_nar .char (104 : Int32))) 1033 (hsz A) (1 : Int32).toNatClampNeg (vp_nar .char (116 : Int32))) 1033 (hsz A) (2 : Int32).toNatClampNeg (vp_nar .char (116 : Int32))) 1033 (hsz A) (3 : Int32).toNatClampNeg (vp_nar .char (112 : Int32))) 1033 (hsz A) (4 : Int32).toNatClampNeg (vp_nar .char (111 : Int32))) 1033 (hsz A) (5 : Int32).toNatClampNeg (vp_nar .char (110 : Int32))) 1033 (hsz A) (6 : Int32).toNatClampNeg (vp_nar .char (108 : Int32))) (hsz A)).2 then if (hsh (hsI (hsI (hsI (hsI (hsI (hsI (hsI (hsI (hmk A 9 8) 1033 (hsz A) (0 : Int32).toNatClampNeg (vp_nar .char (104 : Int32))) 1033 (hsz A) (1 : Int32).toNatClampNeg (vp_nar .char (116 : Int32))) 1033 (hsz A) (2 : Int32).toNatClampNeg (vp_nar .char (116 : Int32))) 1033 (hsz A) (3 : Int32).toNatClampNeg (vp_nar .char (112 : Int32))) 1033 (hsz A) (4 : Int32).toNatClampNeg (vp_nar .char (111 : Int32))) 1033 (hsz A) (5 : Int32).toNatClampNeg (vp_nar .char (110 : Int32))) 1033 (hsz A) (6 : Int32).toNatClampNeg (vp_nar .char (108 : Int32))) 1033 (hsz A) (7 : Int32).toNatClampNeg (vp_nar .char (121 : Int32))) x0).1 = 8 then k_X9_init_319 (hsR (hsI (hsI (hsI (hsI (hsI (hsI (hsI (hsI (hmk A 9 8) 1033 (hsz A) (0 : Int32).toNatClampNeg (vp_nar .char (104 : Int32))) 1033 (hsz A) (1 : Int32).toNatClampNeg (vp_nar .char (116 : Int32))) 1033 (hsz A) (2 : Int32).toNatClampNeg (vp_nar .char (116 : Int32))) 1033 (hsz A) (3 : Int32).toNatClampNeg (vp_nar .char (112 : Int32))) 1033 (hsz A) (4 : Int32).toNatClampNeg (vp_nar .char (111 : Int32))) 1033 (hsz A) (5 : Int32).toNatClampNeg (vp_nar .char (110 : Int32))) 1033 (hsz A) (6 : Int32).toNatClampNeg (vp_nar .char (108 : Int32))) 1033 (hsz A) (7 : Int32).toNatClampNeg (vp_nar .char (121 : Int32))) 460 x0 0 (hsz A)) x0 else none else none else none else none else none else none else none else none else none else none
set_option maxRecDepth 100000 in
theorem s_X9_init_269 {κ : KT} {B : Hp} {A : Hp} {x0 : Nat}   (K : Cx κ cX9_init 1 RX9 1 20 22 25941) (E : Ed κ none "<init>" (.inl none) B 22 25941)  (h : k_X9_init_269  A x0  = some B) : Vw κ A 10 25839 269 [(0, .inr (.inr x0))] [] := by
  unfold k_X9_init_269 at h
  refine Vw.aload_n (pc := 269) (x := x0) K dX9_init_269 rfl ?_
  refine Vw.bipush (pc := 270) (v := (8 : Int32)) K (by decide) dX9_init_270 ?_
  refine Vw.newC_ (pc := 272) (c := 10) (n := 25839) (c' := 11) (n' := 25847) (N := 8) K u_1_56 (by decide) (by decide) (by decide) (by decide) (by decide) dX9_init_272 rfl rfl ?_
  refine Vw.dup (pc := 274) K rfl dX9_init_274 ?_
  refine Vw.iconst (pc := 275) (v := (0 : Int32)) K (by decide) dX9_init_275 ?_
  refine Vw.bipush (pc := 276) (v := (104 : Int32)) K (by decide) dX9_init_276 ?_
  obtain ⟨g122, h⟩ := wgd h
  obtain ⟨g123, h⟩ := wgd h
  refine Vw.castore (pc := 278) K g122 g123 dX9_init_278 ?_
  refine Vw.dup (pc := 279) K rfl dX9_init_279 ?_
  refine Vw.iconst (pc := 280) (v := (1 : Int32)) K (by decide) dX9_init_280 ?_
  refine Vw.bipush (pc := 281) (v := (116 : Int32)) K (by decide) dX9_init_281 ?_
  obtain ⟨g124, h⟩ := wgd h
  refine Vw.castore (pc := 283) K g122 g124 dX9_init_283 ?_
  refine Vw.dup (pc := 284) K rfl dX9_init_284 ?_
  refine Vw.iconst (pc := 285) (v := (2 : Int32)) K (by decide) dX9_init_285 ?_
  refine Vw.bipush (pc := 286) (v := (116 : Int32)) K (by decide) dX9_init_286 ?_
  obtain ⟨g125, h⟩ := wgd h
  refine Vw.castore (pc := 288) K g122 g125 dX9_init_288 ?_
  refine Vw.dup (pc := 289) K rfl dX9_init_289 ?_
  refine Vw.iconst (pc := 290) (v := (3 : Int32)) K (by decide) dX9_init_290 ?_
  refine Vw.bipush (pc := 291) (v := (112 : Int32)) K (by decide) dX9_init_291 ?_
  obtain ⟨g126, h⟩ := wgd h
  refine Vw.castore (pc := 293) K g122 g126 dX9_init_293 ?_
  refine Vw.dup (pc := 294) K rfl dX9_init_294 ?_
  refine Vw.iconst (pc := 295) (v := (4 : Int32)) K (by decide) dX9_init_295 ?_
  refine Vw.bipush (pc := 296) (v := (111 : Int32)) K (by decide) dX9_init_296 ?_
  obtain ⟨g127, h⟩ := wgd h
  refine Vw.castore (pc := 298) K g122 g127 dX9_init_298 ?_
  refine Vw.dup (pc := 299) K rfl dX9_init_299 ?_
  refine Vw.iconst (pc := 300) (v := (5 : Int32)) K (by decide) dX9_init_300 ?_
  refine Vw.bipush (pc := 301) (v := (110 : Int32)) K (by decide) dX9_init_301 ?_
  obtain ⟨g128, h⟩ := wgd h
  refine Vw.castore (pc := 303) K g122 g128 dX9_init_303 ?_
  refine Vw.dup (pc := 304) K rfl dX9_init_304 ?_
  refine Vw.bipush (pc := 305) (v := (6 : Int32)) K (by decide) dX9_init_305 ?_
  refine Vw.bipush (pc := 307) (v := (108 : Int32)) K (by decide) dX9_init_307 ?_
  obtain ⟨g129, h⟩ := wgd h
  refine Vw.castore (pc := 309) K g122 g129 dX9_init_309 ?_
  refine Vw.dup (pc := 310) K rfl dX9_init_310 ?_
  refine Vw.bipush (pc := 311) (v := (7 : Int32)) K (by decide) dX9_init_311 ?_
  refine Vw.bipush (pc := 313) (v := (121 : Int32)) K (by decide) dX9_init_313 ?_
  obtain ⟨g130, h⟩ := wgd h
  refine Vw.castore (pc := 315) K g122 g130 dX9_init_315 ?_
  obtain ⟨g131, h⟩ := wgd h
  refine Vw.putR (pc := 316) (k := 12) (f := 460) K cls7 rfl rfl u_6_29 g131 (Or.inr ⟨rfl, E.2.2.1, rfl⟩) (wAn _ _) (wAf _ _) dX9_init_316 ?_
  exact Vw.loc rfl (s_X9_init_319 K E  h)
def k_X9_init_231  (A : Hp) (x0 : Nat)  : Option (Hp) := if (hsh (hmk A 9 6) (hsz A)).1 = 9 then if wix (0 : Int32) (hsh (hmk A 9 6) (hsz A)).2 then if wix (1 : Int32) (hsh (hsI (hmk A 9 6) 1033 (hsz A) (0 : Int32).toNatClampNeg (vp_nar .char (115 : Int32))) (hsz A)).2 then if wix (2 : Int32) (hsh (hsI (hsI (hmk A 9 6) 1033 (hsz A) (0 : Int32).toNatClampNeg (vp_nar .char (115 : Int32))) 1033 (hsz A) (1 : Int32).toNatClampNeg (vp_nar .char (101 : Int32))) (hsz A)).2 then if wix (3 : Int32) (hsh (hsI (hsI (hsI (hmk A 9 6) 1033 (hsz A) (0 : Int32).toNatClampNeg (vp_nar .char (115 : Int32))) 1033 (hsz A) (1 : Int32).toNatClampNeg (vp_nar .char (101 : Int32))) 1033 (hsz A) (2 : Int32).toNatClampNeg (vp_nar .char (99 : Int32))) (hsz A)).2 then if wix (4 : Int32) (hsh (hsI (hsI (hsI (hsI (hmk A 9 6) 1033 (hsz A) (0 : Int32).toNatClampNeg (vp_nar .char (115 : Int32))) 1033 (hsz A) (1 : Int32).toNatClampNeg (vp_nar .char (101 : Int32))) 1033 (hsz A) (2 : Int32).toNatClampNeg (vp_nar .char (99 : Int32))) 1033 (hsz A) (3 : Int32).toNatClampNeg (vp_nar .char (117 : Int32))) (hsz A)).2 then if wix (5 : Int32) (hsh (hsI (hsI (hsI (hsI (hsI (hmk A 9 6) 1033 (hsz A) (0 : Int32).toNatClampNeg (vp_nar .char (115 : Int32))) 1033 (hsz A) (1 : Int32).toNatClampNeg (vp_nar .char (101 : Int32))) 1033 (hsz A) (2 : Int32).toNatClampNeg (vp_nar .char (99 : Int32))) 1033 (hsz A) (3 : Int32).toNatClampNeg (vp_nar .char (117 : Int32))) 1033 (hsz A) (4 : Int32).toNatClampNeg (vp_nar .char (114 : Int32))) (hsz A)).2 then if (hsh (hsI (hsI (hsI (hsI (hsI (hsI (hmk A 9 6) 1033 (hsz A) (0 : Int32).toNatClampNeg (vp_nar .char (115 : Int32))) 1033 (hsz A) (1 : Int32).toNatClampNeg (vp_nar .char (101 : Int32))) 1033 (hsz A) (2 : Int32).toNatClampNeg (vp_nar .char (99 : Int32))) 1033 (hsz A) (3 : Int32).toNatClampNeg (vp_nar .char (117 : Int32))) 1033 (hsz A) (4 : Int32).toNatClampNeg (vp_nar .char (114 : Int32))) 1033 (hsz A) (5 : Int32).toNatClampNeg (vp_nar .char (101 : Int32))) x0).1 = 8 then k_X9_init_269 (hsR (hsI (hsI (hsI (hsI (hsI (hsI (hmk A 9 6) 1033 (hsz A) (0 : Int32).toNatClampNeg (vp_nar .char (115 : Int32))) 1033 (hsz A) (1 : Int32).toNatClampNeg (vp_nar .char (101 : Int32))) 1033 (hsz A) (2 : Int32).toNatClampNeg (vp_nar .char (99 : Int32))) 1033 (hsz A) (3 : Int32).toNatClampNeg (vp_nar .char (117 : Int32))) 1033 (hsz A) (4 : Int32).toNatClampNeg (vp_nar .char (114 : Int32))) 1033 (hsz A) (5 : Int32).toNatClampNeg (vp_nar .char (101 : Int32))) 459 x0 0 (hsz A)) x0 else none else none else none else none else none else none else none else none
set_option maxRecDepth 100000 in
theorem s_X9_init_231 {κ : KT} {B : Hp} {A : Hp} {x0 : Nat}   (K : Cx κ cX9_init 1 RX9 1 20 22 25941) (E : Ed κ none "<init>" (.inl none) B 22 25941)  (h : k_X9_init_231  A x0  = some B) : Vw κ A 9 25833 231 [(0, .inr (.inr x0))] [] := by
  unfold k_X9_init_231 at h
  refine Vw.aload_n (pc := 231) (x := x0) K dX9_init_231 rfl ?_
  refine Vw.bipush (pc := 232) (v := (6 : Int32)) K (by decide) dX9_init_232 ?_
  refine Vw.newC_ (pc := 234) (c := 9) (n := 25833) (c' := 10) (n' := 25839) (N := 6) K u_1_56 (by decide) (by decide) (by decide) (by decide) (by decide) dX9_init_234 rfl rfl ?_
  refine Vw.dup (pc := 236) K rfl dX9_init_236 ?_
  refine Vw.iconst (pc := 237) (v := (0 : Int32)) K (by decide) dX9_init_237 ?_
  refine Vw.bipush (pc := 238) (v := (115 : Int32)) K (by decide) dX9_init_238 ?_
  obtain ⟨g132, h⟩ := wgd h
  obtain ⟨g133, h⟩ := wgd h
  refine Vw.castore (pc := 240) K g132 g133 dX9_init_240 ?_
  refine Vw.dup (pc := 241) K rfl dX9_init_241 ?_
  refine Vw.iconst (pc := 242) (v := (1 : Int32)) K (by decide) dX9_init_242 ?_
  refine Vw.bipush (pc := 243) (v := (101 : Int32)) K (by decide) dX9_init_243 ?_
  obtain ⟨g134, h⟩ := wgd h
  refine Vw.castore (pc := 245) K g132 g134 dX9_init_245 ?_
  refine Vw.dup (pc := 246) K rfl dX9_init_246 ?_
  refine Vw.iconst (pc := 247) (v := (2 : Int32)) K (by decide) dX9_init_247 ?_
  refine Vw.bipush (pc := 248) (v := (99 : Int32)) K (by decide) dX9_init_248 ?_
  obtain ⟨g135, h⟩ := wgd h
  refine Vw.castore (pc := 250) K g132 g135 dX9_init_250 ?_
  refine Vw.dup (pc := 251) K rfl dX9_init_251 ?_
  refine Vw.iconst (pc := 252) (v := (3 : Int32)) K (by decide) dX9_init_252 ?_
  refine Vw.bipush (pc := 253) (v := (117 : Int32)) K (by decide) dX9_init_253 ?_
  obtain ⟨g136, h⟩ := wgd h
  refine Vw.castore (pc := 255) K g132 g136 dX9_init_255 ?_
  refine Vw.dup (pc := 256) K rfl dX9_init_256 ?_
  refine Vw.iconst (pc := 257) (v := (4 : Int32)) K (by decide) dX9_init_257 ?_
  refine Vw.bipush (pc := 258) (v := (114 : Int32)) K (by decide) dX9_init_258 ?_
  obtain ⟨g137, h⟩ := wgd h
  refine Vw.castore (pc := 260) K g132 g137 dX9_init_260 ?_
  refine Vw.dup (pc := 261) K rfl dX9_init_261 ?_
  refine Vw.iconst (pc := 262) (v := (5 : Int32)) K (by decide) dX9_init_262 ?_
  refine Vw.bipush (pc := 263) (v := (101 : Int32)) K (by decide) dX9_init_263 ?_
  obtain ⟨g138, h⟩ := wgd h
  refine Vw.castore (pc := 265) K g132 g138 dX9_init_265 ?_
  obtain ⟨g139, h⟩ := wgd h
  refine Vw.putR (pc := 266) (k := 11) (f := 459) K cls7 rfl rfl u_6_28 g139 (Or.inr ⟨rfl, E.2.2.1, rfl⟩) (wAn _ _) (wAf _ _) dX9_init_266 ?_
  exact Vw.loc rfl (s_X9_init_269 K E  h)
def k_X9_init_204  (A : Hp) (x0 : Nat)  : Option (Hp) := if (hsh (hmk A 9 4) (hsz A)).1 = 9 then if wix (0 : Int32) (hsh (hmk A 9 4) (hsz A)).2 then if wix (1 : Int32) (hsh (hsI (hmk A 9 4) 1033 (hsz A) (0 : Int32).toNatClampNeg (vp_nar .char (112 : Int32))) (hsz A)).2 then if wix (2 : Int32) (hsh (hsI (hsI (hmk A 9 4) 1033 (hsz A) (0 : Int32).toNatClampNeg (vp_nar .char (112 : Int32))) 1033 (hsz A) (1 : Int32).toNatClampNeg (vp_nar .char (97 : Int32))) (hsz A)).2 then if wix (3 : Int32) (hsh (hsI (hsI (hsI (hmk A 9 4) 1033 (hsz A) (0 : Int32).toNatClampNeg (vp_nar .char (112 : Int32))) 1033 (hsz A) (1 : Int32).toNatClampNeg (vp_nar .char (97 : Int32))) 1033 (hsz A) (2 : Int32).toNatClampNeg (vp_nar .char (116 : Int32))) (hsz A)).2 then if (hsh (hsI (hsI (hsI (hsI (hmk A 9 4) 1033 (hsz A) (0 : Int32).toNatClampNeg (vp_nar .char (112 : Int32))) 1033 (hsz A) (1 : Int32).toNatClampNeg (vp_nar .char (97 : Int32))) 1033 (hsz A) (2 : Int32).toNatClampNeg (vp_nar .char (116 : Int32))) 1033 (hsz A) (3 : Int32).toNatClampNeg (vp_nar .char (104 : Int32))) x0).1 = 8 then k_X9_init_231 (hsR (hsI (hsI (hsI (hsI (hmk A 9 4) 1033 (hsz A) (0 : Int32).toNatClampNeg (vp_nar .char (112 : Int32))) 1033 (hsz A) (1 : Int32).toNatClampNeg (vp_nar .char (97 : Int32))) 1033 (hsz A) (2 : Int32).toNatClampNeg (vp_nar .char (116 : Int32))) 1033 (hsz A) (3 : Int32).toNatClampNeg (vp_nar .char (104 : Int32))) 458 x0 0 (hsz A)) x0 else none else none else none else none else none else none
set_option maxRecDepth 100000 in
theorem s_X9_init_204 {κ : KT} {B : Hp} {A : Hp} {x0 : Nat}   (K : Cx κ cX9_init 1 RX9 1 20 22 25941) (E : Ed κ none "<init>" (.inl none) B 22 25941)  (h : k_X9_init_204  A x0  = some B) : Vw κ A 8 25829 204 [(0, .inr (.inr x0))] [] := by
  unfold k_X9_init_204 at h
  refine Vw.aload_n (pc := 204) (x := x0) K dX9_init_204 rfl ?_
  refine Vw.iconst (pc := 205) (v := (4 : Int32)) K (by decide) dX9_init_205 ?_
  refine Vw.newC_ (pc := 206) (c := 8) (n := 25829) (c' := 9) (n' := 25833) (N := 4) K u_1_56 (by decide) (by decide) (by decide) (by decide) (by decide) dX9_init_206 rfl rfl ?_
  refine Vw.dup (pc := 208) K rfl dX9_init_208 ?_
  refine Vw.iconst (pc := 209) (v := (0 : Int32)) K (by decide) dX9_init_209 ?_
  refine Vw.bipush (pc := 210) (v := (112 : Int32)) K (by decide) dX9_init_210 ?_
  obtain ⟨g140, h⟩ := wgd h
  obtain ⟨g141, h⟩ := wgd h
  refine Vw.castore (pc := 212) K g140 g141 dX9_init_212 ?_
  refine Vw.dup (pc := 213) K rfl dX9_init_213 ?_
  refine Vw.iconst (pc := 214) (v := (1 : Int32)) K (by decide) dX9_init_214 ?_
  refine Vw.bipush (pc := 215) (v := (97 : Int32)) K (by decide) dX9_init_215 ?_
  obtain ⟨g142, h⟩ := wgd h
  refine Vw.castore (pc := 217) K g140 g142 dX9_init_217 ?_
  refine Vw.dup (pc := 218) K rfl dX9_init_218 ?_
  refine Vw.iconst (pc := 219) (v := (2 : Int32)) K (by decide) dX9_init_219 ?_
  refine Vw.bipush (pc := 220) (v := (116 : Int32)) K (by decide) dX9_init_220 ?_
  obtain ⟨g143, h⟩ := wgd h
  refine Vw.castore (pc := 222) K g140 g143 dX9_init_222 ?_
  refine Vw.dup (pc := 223) K rfl dX9_init_223 ?_
  refine Vw.iconst (pc := 224) (v := (3 : Int32)) K (by decide) dX9_init_224 ?_
  refine Vw.bipush (pc := 225) (v := (104 : Int32)) K (by decide) dX9_init_225 ?_
  obtain ⟨g144, h⟩ := wgd h
  refine Vw.castore (pc := 227) K g140 g144 dX9_init_227 ?_
  obtain ⟨g145, h⟩ := wgd h
  refine Vw.putR (pc := 228) (k := 10) (f := 458) K cls7 rfl rfl u_6_27 g145 (Or.inr ⟨rfl, E.2.2.1, rfl⟩) (wAn _ _) (wAf _ _) dX9_init_228 ?_
  exact Vw.loc rfl (s_X9_init_231 K E  h)
def k_X9_init_166  (A : Hp) (x0 : Nat)  : Option (Hp) := if (hsh (hmk A 9 6) (hsz A)).1 = 9 then if wix (0 : Int32) (hsh (hmk A 9 6) (hsz A)).2 then if wix (1 : Int32) (hsh (hsI (hmk A 9 6) 1033 (hsz A) (0 : Int32).toNatClampNeg (vp_nar .char (100 : Int32))) (hsz A)).2 then if wix (2 : Int32) (hsh (hsI (hsI (hmk A 9 6) 1033 (hsz A) (0 : Int32).toNatClampNeg (vp_nar .char (100 : Int32))) 1033 (hsz A) (1 : Int32).toNatClampNeg (vp_nar .char (111 : Int32))) (hsz A)).2 then if wix (3 : Int32) (hsh (hsI (hsI (hsI (hmk A 9 6) 1033 (hsz A) (0 : Int32).toNatClampNeg (vp_nar .char (100 : Int32))) 1033 (hsz A) (1 : Int32).toNatClampNeg (vp_nar .char (111 : Int32))) 1033 (hsz A) (2 : Int32).toNatClampNeg (vp_nar .char (109 : Int32))) (hsz A)).2 then if wix (4 : Int32) (hsh (hsI (hsI (hsI (hsI (hmk A 9 6) 1033 (hsz A) (0 : Int32).toNatClampNeg (vp_nar .char (100 : Int32))) 1033 (hsz A) (1 : Int32).toNatClampNeg (vp_nar .char (111 : Int32))) 1033 (hsz A) (2 : Int32).toNatClampNeg (vp_nar .char (109 : Int32))) 1033 (hsz A) (3 : Int32).toNatClampNeg (vp_nar .char (97 : Int32))) (hsz A)).2 then if wix (5 : Int32) (hsh (hsI (hsI (hsI (hsI (hsI (hmk A 9 6) 1033 (hsz A) (0 : Int32).toNatClampNeg (vp_nar .char (100 : Int32))) 1033 (hsz A) (1 : Int32).toNatClampNeg (vp_nar .char (111 : Int32))) 1033 (hsz A) (2 : Int32).toNatClampNeg (vp_nar .char (109 : Int32))) 1033 (hsz A) (3 : Int32).toNatClampNeg (vp_nar .char (97 : Int32))) 1033 (hsz A) (4 : Int32).toNatClampNeg (vp_nar .char (105 : Int32))) (hsz A)).2 then if (hsh (hsI (hsI (hsI (hsI (hsI (hsI (hmk A 9 6) 1033 (hsz A) (0 : Int32).toNatClampNeg (vp_nar .char (100 : Int32))) 1033 (hsz A) (1 : Int32).toNatClampNeg (vp_nar .char (111 : Int32))) 1033 (hsz A) (2 : Int32).toNatClampNeg (vp_nar .char (109 : Int32))) 1033 (hsz A) (3 : Int32).toNatClampNeg (vp_nar .char (97 : Int32))) 1033 (hsz A) (4 : Int32).toNatClampNeg (vp_nar .char (105 : Int32))) 1033 (hsz A) (5 : Int32).toNatClampNeg (vp_nar .char (110 : Int32))) x0).1 = 8 then k_X9_init_204 (hsR (hsI (hsI (hsI (hsI (hsI (hsI (hmk A 9 6) 1033 (hsz A) (0 : Int32).toNatClampNeg (vp_nar .char (100 : Int32))) 1033 (hsz A) (1 : Int32).toNatClampNeg (vp_nar .char (111 : Int32))) 1033 (hsz A) (2 : Int32).toNatClampNeg (vp_nar .char (109 : Int32))) 1033 (hsz A) (3 : Int32).toNatClampNeg (vp_nar .char (97 : Int32))) 1033 (hsz A) (4 : Int32).toNatClampNeg (vp_nar .char (105 : Int32))) 1033 (hsz A) (5 : Int32).toNatClampNeg (vp_nar .char (110 : Int32))) 457 x0 0 (hsz A)) x0 else none else none else none else none else none else none else none else none
set_option maxRecDepth 100000 in
theorem s_X9_init_166 {κ : KT} {B : Hp} {A : Hp} {x0 : Nat}   (K : Cx κ cX9_init 1 RX9 1 20 22 25941) (E : Ed κ none "<init>" (.inl none) B 22 25941)  (h : k_X9_init_166  A x0  = some B) : Vw κ A 7 25823 166 [(0, .inr (.inr x0))] [] := by
  unfold k_X9_init_166 at h
  refine Vw.aload_n (pc := 166) (x := x0) K dX9_init_166 rfl ?_
  refine Vw.bipush (pc := 167) (v := (6 : Int32)) K (by decide) dX9_init_167 ?_
  refine Vw.newC_ (pc := 169) (c := 7) (n := 25823) (c' := 8) (n' := 25829) (N := 6) K u_1_56 (by decide) (by decide) (by decide) (by decide) (by decide) dX9_init_169 rfl rfl ?_
  refine Vw.dup (pc := 171) K rfl dX9_init_171 ?_
  refine Vw.iconst (pc := 172) (v := (0 : Int32)) K (by decide) dX9_init_172 ?_
  refine Vw.bipush (pc := 173) (v := (100 : Int32)) K (by decide) dX9_init_173 ?_
  obtain ⟨g146, h⟩ := wgd h
  obtain ⟨g147, h⟩ := wgd h
  refine Vw.castore (pc := 175) K g146 g147 dX9_init_175 ?_
  refine Vw.dup (pc := 176) K rfl dX9_init_176 ?_
  refine Vw.iconst (pc := 177) (v := (1 : Int32)) K (by decide) dX9_init_177 ?_
  refine Vw.bipush (pc := 178) (v := (111 : Int32)) K (by decide) dX9_init_178 ?_
  obtain ⟨g148, h⟩ := wgd h
  refine Vw.castore (pc := 180) K g146 g148 dX9_init_180 ?_
  refine Vw.dup (pc := 181) K rfl dX9_init_181 ?_
  refine Vw.iconst (pc := 182) (v := (2 : Int32)) K (by decide) dX9_init_182 ?_
  refine Vw.bipush (pc := 183) (v := (109 : Int32)) K (by decide) dX9_init_183 ?_
  obtain ⟨g149, h⟩ := wgd h
  refine Vw.castore (pc := 185) K g146 g149 dX9_init_185 ?_
  refine Vw.dup (pc := 186) K rfl dX9_init_186 ?_
  refine Vw.iconst (pc := 187) (v := (3 : Int32)) K (by decide) dX9_init_187 ?_
  refine Vw.bipush (pc := 188) (v := (97 : Int32)) K (by decide) dX9_init_188 ?_
  obtain ⟨g150, h⟩ := wgd h
  refine Vw.castore (pc := 190) K g146 g150 dX9_init_190 ?_
  refine Vw.dup (pc := 191) K rfl dX9_init_191 ?_
  refine Vw.iconst (pc := 192) (v := (4 : Int32)) K (by decide) dX9_init_192 ?_
  refine Vw.bipush (pc := 193) (v := (105 : Int32)) K (by decide) dX9_init_193 ?_
  obtain ⟨g151, h⟩ := wgd h
  refine Vw.castore (pc := 195) K g146 g151 dX9_init_195 ?_
  refine Vw.dup (pc := 196) K rfl dX9_init_196 ?_
  refine Vw.iconst (pc := 197) (v := (5 : Int32)) K (by decide) dX9_init_197 ?_
  refine Vw.bipush (pc := 198) (v := (110 : Int32)) K (by decide) dX9_init_198 ?_
  obtain ⟨g152, h⟩ := wgd h
  refine Vw.castore (pc := 200) K g146 g152 dX9_init_200 ?_
  obtain ⟨g153, h⟩ := wgd h
  refine Vw.putR (pc := 201) (k := 9) (f := 457) K cls7 rfl rfl u_6_26 g153 (Or.inr ⟨rfl, E.2.2.1, rfl⟩) (wAn _ _) (wAf _ _) dX9_init_201 ?_
  exact Vw.loc rfl (s_X9_init_204 K E  h)
def k_X9_init_122  (A : Hp) (x0 : Nat)  : Option (Hp) := if (hsh (hmk A 9 7) (hsz A)).1 = 9 then if wix (0 : Int32) (hsh (hmk A 9 7) (hsz A)).2 then if wix (1 : Int32) (hsh (hsI (hmk A 9 7) 1033 (hsz A) (0 : Int32).toNatClampNeg (vp_nar .char (109 : Int32))) (hsz A)).2 then if wix (2 : Int32) (hsh (hsI (hsI (hmk A 9 7) 1033 (hsz A) (0 : Int32).toNatClampNeg (vp_nar .char (109 : Int32))) 1033 (hsz A) (1 : Int32).toNatClampNeg (vp_nar .char (97 : Int32))) (hsz A)).2 then if wix (3 : Int32) (hsh (hsI (hsI (hsI (hmk A 9 7) 1033 (hsz A) (0 : Int32).toNatClampNeg (vp_nar .char (109 : Int32))) 1033 (hsz A) (1 : Int32).toNatClampNeg (vp_nar .char (97 : Int32))) 1033 (hsz A) (2 : Int32).toNatClampNeg (vp_nar .char (120 : Int32))) (hsz A)).2 then if wix (4 : Int32) (hsh (hsI (hsI (hsI (hsI (hmk A 9 7) 1033 (hsz A) (0 : Int32).toNatClampNeg (vp_nar .char (109 : Int32))) 1033 (hsz A) (1 : Int32).toNatClampNeg (vp_nar .char (97 : Int32))) 1033 (hsz A) (2 : Int32).toNatClampNeg (vp_nar .char (120 : Int32))) 1033 (hsz A) (3 : Int32).toNatClampNeg (vp_nar .char (45 : Int32))) (hsz A)).2 then if wix (5 : Int32) (hsh (hsI (hsI (hsI (hsI (hsI (hmk A 9 7) 1033 (hsz A) (0 : Int32).toNatClampNeg (vp_nar .char (109 : Int32))) 1033 (hsz A) (1 : Int32).toNatClampNeg (vp_nar .char (97 : Int32))) 1033 (hsz A) (2 : Int32).toNatClampNeg (vp_nar .char (120 : Int32))) 1033 (hsz A) (3 : Int32).toNatClampNeg (vp_nar .char (45 : Int32))) 1033 (hsz A) (4 : Int32).toNatClampNeg (vp_nar .char (97 : Int32))) (hsz A)).2 then if wix (6 : Int32) (hsh (hsI (hsI (hsI (hsI (hsI (hsI (hmk A 9 7) 1033 (hsz A) (0 : Int32).toNatClampNeg (vp_nar .char (109 : Int32))) 1033 (hsz A) (1 : Int32).toNatClampNeg (vp_nar .char (97 : Int32))) 1033 (hsz A) (2 : Int32).toNatClampNeg (vp_nar .char (120 : Int32))) 1033 (hsz A) (3 : Int32).toNatClampNeg (vp_nar .char (45 : Int32))) 1033 (hsz A) (4 : Int32).toNatClampNeg (vp_nar .char (97 : Int32))) 1033 (hsz A) (5 : Int32).toNatClampNeg (vp_nar .char (103 : Int32))) (hsz A)).2 then if (hsh (hsI (hsI (hsI (hsI (hsI (hsI (hsI (hmk A 9 7) 1033 (hsz A) (0 : Int32).toNatClampNeg (vp_nar .char (109 : Int32))) 1033 (hsz A) (1 : Int32).toNatClampNeg (vp_nar .char (97 : Int32))) 1033 (hsz A) (2 : Int32).toNatClampNeg (vp_nar .char (120 : Int32))) 1033 (hsz A) (3 : Int32).toNatClampNeg (vp_nar .char (45 : Int32))) 1033 (hsz A) (4 : Int32).toNatClampNeg (vp_nar .char (97 : Int32))) 1033 (hsz A) (5 : Int32).toNatClampNeg (vp_nar .char (103 : Int32))) 1033 (hsz A) (6 : Int32).toNatClampNeg (vp_nar .char (101 : Int32))) x0).1 = 8 then k_X9_init_166 (hsR (hsI (hsI (hsI (hsI (hsI (hsI (hsI (hmk A 9 7) 1033 (hsz A) (0 : Int32).toNatClampNeg (vp_nar .char (109 : Int32))) 1033 (hsz A) (1 : Int32).toNatClampNeg (vp_nar .char (97 : Int32))) 1033 (hsz A) (2 : Int32).toNatClampNeg (vp_nar .char (120 : Int32))) 1033 (hsz A) (3 : Int32).toNatClampNeg (vp_nar .char (45 : Int32))) 1033 (hsz A) (4 : Int32).toNatClampNeg (vp_nar .char (97 : Int32))) 1033 (hsz A) (5 : Int32).toNatClampNeg (vp_nar .char (103 : Int32))) 1033 (hsz A) (6 : Int32).toNatClampNeg (vp_nar .char (101 : Int32))) 456 x0 0 (hsz A)) x0 else none else none else none else none else none else none else none else none else none
set_option maxRecDepth 100000 in
theorem s_X9_init_122 {κ : KT} {B : Hp} {A : Hp} {x0 : Nat}   (K : Cx κ cX9_init 1 RX9 1 20 22 25941) (E : Ed κ none "<init>" (.inl none) B 22 25941)  (h : k_X9_init_122  A x0  = some B) : Vw κ A 6 25816 122 [(0, .inr (.inr x0))] [] := by
  unfold k_X9_init_122 at h
  refine Vw.aload_n (pc := 122) (x := x0) K dX9_init_122 rfl ?_
  refine Vw.bipush (pc := 123) (v := (7 : Int32)) K (by decide) dX9_init_123 ?_
  refine Vw.newC_ (pc := 125) (c := 6) (n := 25816) (c' := 7) (n' := 25823) (N := 7) K u_1_56 (by decide) (by decide) (by decide) (by decide) (by decide) dX9_init_125 rfl rfl ?_
  refine Vw.dup (pc := 127) K rfl dX9_init_127 ?_
  refine Vw.iconst (pc := 128) (v := (0 : Int32)) K (by decide) dX9_init_128 ?_
  refine Vw.bipush (pc := 129) (v := (109 : Int32)) K (by decide) dX9_init_129 ?_
  obtain ⟨g154, h⟩ := wgd h
  obtain ⟨g155, h⟩ := wgd h
  refine Vw.castore (pc := 131) K g154 g155 dX9_init_131 ?_
  refine Vw.dup (pc := 132) K rfl dX9_init_132 ?_
  refine Vw.iconst (pc := 133) (v := (1 : Int32)) K (by decide) dX9_init_133 ?_
  refine Vw.bipush (pc := 134) (v := (97 : Int32)) K (by decide) dX9_init_134 ?_
  obtain ⟨g156, h⟩ := wgd h
  refine Vw.castore (pc := 136) K g154 g156 dX9_init_136 ?_
  refine Vw.dup (pc := 137) K rfl dX9_init_137 ?_
  refine Vw.iconst (pc := 138) (v := (2 : Int32)) K (by decide) dX9_init_138 ?_
  refine Vw.bipush (pc := 139) (v := (120 : Int32)) K (by decide) dX9_init_139 ?_
  obtain ⟨g157, h⟩ := wgd h
  refine Vw.castore (pc := 141) K g154 g157 dX9_init_141 ?_
  refine Vw.dup (pc := 142) K rfl dX9_init_142 ?_
  refine Vw.iconst (pc := 143) (v := (3 : Int32)) K (by decide) dX9_init_143 ?_
  refine Vw.bipush (pc := 144) (v := (45 : Int32)) K (by decide) dX9_init_144 ?_
  obtain ⟨g158, h⟩ := wgd h
  refine Vw.castore (pc := 146) K g154 g158 dX9_init_146 ?_
  refine Vw.dup (pc := 147) K rfl dX9_init_147 ?_
  refine Vw.iconst (pc := 148) (v := (4 : Int32)) K (by decide) dX9_init_148 ?_
  refine Vw.bipush (pc := 149) (v := (97 : Int32)) K (by decide) dX9_init_149 ?_
  obtain ⟨g159, h⟩ := wgd h
  refine Vw.castore (pc := 151) K g154 g159 dX9_init_151 ?_
  refine Vw.dup (pc := 152) K rfl dX9_init_152 ?_
  refine Vw.iconst (pc := 153) (v := (5 : Int32)) K (by decide) dX9_init_153 ?_
  refine Vw.bipush (pc := 154) (v := (103 : Int32)) K (by decide) dX9_init_154 ?_
  obtain ⟨g160, h⟩ := wgd h
  refine Vw.castore (pc := 156) K g154 g160 dX9_init_156 ?_
  refine Vw.dup (pc := 157) K rfl dX9_init_157 ?_
  refine Vw.bipush (pc := 158) (v := (6 : Int32)) K (by decide) dX9_init_158 ?_
  refine Vw.bipush (pc := 160) (v := (101 : Int32)) K (by decide) dX9_init_160 ?_
  obtain ⟨g161, h⟩ := wgd h
  refine Vw.castore (pc := 162) K g154 g161 dX9_init_162 ?_
  obtain ⟨g162, h⟩ := wgd h
  refine Vw.putR (pc := 163) (k := 8) (f := 456) K cls7 rfl rfl u_6_25 g162 (Or.inr ⟨rfl, E.2.2.1, rfl⟩) (wAn _ _) (wAf _ _) dX9_init_163 ?_
  exact Vw.loc rfl (s_X9_init_166 K E  h)
def k_X9_init_56  (A : Hp) (x0 : Nat)  : Option (Hp) := if (hsh (hmk A 9 3) (hsz A)).1 = 9 then if wix (0 : Int32) (hsh (hmk A 9 3) (hsz A)).2 then if wix (1 : Int32) (hsh (hsI (hmk A 9 3) 1033 (hsz A) (0 : Int32).toNatClampNeg (vp_nar .char (58 : Int32))) (hsz A)).2 then if wix (2 : Int32) (hsh (hsI (hsI (hmk A 9 3) 1033 (hsz A) (0 : Int32).toNatClampNeg (vp_nar .char (58 : Int32))) 1033 (hsz A) (1 : Int32).toNatClampNeg (vp_nar .char (47 : Int32))) (hsz A)).2 then if (hsh (hsI (hsI (hsI (hmk A 9 3) 1033 (hsz A) (0 : Int32).toNatClampNeg (vp_nar .char (58 : Int32))) 1033 (hsz A) (1 : Int32).toNatClampNeg (vp_nar .char (47 : Int32))) 1033 (hsz A) (2 : Int32).toNatClampNeg (vp_nar .char (47 : Int32))) x0).1 = 8 then if (hsh (hmk (hsR (hsI (hsI (hsI (hmk A 9 3) 1033 (hsz A) (0 : Int32).toNatClampNeg (vp_nar .char (58 : Int32))) 1033 (hsz A) (1 : Int32).toNatClampNeg (vp_nar .char (47 : Int32))) 1033 (hsz A) (2 : Int32).toNatClampNeg (vp_nar .char (47 : Int32))) 454 x0 0 (hsz A)) 9 7) (hsz (hsR (hsI (hsI (hsI (hmk A 9 3) 1033 (hsz A) (0 : Int32).toNatClampNeg (vp_nar .char (58 : Int32))) 1033 (hsz A) (1 : Int32).toNatClampNeg (vp_nar .char (47 : Int32))) 1033 (hsz A) (2 : Int32).toNatClampNeg (vp_nar .char (47 : Int32))) 454 x0 0 (hsz A)))).1 = 9 then if wix (0 : Int32) (hsh (hmk (hsR (hsI (hsI (hsI (hmk A 9 3) 1033 (hsz A) (0 : Int32).toNatClampNeg (vp_nar .char (58 : Int32))) 1033 (hsz A) (1 : Int32).toNatClampNeg (vp_nar .char (47 : Int32))) 1033 (hsz A) (2 : Int32).toNatClampNeg (vp_nar .char (47 : Int32))) 454 x0 0 (hsz A)) 9 7) (hsz (hsR (hsI (hsI (hsI (hmk A 9 3) 1033 (hsz A) (0 : Int32).toNatClampNeg (vp_nar .char (58 : Int32))) 1033 (hsz A) (1 : Int32).toNatClampNeg (vp_nar .char (47 : Int32))) 1033 (hsz A) (2 : Int32).toNatClampNeg (vp_nar .char (47 : Int32))) 454 x0 0 (hsz A)))).2 then if wix (1 : Int32) (hsh (hsI (hmk (hsR (hsI (hsI (hsI (hmk A 9 3) 1033 (hsz A) (0 : Int32).toNatClampNeg (vp_nar .char (58 : Int32))) 1033 (hsz A) (1 : Int32).toNatClampNeg (vp_nar .char (47 : Int32))) 1033 (hsz A) (2 : Int32).toNatClampNeg (vp_nar .char (47 : Int32))) 454 x0 0 (hsz A)) 9 7) 1033 (hsz (hsR (hsI (hsI (hsI (hmk A 9 3) 1033 (hsz A) (0 : Int32).toNatClampNeg (vp_nar .char (58 : Int32))) 1033 (hsz A) (1 : Int32).toNatClampNeg (vp_nar .char (47 : Int32))) 1033 (hsz A) (2 : Int32).toNatClampNeg (vp_nar .char (47 : Int32))) 454 x0 0 (hsz A))) (0 : Int32).toNatClampNeg (vp_nar .char (101 : Int32))) (hsz (hsR (hsI (hsI (hsI (hmk A 9 3) 1033 (hsz A) (0 : Int32).toNatClampNeg (vp_nar .char (58 : Int32))) 1033 (hsz A) (1 : Int32).toNatClampNeg (vp_nar .char (47 : Int32))) 1033 (hsz A) (2 : Int32).toNatClampNeg (vp_nar .char (47 : Int32))) 454 x0 0 (hsz A)))).2 then if wix (2 : Int32) (hsh (hsI (hsI (hmk (hsR (hsI (hsI (hsI (hmk A 9 3) 1033 (hsz A) (0 : Int32).toNatClampNeg (vp_nar .char (58 : Int32))) 1033 (hsz A) (1 : Int32).toNatClampNeg (vp_nar .char (47 : Int32))) 1033 (hsz A) (2 : Int32).toNatClampNeg (vp_nar .char (47 : Int32))) 454 x0 0 (hsz A)) 9 7) 1033 (hsz (hsR (hsI (hsI (hsI (hmk A 9 3) 1033 (hsz A) (0 : Int32).toNatClampNeg (vp_nar .char (58 : Int32))) 1033 (hsz A) (1 : Int32).toNatClampNeg (vp_nar .char (47 : Int32))) 1033 (hsz A) (2 : Int32).toNatClampNeg (vp_nar .char (47 : Int32))) 454 x0 0 (hsz A))) (0 : Int32).toNatClampNeg (vp_nar .char (101 : Int32))) 1033 (hsz (hsR (hsI (hsI (hsI (hmk A 9 3) 1033 (hsz A) (0 : Int32).toNatClampNeg (vp_nar .char (58 : Int32))) 1033 (hsz A) (1 : Int32).toNatClampNeg (vp_nar .char (47 : Int32))) 1033 (hsz A) (2 : Int32).toNatClampNeg (vp_nar .char (47 : Int32))) 454 x0 0 (hsz A))) (1 : Int32).toNatClampNeg (vp_nar .char (120 : Int32))) (hsz (hsR (hsI (hsI (hsI (hmk A 9 3) 1033 (hsz A) (0 : Int32).toNatClampNeg (vp_nar .char (58 : Int32))) 1033 (hsz A) (1 : Int32).toNatClampNeg (vp_nar .char (47 : Int32))) 1033 (hsz A) (2 : Int32).toNatClampNeg (vp_nar .char (47 : Int32))) 454 x0 0 (hsz A)))).2 then if wix (3 : Int32) (hsh (hsI (hsI (hsI (hmk (hsR (hsI (hsI (hsI (hmk A 9 3) 1033 (hsz A) (0 : Int32).toNatClampNeg (vp_nar .char (58 : Int32))) 1033 (hsz A) (1 : Int32).toNatClampNeg (vp_nar .char (47 : Int32))) 1033 (hsz A) (2 : Int32).toNatClampNeg (vp_nar .char (47 : Int32))) 454 x0 0 (hsz A)) 9 7) 1033 (hsz (hsR (hsI (hsI (hsI (hmk A 9 3) 1033 (hsz A) (0 : Int32).toNatClampNeg (vp_nar .char (58 : Int32))) 1033 (hsz A) (1 : Int32).toNatClampNeg (vp_nar .char (47 : Int32))) 1033 (hsz A) (2 : Int32).toNatClampNeg (vp_nar .char (47 : Int32))) 454 x0 0 (hsz A))) (0 : Int32).toNatClampNeg (vp_nar .char (101 : Int32))) 1033 (hsz (hsR (hsI (hsI (hsI (hmk A 9 3) 1033 (hsz A) (0 : Int32).toNatClampNeg (vp_nar .char (58 : Int32))) 1033 (hsz A) (1 : Int32).toNatClampNeg (vp_nar .char (47 : Int32))) 1033 (hsz A) (2 : Int32).toNatClampNeg (vp_nar .char (47 : Int32))) 454 x0 0 (hsz A))) (1 : Int32).toNatClampNeg (vp_nar .char (120 : Int32))) 1033 (hsz (hsR (hsI (hsI (hsI (hmk A 9 3) 1033 (hsz A) (0 : Int32).toNatClampNeg (vp_nar .char (58 : Int32))) 1033 (hsz A) (1 : Int32).toNatClampNeg (vp_nar .char (47 : Int32))) 1033 (hsz A) (2 : Int32).toNatClampNeg (vp_nar .char (47 : Int32))) 454 x0 0 (hsz A))) (2 : Int32).toNatClampNeg (vp_nar .char (112 : Int32))) (hsz (hsR (hsI (hsI (hsI (hmk A 9 3) 1033 (hsz A) (0 : Int32).toNatClampNeg (vp_nar .char (58 : Int32))) 1033 (hsz A) (1 : Int32).toNatClampNeg (vp_nar .char (47 : Int32))) 1033 (hsz A) (2 : Int32).toNatClampNeg (vp_nar .char (47 : Int32))) 454 x0 0 (hsz A)))).2 then if wix (4 : Int32) (hsh (hsI (hsI (hsI (hsI (hmk (hsR (hsI (hsI (hsI (hmk A 9 3) 1033 (hsz A) (0 : Int32).toNatClampNeg (vp_nar .char (58 : Int32))) 1033 (hsz A) (1 : Int32).toNatClampNeg (vp_nar .char (47 : Int32))) 1033 (hsz A) (2 : Int32).toNatClampNeg (vp_nar .char (47 : Int32))) 454 x0 0 (hsz A)) 9 7) 1033 (hsz (hsR (hsI (hsI (hsI (hmk A 9 3) 1033 (hsz A) (0 : Int32).toNatClampNeg (vp_nar .char (58 : Int32))) 1033 (hsz A) (1 : Int32).toNatClampNeg (vp_nar .char (47 : Int32))) 1033 (hsz A) (2 : Int32).toNatClampNeg (vp_nar .char (47 : Int32))) 454 x0 0 (hsz A))) (0 : Int32).toNatClampNeg (vp_nar .char (101 : Int32))) 1033 (hsz (hsR (hsI (hsI (hsI (hmk A 9 3) 1033 (hsz A) (0 : Int32).toNatClampNeg (vp_nar .char (58 : Int32))) 1033 (hsz A) (1 : Int32).toNatClampNeg (vp_nar .char (47 : Int32))) 1033 (hsz A) (2 : Int32).toNatClampNeg (vp_nar .char (47 : Int32))) 454 x0 0 (hsz A))) (1 : Int32).toNatClampNeg (vp_nar .char (120 : Int32))) 1033 (hsz (hsR (hsI (hsI (hsI (hmk A 9 3) 1033 (hsz A) (0 : Int32).toNatClampNeg (vp_nar .char (58 : Int32))) 1033 (hsz A) (1 : Int32).toNatClampNeg (vp_nar .char (47 : Int32))) 1033 (hsz A) (2 : Int32).toNatClampNeg (vp_nar .char (47 : Int32))) 454 x0 0 (hsz A))) (2 : Int32).toNatClampNeg (vp_nar .char (112 : Int32))) 1033 (hsz (hsR (hsI (hsI (hsI (hmk A 9 3) 1033 (hsz A) (0 : Int32).toNatClampNeg (vp_nar .char (58 : Int32))) 1033 (hsz A) (1 : Int32).toNatClampNeg (vp_nar .char (47 : Int32))) 1033 (hsz A) (2 : Int32).toNatClampNeg (vp_nar .char (47 : Int32))) 454 x0 0 (hsz A))) (3 : Int32).toNatClampNeg (vp_nar .char (105 : Int32))) (hsz (hsR (hsI (hsI (hsI (hmk A 9 3) 1033 (hsz A) (0 : Int32).toNatClampNeg (vp_nar .char (58 : Int32))) 1033 (hsz A) (1 : Int32).toNatClampNeg (vp_nar .char (47 : Int32))) 1033 (hsz A) (2 : Int32).toNatClampNeg (vp_nar .char (47 : Int32))) 454 x0 0 (hsz A)))).2 then if wix (5 : Int32) (hsh (hsI (hsI (hsI (hsI (hsI (hmk (hsR (hsI (hsI (hsI (hmk A 9 3) 1033 (hsz A) (0 : Int32).toNatClampNeg (vp_nar .char (58 : Int32))) 1033 (hsz A) (1 : Int32).toNatClampNeg (vp_nar .char (47 : Int32))) 1033 (hsz A) (2 : Int32).toNatClampNeg (vp_nar .char (47 : Int32))) 454 x0 0 (hsz A)) 9 7) 1033 (hsz (hsR (hsI (hsI (hsI (hmk A 9 3) 1033 (hsz A) (0 : Int32).toNatClampNeg (vp_nar .char (58 : Int32))) 1033 (hsz A) (1 : Int32).toNatClampNeg (vp_nar .char (47 : Int32))) 1033 (hsz A) (2 : Int32).toNatClampNeg (vp_nar .char (47 : Int32))) 454 x0 0 (hsz A))) (0 : Int32).toNatClampNeg (vp_nar .char (101 : Int32))) 1033 (hsz (hsR (hsI (hsI (hsI (hmk A 9 3) 1033 (hsz A) (0 : Int32).toNatClampNeg (vp_nar .char (58 : Int32))) 1033 (hsz A) (1 : Int32).toNatClampNeg (vp_nar .char (47 : Int32))) 1033 (hsz A) (2 : Int32).toNatClampNeg (vp_nar .char (47 : Int32))) 454 x0 0 (hsz A))) (1 : Int32).toNatClampNeg (vp_nar .char (120 : Int32))) 1033 (hsz (hsR (hsI (hsI (hsI (hmk A 9 3) 1033 (hsz A) (0 : Int32).toNatClampNeg (vp_nar .char (58 : Int32))) 1033 (hsz A) (1 : Int32).toNatClampNeg (vp_nar .char (47 : Int32))) 1033 (hsz A) (2 : Int32).toNatClampNeg (vp_nar .char (47 : Int32))) 454 x0 0 (hsz A))) (2 : Int32).toNatClampNeg (vp_nar .char (112 : Int32))) 1033 (hsz (hsR (hsI (hsI (hsI (hmk A 9 3) 1033 (hsz A) (0 : Int32).toNatClampNeg (vp_nar .char (58 : Int32))) 1033 (hsz A) (1 : Int32).toNatClampNeg (vp_nar .char (47 : Int32))) 1033 (hsz A) (2 : Int32).toNatClampNeg (vp_nar .char (47 : Int32))) 454 x0 0 (hsz A))) (3 : Int32).toNatClampNeg (vp_nar .char (105 : Int32))) 1033 (hsz (hsR (hsI (hsI (hsI (hmk A 9 3) 1033 (hsz A) (0 : Int32).toNatClampNeg (vp_nar .char (58 : Int32))) 1033 (hsz A) (1 : Int32).toNatClampNeg (vp_nar .char (47 : Int32))) 1033 (hsz A) (2 : Int32).toNatClampNeg (vp_nar .char (47 : Int32))) 454 x0 0 (hsz A))) (4 : Int32).toNatClampNeg (vp_nar .char (114 : Int32))) (hsz (hsR (hsI (hsI (hsI (hmk A 9 3) 1033 (hsz A) (0 : Int32).toNatClampNeg (vp_nar .char (58 : Int32))) 1033 (hsz A) (1 : Int32).toNatClampNeg (vp_nar .char (47 : Int32))) 1033 (hsz A) (2 : Int32).toNatClampNeg (vp_nar .char (47 : Int32))) 454 x0 0 (hsz A)))).2 then if wix (6 : Int32) (hsh (hsI (hsI (hsI (hsI (hsI (hsI (hmk (hsR (hsI (hsI (hsI (hmk A 9 3) 1033 (hsz A) (0 : Int32).toNatClampNeg (vp_nar .char (58 : Int32))) 1033 (hsz A) (1 : Int32).toNatClampNeg (vp_nar .char (47 : Int32))) 1033 (hsz A) (2 : Int32).toNatClampNeg (vp_nar .char (47 : Int32))) 454 x0 0 (hsz A)) 9 7) 1033 (hsz (hsR (hsI (hsI (hsI (hmk A 9 3) 1033 (hsz A) (0 : Int32).toNatClampNeg (vp_nar .char (58 : Int32))) 1033 (hsz A) (1 : Int32).toNatClampNeg (vp_nar .char (47 : Int32))) 1033 (hsz A) (2 : Int32).toNatClampNeg (vp_nar .char (47 : Int32))) 454 x0 0 (hsz A))) (0 : Int32).toNatClampNeg (vp_nar .char (101 : Int32))) 1033 (hsz (hsR (hsI (hsI (hsI (hmk A 9 3) 1033 (hsz A) (0 : Int32).toNatClampNeg (vp_nar .char (58 : Int32))) 1033 (hsz A) (1 : Int32).toNatClampNeg (vp_nar .char (47 : Int32))) 1033 (hsz A) (2 : Int32).toNatClampNeg (vp_nar .char (47 : Int32))) 454 x0 0 (hsz A))) (1 : Int32).toNatClampNeg (vp_nar .char (120 : Int32))) 1033 (hsz (hsR (hsI (hsI (hsI (hmk A 9 3) 1033 (hsz A) (0 : Int32).toNatClampNeg (vp_nar .char (58 : Int32))) 1033 (hsz A) (1 : Int32).toNatClampNeg (vp_nar .char (47 : Int32))) 1033 (hsz A) (2 : Int32).toNatClampNeg (vp_nar .char (47 : Int32))) 454 x0 0 (hsz A))) (2 : Int32).toNatClampNeg (vp_nar .char (112 : Int32))) 1033 (hsz (hsR (hsI (hsI (hsI (hmk A 9 3) 1033 (hsz A) (0 : Int32).toNatClampNeg (vp_nar .char (58 : Int32))) 1033 (hsz A) (1 : Int32).toNatClampNeg (vp_nar .char (47 : Int32))) 1033 (hsz A) (2 : Int32).toNatClampNeg (vp_nar .char (47 : Int32))) 454 x0 0 (hsz A))) (3 : Int32).toNatClampNeg (vp_nar .char (105 : Int32))) 1033 (hsz (hsR (hsI (hsI (hsI (hmk A 9 3) 1033 (hsz A) (0 : Int32).toNatClampNeg (vp_nar .char (58 : Int32))) 1033 (hsz A) (1 : Int32).toNatClampNeg (vp_nar .char (47 : Int32))) 1033 (hsz A) (2 : Int32).toNatClampNeg (vp_nar .char (47 : Int32))) 454 x0 0 (hsz A))) (4 : Int32).toNatClampNeg (vp_nar .char (114 : Int32))) 1033 (hsz (hsR (hsI (hsI (hsI (hmk A 9 3) 1033 (hsz A) (0 : Int32).toNatClampNeg (vp_nar .char (58 : Int32))) 1033 (hsz A) (1 : Int32).toNatClampNeg (vp_nar .char (47 : Int32))) 1033 (hsz A) (2 : Int32).toNatClampNeg (vp_nar .char (47 : Int32))) 454 x0 0 (hsz A))) (5 : Int32).toNatClampNeg (vp_nar .char (101 : Int32))) (hsz (hsR (hsI (hsI (hsI (hmk A 9 3) 1033 (hsz A) (0 : Int32).toNatClampNeg (vp_nar .char (58 : Int32))) 1033 (hsz A) (1 : Int32).toNatClampNeg (vp_nar .char (47 : Int32))) 1033 (hsz A) (2 : Int32).toNatClampNeg (vp_nar .char (47 : Int32))) 454 x0 0 (hsz A)))).2 then if (hsh (hsI (hsI (hsI (hsI (hsI (hsI (hsI (hmk (hsR (hsI (hsI (hsI (hmk A 9 3) 1033 (hsz A) (0 : Int32).toNatClampNeg (vp_nar .char (58 : Int32))) 1033 (hsz A) (1 : Int32).toNatClampNeg (vp_nar .char (47 : Int32))) 1033 (hsz A) (2 : Int32).toNatClampNeg (vp_nar .char (47 : Int32))) 454 x0 0 (hsz A)) 9 7) 1033 (hsz (hsR (hsI (hsI (hsI (hmk A 9 3) 1033 (hsz A) (0 : Int32).toNatClampNeg (vp_nar .char (58 : Int32))) 1033 (hsz A) (1 : Int32).toNatClampNeg (vp_nar .char (47 : Int32))) 1033 (hsz A) (2 : Int32).toNatClampNeg (vp_nar .char (47 : Int32))) 454 x0 0 (hsz A))) (0 : Int32).toNatClampNeg (vp_nar .char (101 : Int32))) 1033 (hsz (hsR (hsI (hsI (hsI (hmk A 9 3) 1033 (hsz A) (0 : Int32).toNatClampNeg (vp_nar .char (58 : Int32))) 1033 (hsz A) (1 : Int32).toNatClampNeg (vp_nar .char (47 : Int32))) 1033 (hsz A) (2 : Int32).toNatClampNeg (vp_nar .char (47 : Int32))) 454 x0 0 (hsz A))) (1 : Int32).toNatClampNeg (vp_nar .char (120 : Int32))) 1033 (hsz (hsR (hsI (hsI (hsI (hmk A 9 3) 1033 (hsz A) (0 : Int32).toNatClampNeg (vp_nar .char (58 : Int32))) 1033 (hsz A) (1 : Int32).toNatClampNeg (vp_nar .char (47 : Int32))) 1033 (hsz A) (2 : Int32).toNatClampNeg (vp_nar .char (47 : Int32))) 454 x0 0 (hsz A))) (2 : Int32).toNatClampNeg (vp_nar .char (112 : Int32))) 1033 (hsz (hsR (hsI (hsI (hsI (hmk A 9 3) 1033 (hsz A) (0 : Int32).toNatClampNeg (vp_nar .char (58 : Int32))) 1033 (hsz A) (1 : Int32).toNatClampNeg (vp_nar .char (47 : Int32))) 1033 (hsz A) (2 : Int32).toNatClampNeg (vp_nar .char (47 : Int32))) 454 x0 0 (hsz A))) (3 : Int32).toNatClampNeg (vp_nar .char (105 : Int32))) 1033 (hsz (hsR (hsI (hsI (hsI (hmk A 9 3) 1033 (hsz A) (0 : Int32).toNatClampNeg (vp_nar .char (58 : Int32))) 1033 (hsz A) (1 : Int32).toNatClampNeg (vp_nar .char (47 : Int32))) 1033 (hsz A) (2 : Int32).toNatClampNeg (vp_nar .char (47 : Int32))) 454 x0 0 (hsz A))) (4 : Int32).toNatClampNeg (vp_nar .char (114 : Int32))) 1033 (hsz (hsR (hsI (hsI (hsI (hmk A 9 3) 1033 (hsz A) (0 : Int32).toNatClampNeg (vp_nar .char (58 : Int32))) 1033 (hsz A) (1 : Int32).toNatClampNeg (vp_nar .char (47 : Int32))) 1033 (hsz A) (2 : Int32).toNatClampNeg (vp_nar .char (47 : Int32))) 454 x0 0 (hsz A))) (5 : Int32).toNatClampNeg (vp_nar .char (101 : Int32))) 1033 (hsz (hsR (hsI (hsI (hsI (hmk A 9 3) 1033 (hsz A) (0 : Int32).toNatClampNeg (vp_nar .char (58 : Int32))) 1033 (hsz A) (1 : Int32).toNatClampNeg (vp_nar .char (47 : Int32))) 1033 (hsz A) (2 : Int32).toNatClampNeg (vp_nar .char (47 : Int32))) 454 x0 0 (hsz A))) (6 : Int32).toNatClampNeg (vp_nar .char (115 : Int32))) x0).1 = 8 then k_X9_init_122 (hsR (hsI (hsI (hsI (hsI (hsI (hsI (hsI (hmk (hsR (hsI (hsI (hsI (hmk A 9 3) 1033 (hsz A) (0 : Int32).toNatClampNeg (vp_nar .char (58 : Int32))) 1033 (hsz A) (1 : Int32).toNatClampNeg (vp_nar .char (47 : Int32))) 1033 (hsz A) (2 : Int32).toNatClampNeg (vp_nar .char (47 : Int32))) 454 x0 0 (hsz A)) 9 7) 1033 (hsz (hsR (hsI (hsI (hsI (hmk A 9 3) 1033 (hsz A) (0 : Int32).toNatClampNeg (vp_nar .char (58 : Int32))) 1033 (hsz A) (1 : Int32).toNatClampNeg (vp_nar .char (47 : Int32))) 1033 (hsz A) (2 : Int32).toNatClampNeg (vp_nar .char (47 : Int32))) 454 x0 0 (hsz A))) (0 : Int32).toNatClampNeg (vp_nar .char (101 : Int32))) 1033 (hsz (hsR (hsI (hsI (hsI (hmk A 9 3) 1033 (hsz A) (0 : Int32).toNatClampNeg (vp_nar .char (58 : Int32))) 1033 (hsz A) (1 : Int32).toNatClampNeg (vp_nar .char (47 : Int32))) 1033 (hsz A) (2 : Int32).toNatClampNeg (vp_nar .char (47 : Int32))) 454 x0 0 (hsz A))) (1 : Int32).toNatClampNeg (vp_nar .char (120 : Int32))) 1033 (hsz (hsR (hsI (hsI (hsI (hmk A 9 3) 1033 (hsz A) (0 : Int32).toNatClampNeg (vp_nar .char (58 : Int32))) 1033 (hsz A) (1 : Int32).toNatClampNeg (vp_nar .char (47 : Int32))) 1033 (hsz A) (2 : Int32).toNatClampNeg (vp_nar .char (47 : Int32))) 454 x0 0 (hsz A))) (2 : Int32).toNatClampNeg (vp_nar .char (112 : Int32))) 1033 (hsz (hsR (hsI (hsI (hsI (hmk A 9 3) 1033 (hsz A) (0 : Int32).toNatClampNeg (vp_nar .char (58 : Int32))) 1033 (hsz A) (1 : Int32).toNatClampNeg (vp_nar .char (47 : Int32))) 1033 (hsz A) (2 : Int32).toNatClampNeg (vp_nar .char (47 : Int32))) 454 x0 0 (hsz A))) (3 : Int32).toNatClampNeg (vp_nar .char (105 : Int32))) 1033 (hsz (hsR (hsI (hsI (hsI (hmk A 9 3) 1033 (hsz A) (0 : Int32).toNatClampNeg (vp_nar .char (58 : Int32))) 1033 (hsz A) (1 : Int32).toNatClampNeg (vp_nar .char (47 : Int32))) 1033 (hsz A) (2 : Int32).toNatClampNeg (vp_nar .char (47 : Int32))) 454 x0 0 (hsz A))) (4 : Int32).toNatClampNeg (vp_nar .char (114 : Int32))) 1033 (hsz (hsR (hsI (hsI (hsI (hmk A 9 3) 1033 (hsz A) (0 : Int32).toNatClampNeg (vp_nar .char (58 : Int32))) 1033 (hsz A) (1 : Int32).toNatClampNeg (vp_nar .char (47 : Int32))) 1033 (hsz A) (2 : Int32).toNatClampNeg (vp_nar .char (47 : Int32))) 454 x0 0 (hsz A))) (5 : Int32).toNatClampNeg (vp_nar .char (101 : Int32))) 1033 (hsz (hsR (hsI (hsI (hsI (hmk A 9 3) 1033 (hsz A) (0 : Int32).toNatClampNeg (vp_nar .char (58 : Int32))) 1033 (hsz A) (1 : Int32).toNatClampNeg (vp_nar .char (47 : Int32))) 1033 (hsz A) (2 : Int32).toNatClampNeg (vp_nar .char (47 : Int32))) 454 x0 0 (hsz A))) (6 : Int32).toNatClampNeg (vp_nar .char (115 : Int32))) 455 x0 0 (hsz (hsR (hsI (hsI (hsI (hmk A 9 3) 1033 (hsz A) (0 : Int32).toNatClampNeg (vp_nar .char (58 : Int32))) 1033 (hsz A) (1 : Int32).toNatClampNeg (vp_nar .char (47 : Int32))) 1033 (hsz A) (2 : Int32).toNatClampNeg (vp_nar .char (47 : Int32))) 454 x0 0 (hsz A)))) x0 else none else none else none else none else none else none else none else none else none else none else none else none else none else none
set_option maxRecDepth 100000 in
theorem s_X9_init_56 {κ : KT} {B : Hp} {A : Hp} {x0 : Nat}   (K : Cx κ cX9_init 1 RX9 1 20 22 25941) (E : Ed κ none "<init>" (.inl none) B 22 25941)  (h : k_X9_init_56  A x0  = some B) : Vw κ A 4 25806 56 [(0, .inr (.inr x0))] [] := by
  unfold k_X9_init_56 at h
  refine Vw.aload_n (pc := 56) (x := x0) K dX9_init_56 rfl ?_
  refine Vw.iconst (pc := 57) (v := (3 : Int32)) K (by decide) dX9_init_57 ?_
  refine Vw.newC_ (pc := 58) (c := 4) (n := 25806) (c' := 5) (n' := 25809) (N := 3) K u_1_56 (by decide) (by decide) (by decide) (by decide) (by decide) dX9_init_58 rfl rfl ?_
  refine Vw.dup (pc := 60) K rfl dX9_init_60 ?_
  refine Vw.iconst (pc := 61) (v := (0 : Int32)) K (by decide) dX9_init_61 ?_
  refine Vw.bipush (pc := 62) (v := (58 : Int32)) K (by decide) dX9_init_62 ?_
  obtain ⟨g163, h⟩ := wgd h
  obtain ⟨g164, h⟩ := wgd h
  refine Vw.castore (pc := 64) K g163 g164 dX9_init_64 ?_
  refine Vw.dup (pc := 65) K rfl dX9_init_65 ?_
  refine Vw.iconst (pc := 66) (v := (1 : Int32)) K (by decide) dX9_init_66 ?_
  refine Vw.bipush (pc := 67) (v := (47 : Int32)) K (by decide) dX9_init_67 ?_
  obtain ⟨g165, h⟩ := wgd h
  refine Vw.castore (pc := 69) K g163 g165 dX9_init_69 ?_
  refine Vw.dup (pc := 70) K rfl dX9_init_70 ?_
  refine Vw.iconst (pc := 71) (v := (2 : Int32)) K (by decide) dX9_init_71 ?_
  refine Vw.bipush (pc := 72) (v := (47 : Int32)) K (by decide) dX9_init_72 ?_
  obtain ⟨g166, h⟩ := wgd h
  refine Vw.castore (pc := 74) K g163 g166 dX9_init_74 ?_
  obtain ⟨g167, h⟩ := wgd h
  refine Vw.putR (pc := 75) (k := 6) (f := 454) K cls7 rfl rfl u_6_23 g167 (Or.inr ⟨rfl, E.2.2.1, rfl⟩) (wAn _ _) (wAf _ _) dX9_init_75 ?_
  refine Vw.aload_n (pc := 78) (x := x0) K dX9_init_78 rfl ?_
  refine Vw.bipush (pc := 79) (v := (7 : Int32)) K (by decide) dX9_init_79 ?_
  refine Vw.newC_ (pc := 81) (c := 5) (n := 25809) (c' := 6) (n' := 25816) (N := 7) K u_1_56 (by decide) (by decide) (by decide) (by decide) (by decide) dX9_init_81 rfl rfl ?_
  refine Vw.dup (pc := 83) K rfl dX9_init_83 ?_
  refine Vw.iconst (pc := 84) (v := (0 : Int32)) K (by decide) dX9_init_84 ?_
  refine Vw.bipush (pc := 85) (v := (101 : Int32)) K (by decide) dX9_init_85 ?_
  obtain ⟨g168, h⟩ := wgd h
  obtain ⟨g169, h⟩ := wgd h
  refine Vw.castore (pc := 87) K g168 g169 dX9_init_87 ?_
  refine Vw.dup (pc := 88) K rfl dX9_init_88 ?_
  refine Vw.iconst (pc := 89) (v := (1 : Int32)) K (by decide) dX9_init_89 ?_
  refine Vw.bipush (pc := 90) (v := (120 : Int32)) K (by decide) dX9_init_90 ?_
  obtain ⟨g170, h⟩ := wgd h
  refine Vw.castore (pc := 92) K g168 g170 dX9_init_92 ?_
  refine Vw.dup (pc := 93) K rfl dX9_init_93 ?_
  refine Vw.iconst (pc := 94) (v := (2 : Int32)) K (by decide) dX9_init_94 ?_
  refine Vw.bipush (pc := 95) (v := (112 : Int32)) K (by decide) dX9_init_95 ?_
  obtain ⟨g171, h⟩ := wgd h
  refine Vw.castore (pc := 97) K g168 g171 dX9_init_97 ?_
  refine Vw.dup (pc := 98) K rfl dX9_init_98 ?_
  refine Vw.iconst (pc := 99) (v := (3 : Int32)) K (by decide) dX9_init_99 ?_
  refine Vw.bipush (pc := 100) (v := (105 : Int32)) K (by decide) dX9_init_100 ?_
  obtain ⟨g172, h⟩ := wgd h
  refine Vw.castore (pc := 102) K g168 g172 dX9_init_102 ?_
  refine Vw.dup (pc := 103) K rfl dX9_init_103 ?_
  refine Vw.iconst (pc := 104) (v := (4 : Int32)) K (by decide) dX9_init_104 ?_
  refine Vw.bipush (pc := 105) (v := (114 : Int32)) K (by decide) dX9_init_105 ?_
  obtain ⟨g173, h⟩ := wgd h
  refine Vw.castore (pc := 107) K g168 g173 dX9_init_107 ?_
  refine Vw.dup (pc := 108) K rfl dX9_init_108 ?_
  refine Vw.iconst (pc := 109) (v := (5 : Int32)) K (by decide) dX9_init_109 ?_
  refine Vw.bipush (pc := 110) (v := (101 : Int32)) K (by decide) dX9_init_110 ?_
  obtain ⟨g174, h⟩ := wgd h
  refine Vw.castore (pc := 112) K g168 g174 dX9_init_112 ?_
  refine Vw.dup (pc := 113) K rfl dX9_init_113 ?_
  refine Vw.bipush (pc := 114) (v := (6 : Int32)) K (by decide) dX9_init_114 ?_
  refine Vw.bipush (pc := 116) (v := (115 : Int32)) K (by decide) dX9_init_116 ?_
  obtain ⟨g175, h⟩ := wgd h
  refine Vw.castore (pc := 118) K g168 g175 dX9_init_118 ?_
  obtain ⟨g176, h⟩ := wgd h
  refine Vw.putR (pc := 119) (k := 7) (f := 455) K cls7 rfl rfl u_6_24 g176 (Or.inr ⟨rfl, E.2.2.1, rfl⟩) (wAn _ _) (wAf _ _) dX9_init_119 ?_
  exact Vw.loc rfl (s_X9_init_122 K E  h)
def k_X9_init_29  (A : Hp) (x0 : Nat)  : Option (Hp) := if (hsh (hmk A 9 4) (hsz A)).1 = 9 then if wix (0 : Int32) (hsh (hmk A 9 4) (hsz A)).2 then if wix (1 : Int32) (hsh (hsI (hmk A 9 4) 1033 (hsz A) (0 : Int32).toNatClampNeg (vp_nar .char (104 : Int32))) (hsz A)).2 then if wix (2 : Int32) (hsh (hsI (hsI (hmk A 9 4) 1033 (hsz A) (0 : Int32).toNatClampNeg (vp_nar .char (104 : Int32))) 1033 (hsz A) (1 : Int32).toNatClampNeg (vp_nar .char (116 : Int32))) (hsz A)).2 then if wix (3 : Int32) (hsh (hsI (hsI (hsI (hmk A 9 4) 1033 (hsz A) (0 : Int32).toNatClampNeg (vp_nar .char (104 : Int32))) 1033 (hsz A) (1 : Int32).toNatClampNeg (vp_nar .char (116 : Int32))) 1033 (hsz A) (2 : Int32).toNatClampNeg (vp_nar .char (116 : Int32))) (hsz A)).2 then if (hsh (hsI (hsI (hsI (hsI (hmk A 9 4) 1033 (hsz A) (0 : Int32).toNatClampNeg (vp_nar .char (104 : Int32))) 1033 (hsz A) (1 : Int32).toNatClampNeg (vp_nar .char (116 : Int32))) 1033 (hsz A) (2 : Int32).toNatClampNeg (vp_nar .char (116 : Int32))) 1033 (hsz A) (3 : Int32).toNatClampNeg (vp_nar .char (112 : Int32))) x0).1 = 8 then k_X9_init_56 (hsR (hsI (hsI (hsI (hsI (hmk A 9 4) 1033 (hsz A) (0 : Int32).toNatClampNeg (vp_nar .char (104 : Int32))) 1033 (hsz A) (1 : Int32).toNatClampNeg (vp_nar .char (116 : Int32))) 1033 (hsz A) (2 : Int32).toNatClampNeg (vp_nar .char (116 : Int32))) 1033 (hsz A) (3 : Int32).toNatClampNeg (vp_nar .char (112 : Int32))) 453 x0 0 (hsz A)) x0 else none else none else none else none else none else none
set_option maxRecDepth 100000 in
theorem s_X9_init_29 {κ : KT} {B : Hp} {A : Hp} {x0 : Nat}   (K : Cx κ cX9_init 1 RX9 1 20 22 25941) (E : Ed κ none "<init>" (.inl none) B 22 25941)  (h : k_X9_init_29  A x0  = some B) : Vw κ A 3 25802 29 [(0, .inr (.inr x0))] [] := by
  unfold k_X9_init_29 at h
  refine Vw.aload_n (pc := 29) (x := x0) K dX9_init_29 rfl ?_
  refine Vw.iconst (pc := 30) (v := (4 : Int32)) K (by decide) dX9_init_30 ?_
  refine Vw.newC_ (pc := 31) (c := 3) (n := 25802) (c' := 4) (n' := 25806) (N := 4) K u_1_56 (by decide) (by decide) (by decide) (by decide) (by decide) dX9_init_31 rfl rfl ?_
  refine Vw.dup (pc := 33) K rfl dX9_init_33 ?_
  refine Vw.iconst (pc := 34) (v := (0 : Int32)) K (by decide) dX9_init_34 ?_
  refine Vw.bipush (pc := 35) (v := (104 : Int32)) K (by decide) dX9_init_35 ?_
  obtain ⟨g177, h⟩ := wgd h
  obtain ⟨g178, h⟩ := wgd h
  refine Vw.castore (pc := 37) K g177 g178 dX9_init_37 ?_
  refine Vw.dup (pc := 38) K rfl dX9_init_38 ?_
  refine Vw.iconst (pc := 39) (v := (1 : Int32)) K (by decide) dX9_init_39 ?_
  refine Vw.bipush (pc := 40) (v := (116 : Int32)) K (by decide) dX9_init_40 ?_
  obtain ⟨g179, h⟩ := wgd h
  refine Vw.castore (pc := 42) K g177 g179 dX9_init_42 ?_
  refine Vw.dup (pc := 43) K rfl dX9_init_43 ?_
  refine Vw.iconst (pc := 44) (v := (2 : Int32)) K (by decide) dX9_init_44 ?_
  refine Vw.bipush (pc := 45) (v := (116 : Int32)) K (by decide) dX9_init_45 ?_
  obtain ⟨g180, h⟩ := wgd h
  refine Vw.castore (pc := 47) K g177 g180 dX9_init_47 ?_
  refine Vw.dup (pc := 48) K rfl dX9_init_48 ?_
  refine Vw.iconst (pc := 49) (v := (3 : Int32)) K (by decide) dX9_init_49 ?_
  refine Vw.bipush (pc := 50) (v := (112 : Int32)) K (by decide) dX9_init_50 ?_
  obtain ⟨g181, h⟩ := wgd h
  refine Vw.castore (pc := 52) K g177 g181 dX9_init_52 ?_
  obtain ⟨g182, h⟩ := wgd h
  refine Vw.putR (pc := 53) (k := 5) (f := 453) K cls7 rfl rfl u_6_22 g182 (Or.inr ⟨rfl, E.2.2.1, rfl⟩) (wAn _ _) (wAf _ _) dX9_init_53 ?_
  exact Vw.loc rfl (s_X9_init_56 K E  h)
def f_X9_init (A : Hp) (x0 : Nat) : Option (Hp) := if (hsh A x0).1 = 8 then if (hsh (hmk A 11 9000) x0).1 = 8 then if (hsh (hmk (hsR (hmk A 11 9000) 448 x0 0 (hsz A)) 11 16800) x0).1 = 8 then if (hsh (hmk (hsR (hmk (hsR (hmk A 11 9000) 448 x0 0 (hsz A)) 11 16800) 449 x0 0 (hsz (hsR (hmk A 11 9000) 448 x0 0 (hsz A)))) 12 2) x0).1 = 8 then k_X9_init_29 (hsR (hmk (hsR (hmk (hsR (hmk A 11 9000) 448 x0 0 (hsz A)) 11 16800) 449 x0 0 (hsz (hsR (hmk A 11 9000) 448 x0 0 (hsz A)))) 12 2) 450 x0 0 (hsz (hsR (hmk (hsR (hmk A 11 9000) 448 x0 0 (hsz A)) 11 16800) 449 x0 0 (hsz (hsR (hmk A 11 9000) 448 x0 0 (hsz A)))))) x0 else none else none else none else none
set_option maxRecDepth 100000 in
theorem s_X9_init {l : Launch} {g : GT} (hl : l.stackTraces = false) {A : Hp} {x0 : Nat} {B : Hp} (h : f_X9_init A x0 = some B) : MetV l g yX9_init (.code yX9_init cX9_init 1 none) [.inr (.inr x0)] A (.inl none) B 1 20 22 25941 := by
  refine MetV.ofV hl (by decide +kernel) (Nat.le_of_ble_eq_true rfl) (fun κ K E => ?_)
  have K : Cx κ cX9_init 1 RX9 1 20 22 25941 := K
  have E : Ed κ none "<init>" (.inl none) B 22 25941 := E
  unfold f_X9_init at h
  change Vw κ A 0 0 0 [(0, .inr (.inr x0))] []
  refine Vw.aload_n (pc := 0) (x := x0) K dX9_init_0 rfl ?_
  obtain ⟨g183, h⟩ := wgd h
  refine Vw.objInitK (pc := 1) K u_6_14 u_1_30 u_1_31 g183 (by decide) (Nat.le_of_ble_eq_true rfl) dX9_init_1 ?_
  refine Vw.aload_n (pc := 4) (x := x0) K dX9_init_4 rfl ?_
  refine Vw.sipush (pc := 5) (v := (9000 : Int32)) K (by decide) dX9_init_5 ?_
  refine Vw.newL_ (pc := 8) (c := 0) (n := 0) (c' := 1) (n' := 9000) (N := 9000) K u_6_132 (by decide) (by decide) (by decide) (by decide) (by decide) dX9_init_8 rfl rfl ?_
  obtain ⟨g184, h⟩ := wgd h
  refine Vw.putR (pc := 10) (k := 0) (f := 448) K cls7 rfl rfl u_6_17 g184 (Or.inr ⟨rfl, E.2.2.1, rfl⟩) (wAn _ _) (wAf _ _) dX9_init_10 ?_
  refine Vw.aload_n (pc := 13) (x := x0) K dX9_init_13 rfl ?_
  refine Vw.sipush (pc := 14) (v := (16800 : Int32)) K (by decide) dX9_init_14 ?_
  refine Vw.newL_ (pc := 17) (c := 1) (n := 9000) (c' := 2) (n' := 25800) (N := 16800) K u_6_132 (by decide) (by decide) (by decide) (by decide) (by decide) dX9_init_17 rfl rfl ?_
  obtain ⟨g185, h⟩ := wgd h
  refine Vw.putR (pc := 19) (k := 1) (f := 449) K cls7 rfl rfl u_6_18 g185 (Or.inr ⟨rfl, E.2.2.1, rfl⟩) (wAn _ _) (wAf _ _) dX9_init_19 ?_
  refine Vw.aload_n (pc := 22) (x := x0) K dX9_init_22 rfl ?_
  refine Vw.iconst (pc := 23) (v := (2 : Int32)) K (by decide) dX9_init_23 ?_
  refine Vw.newZ_ (pc := 24) (c := 2) (n := 25800) (c' := 3) (n' := 25802) (N := 2) K u_6_133 (by decide) (by decide) (by decide) (by decide) (by decide) dX9_init_24 rfl rfl ?_
  obtain ⟨g186, h⟩ := wgd h
  refine Vw.putR (pc := 26) (k := 2) (f := 450) K cls7 rfl rfl u_6_19 g186 (Or.inr ⟨rfl, E.2.2.1, rfl⟩) (wAn _ _) (wAf _ _) dX9_init_26 ?_
  exact Vw.loc rfl (s_X9_init_29 K E  h)
theorem cal_X9_init : wCalI yX9_init (.code yX9_init cX9_init 1 none) 0 := ⟨by decide +kernel, u_6_12, u_1_9, u_6_13, rfl⟩
def f_X9_thrown (A : Hp) (x0 : Nat) : Option (Int32) := if (hsh A x0).1 = 8 then some (hgI A 452 x0 0) else none
set_option maxRecDepth 100000 in
theorem s_X9_thrown {l : Launch} {g : GT} (hl : l.stackTraces = false) {A : Hp} {x0 : Nat} {r : Int32} (h : f_X9_thrown A x0 = some r) : MetV l g yX9_thrown (.code yX9_thrown cX9_thrown 1 (some .int)) [.inr (.inr x0)] A (.inl (some (.inl r))) A 0 0 0 0 := by
  refine MetV.ofV hl (by decide +kernel) (Nat.le_of_ble_eq_true rfl) (fun κ K E => ?_)
  have K : Cx κ cX9_thrown 1 RX9 0 0 0 0 := K
  have E : Ed κ (some .int) "thrown" (.inl (some (.inl r))) A 0 0 := E
  unfold f_X9_thrown at h
  change Vw κ A 0 0 0 [(0, .inr (.inr x0))] []
  refine Vw.aload_n (pc := 0) (x := x0) K dX9_thrown_0 rfl ?_
  obtain ⟨g1, h⟩ := wgd h
  refine Vw.getI (pc := 1) (k := 4) (f := 452) K cls7 rfl rfl u_6_21 g1 dX9_thrown_1 ?_
  exact Vw.iretE (pc := 4) K (Option.some.inj h) rfl E (by decide) (by decide) dX9_thrown_4
theorem cal_X9_thrown : wCalV RX9 yX9_thrown (.code yX9_thrown cX9_thrown 1 (some .int)) 0 := ⟨by decide +kernel, u_6_135, u_6_136, u_1_9, u_6_137⟩
def f_X9_in (A : Hp) (x0 : Int64) (x2 : Int64) (x4 : Int64) : Option (Int32) := (if x0 < x2 then some (0 : Int32) else (if x4 < x0 then some (0 : Int32) else some (1 : Int32)))
set_option maxRecDepth 100000 in
theorem s_X9_in {l : Launch} {g : GT} (hl : l.stackTraces = false) {A : Hp} {x0 : Int64} {x2 : Int64} {x4 : Int64} {r : Int32} (h : f_X9_in A x0 x2 x4 = some r) : MetV l g yX9_in (.code yX9_in cX9_in 6 (some .boolean)) [.inr (.inl x0), .inr (.inl x2), .inr (.inl x4)] A (.inl (some (.inl r))) A 0 0 0 0 := by
  refine MetV.ofV hl (by decide +kernel) (Nat.le_of_ble_eq_true rfl) (fun κ K E => ?_)
  have K : Cx κ cX9_in 6 RX9 0 0 0 0 := K
  have E : Ed κ (some .boolean) "in" (.inl (some (.inl r))) A 0 0 := E
  unfold f_X9_in at h
  change Vw κ A 0 0 0 [(0, .inr (.inl x0)), (2, .inr (.inl x2)), (4, .inr (.inl x4))] []
  refine Vw.lload_n (pc := 0) (x := x0) K dX9_in_0 rfl ?_
  refine Vw.lload_n (pc := 1) (x := x2) K dX9_in_1 rfl ?_
  refine Vw.lcmp_lt (pc := 2) (tgt := 17) K dX9_in_2 dX9_in_3 (by decide) (fun c1 => ?_) (fun c1 => ?_)
  · have h := wpos c1 h
    refine Vw.iconst (pc := 17) (v := (0 : Int32)) K (by decide) dX9_in_17 ?_
    exact Vw.zretE (pc := 18) K (Or.inl rfl) (Option.some.inj h) rfl E (by decide) (by decide) dX9_in_18
  · have h := wneg c1 h
    refine Vw.lload_n (pc := 6) (x := x0) K dX9_in_6 rfl ?_
    refine Vw.lload (pc := 7) (x := x4) K dX9_in_7 rfl ?_
    refine Vw.lcmp_gt (pc := 9) (tgt := 17) K dX9_in_9 dX9_in_10 (by decide) (fun c2 => ?_) (fun c2 => ?_)
    · have h := wpos c2 h
      refine Vw.iconst (pc := 17) (v := (0 : Int32)) K (by decide) dX9_in_17 ?_
      exact Vw.zretE (pc := 18) K (Or.inl rfl) (Option.some.inj h) rfl E (by decide) (by decide) dX9_in_18
    · have h := wneg c2 h
      refine Vw.iconst (pc := 13) (v := (1 : Int32)) K (by decide) dX9_in_13 ?_
      refine Vw.goto (pc := 14) (tgt := 18) K dX9_in_14 (by decide) ?_
      exact Vw.zretE (pc := 18) K (Or.inr rfl) (Option.some.inj h) rfl E (by decide) (by decide) dX9_in_18
theorem cal_X9_in : wCalS yX9_in (.code yX9_in cX9_in 6 (some .boolean)) 3 := ⟨by decide +kernel, u_6_162, u_1_9, u_6_163⟩
def f_X9_fails (A : Hp) (x0 : Nat) (x1 : Int32) : Option (Int32 × Hp) := if (hsh A x0).1 = 8 then some ((0 : Int32), (hsI A 452 x0 0 x1)) else none
set_option maxRecDepth 100000 in
theorem s_X9_fails {l : Launch} {g : GT} (hl : l.stackTraces = false) {A : Hp} {x0 : Nat} {x1 : Int32} {r : Int32} {B : Hp} (h : f_X9_fails A x0 x1 = some (r, B)) : MetV l g yX9_fails (.code yX9_fails cX9_fails 2 (some .int)) [.inr (.inr x0), .inl x1] A (.inl (some (.inl r))) B 0 0 0 0 := by
  refine MetV.ofV hl (by decide +kernel) (Nat.le_of_ble_eq_true rfl) (fun κ K E => ?_)
  have K : Cx κ cX9_fails 2 RX9 0 0 0 0 := K
  have E : Ed κ (some .int) "fails" (.inl (some (.inl r))) B 0 0 := E
  unfold f_X9_fails at h
  change Vw κ A 0 0 0 [(0, .inr (.inr x0)), (1, .inl x1)] []
  refine Vw.aload_n (pc := 0) (x := x0) K dX9_fails_0 rfl ?_
  refine Vw.iload_n (pc := 1) (x := x1) K dX9_fails_1 rfl ?_
  obtain ⟨g1, h⟩ := wgd h
  refine Vw.putI (pc := 2) (k := 4) (f := 452) K cls7 rfl rfl u_6_21 g1 (Or.inl rfl) rfl rfl dX9_fails_2 ?_
  refine Vw.iconst (pc := 5) (v := (0 : Int32)) K (by decide) dX9_fails_5 ?_
  exact Vw.iretH (pc := 6) K h E (by decide) (by decide) dX9_fails_6
theorem cal_X9_fails : wCalV RX9 yX9_fails (.code yX9_fails cX9_fails 2 (some .int)) 1 := ⟨by decide +kernel, u_6_216, us_3_14, u_1_9, u_6_217⟩
def k_X9_areLike_54 (rec16 : Int32 → Int32 → Option (Int32)) (A : Hp) (x0 : Nat) (x1 : Int32) (x2 : Int32) (x3 : Int32) (x6 : Int32) (t0 : Int32) : Option (Int32) := rec16 t0 (x6 + (1 : Int32))
set_option maxRecDepth 100000 in
theorem s_X9_areLike_54 {κ : KT} {r : Int32} {A : Hp} {x0 : Nat} {x1 : Int32} {x2 : Int32} {x3 : Int32} {x6 : Int32} {t0 : Int32} {rec16 : Int32 → Int32 → Option (Int32)} (K : Cx κ cX9_areLike 7 RX9 0 0 0 0) (E : Ed κ (some .boolean) "areLike" (.inl (some (.inl r))) A 0 0) (hr16 : ∀ (x5 : Int32) (x6 : Int32), rec16 x5 x6 = some r → Vw κ A 0 0 16 [(0, .inr (.inr x0)), (1, .inl x1), (2, .inl x2), (3, .inl x3), (5, .inl x5), (6, .inl x6)] []) (h : k_X9_areLike_54 rec16 A x0 x1 x2 x3 x6 t0 = some r) : Vw κ A 0 0 54 [(0, .inr (.inr x0)), (1, .inl x1), (2, .inl x2), (3, .inl x3), (6, .inl x6)] [.inl t0] := by
  unfold k_X9_areLike_54 at h
  refine Vw.istore (pc := 54) K dX9_areLike_54 (by decide) ?_
  refine Vw.iinc (pc := 56) (x := x6) (v := (1 : Int32)) K dX9_areLike_56 rfl (by decide) (by decide) ?_
  refine Vw.goto (pc := 59) (tgt := 16) K dX9_areLike_59 (by decide) ?_
  exact Vw.loc rfl (hr16 _ _ h)
def k_X9_areLike_16s (A : Hp) (x0 : Nat) (x1 : Int32) (x2 : Int32) (x3 : Int32)  (rec16 : Int32 → Int32 → Option (Int32))  (x5 : Int32) (x6 : Int32) : Option (Int32) := (if x2 ≤ x6 then if wZ x5 then some x5 else none else (if x5 = (0 : Int32) then if wZ x5 then some x5 else none else if (hsh A x0).1 = 8 then if (hsh A (hgR A 448 x0 0)).1 = 11 then if wix (x1 + x6) (hsh A (hgR A 448 x0 0)).2 then if wix (x3 + x6) (hsh A (hgR A 448 x0 0)).2 then (if (hgL A 1035 (hgR A 448 x0 0) (x1 + x6).toNatClampNeg) = (hgL A 1035 (hgR A 448 x0 0) (x3 + x6).toNatClampNeg) then k_X9_areLike_54 rec16 A x0 x1 x2 x3 x6 (1 : Int32) else k_X9_areLike_54 rec16 A x0 x1 x2 x3 x6 (0 : Int32)) else none else none else none else none))
def k_X9_areLike_16 (A : Hp) (x0 : Nat) (x1 : Int32) (x2 : Int32) (x3 : Int32)  : Nat → Int32 → Int32 → Option (Int32)
  | 0 => fun _ _ => none
  | fu + 1 => k_X9_areLike_16s A x0 x1 x2 x3  (k_X9_areLike_16 A x0 x1 x2 x3  fu)
set_option maxRecDepth 100000 in
theorem s_X9_areLike_16 {κ : KT} {r : Int32} {A : Hp} {x0 : Nat} {x1 : Int32} {x2 : Int32} {x3 : Int32}  (K : Cx κ cX9_areLike 7 RX9 0 0 0 0) (E : Ed κ (some .boolean) "areLike" (.inl (some (.inl r))) A 0 0)  : ∀ (fu : Nat)  (x5 : Int32) (x6 : Int32),  k_X9_areLike_16 A x0 x1 x2 x3  fu x5 x6 = some r → Vw κ A 0 0 16 [(0, .inr (.inr x0)), (1, .inl x1), (2, .inl x2), (3, .inl x3), (5, .inl x5), (6, .inl x6)] [] := by
  intro fu
  induction fu with
  | zero => intro x5 x6 h; cases h
  | succ fu hr16 =>
    intro x5 x6 h
    have h : k_X9_areLike_16s A x0 x1 x2 x3  (k_X9_areLike_16 A x0 x1 x2 x3  fu) x5 x6 = some r := h
    unfold k_X9_areLike_16s at h
    refine Vw.iload (pc := 16) (x := x6) K dX9_areLike_16 rfl ?_
    refine Vw.iload_n (pc := 18) (x := x2) K dX9_areLike_18 rfl ?_
    refine Vw.icmp_ge (pc := 19) (tgt := 62) K dX9_areLike_19 (by decide) (fun c1 => ?_) (fun c1 => ?_)
    · have h := wpos c1 h
      refine Vw.iload (pc := 62) (x := x5) K dX9_areLike_62 rfl ?_
      obtain ⟨g2, h⟩ := wgd h
      exact Vw.zretE (pc := 64) K g2 (Option.some.inj h) rfl E (by decide) (by decide) dX9_areLike_64
    · have h := wneg c1 h
      refine Vw.iload (pc := 22) (x := x5) K dX9_areLike_22 rfl ?_
      refine Vw.if_eq (pc := 24) (tgt := 62) K dX9_areLike_24 (by decide) (fun c3 => ?_) (fun c3 => ?_)
      · have h := wpos c3 h
        refine Vw.iload (pc := 62) (x := x5) K dX9_areLike_62 rfl ?_
        obtain ⟨g4, h⟩ := wgd h
        exact Vw.zretE (pc := 64) K g4 (Option.some.inj h) rfl E (by decide) (by decide) dX9_areLike_64
      · have h := wneg c3 h
        refine Vw.aload_n (pc := 27) (x := x0) K dX9_areLike_27 rfl ?_
        obtain ⟨g5, h⟩ := wgd h
        refine Vw.getR (pc := 28) (k := 0) (f := 448) K cls7 rfl rfl u_6_17 g5 dX9_areLike_28 ?_
        refine Vw.iload_n (pc := 31) (x := x1) K dX9_areLike_31 rfl ?_
        refine Vw.iload (pc := 32) (x := x6) K dX9_areLike_32 rfl ?_
        refine Vw.iadd (pc := 34) K dX9_areLike_34 ?_
        obtain ⟨g6, h⟩ := wgd h
        obtain ⟨g7, h⟩ := wgd h
        refine Vw.laload (pc := 35) K g6 g7 dX9_areLike_35 ?_
        refine Vw.aload_n (pc := 36) (x := x0) K dX9_areLike_36 rfl ?_
        refine Vw.getR (pc := 37) (k := 0) (f := 448) K cls7 rfl rfl u_6_17 g5 dX9_areLike_37 ?_
        refine Vw.iload_n (pc := 40) (x := x3) K dX9_areLike_40 rfl ?_
        refine Vw.iload (pc := 41) (x := x6) K dX9_areLike_41 rfl ?_
        refine Vw.iadd (pc := 43) K dX9_areLike_43 ?_
        obtain ⟨g8, h⟩ := wgd h
        refine Vw.laload (pc := 44) K g6 g8 dX9_areLike_44 ?_
        refine Vw.lcmp_ne (pc := 45) (tgt := 53) K dX9_areLike_45 dX9_areLike_46 (by decide) (fun c9 => ?_) (fun c9 => ?_)
        · have h := wneg c9 h
          refine Vw.iconst (pc := 53) (v := (0 : Int32)) K (by decide) dX9_areLike_53 ?_
          exact Vw.loc rfl (s_X9_areLike_54 K E hr16 h)
        · have h := wpos c9 h
          refine Vw.iconst (pc := 49) (v := (1 : Int32)) K (by decide) dX9_areLike_49 ?_
          refine Vw.goto (pc := 50) (tgt := 54) K dX9_areLike_50 (by decide) ?_
          exact Vw.loc rfl (s_X9_areLike_54 K E hr16 h)
def k_X9_areLike_11  (A : Hp) (x0 : Nat) (x1 : Int32) (x2 : Int32) (x3 : Int32) (t0 : Int32) : Option (Int32) := k_X9_areLike_16 A x0 x1 x2 x3 FU t0 (0 : Int32)
set_option maxRecDepth 100000 in
theorem s_X9_areLike_11 {κ : KT} {r : Int32} {A : Hp} {x0 : Nat} {x1 : Int32} {x2 : Int32} {x3 : Int32} {t0 : Int32}  (K : Cx κ cX9_areLike 7 RX9 0 0 0 0) (E : Ed κ (some .boolean) "areLike" (.inl (some (.inl r))) A 0 0)  (h : k_X9_areLike_11  A x0 x1 x2 x3 t0 = some r) : Vw κ A 0 0 11 [(0, .inr (.inr x0)), (1, .inl x1), (2, .inl x2), (3, .inl x3)] [.inl t0] := by
  unfold k_X9_areLike_11 at h
  refine Vw.istore (pc := 11) K dX9_areLike_11 (by decide) ?_
  refine Vw.iconst (pc := 13) (v := (0 : Int32)) K (by decide) dX9_areLike_13 ?_
  refine Vw.istore (pc := 14) K dX9_areLike_14 (by decide) ?_
  exact Vw.loc rfl (s_X9_areLike_16 K E  _ _ _ h)
def f_X9_areLike (A : Hp) (x0 : Nat) (x1 : Int32) (x2 : Int32) (x3 : Int32) (x4 : Int32) : Option (Int32) := (if x2 = x4 then k_X9_areLike_11 A x0 x1 x2 x3 (1 : Int32) else k_X9_areLike_11 A x0 x1 x2 x3 (0 : Int32))
set_option maxRecDepth 100000 in
theorem s_X9_areLike {l : Launch} {g : GT} (hl : l.stackTraces = false) {A : Hp} {x0 : Nat} {x1 : Int32} {x2 : Int32} {x3 : Int32} {x4 : Int32} {r : Int32} (h : f_X9_areLike A x0 x1 x2 x3 x4 = some r) : MetV l g yX9_areLike (.code yX9_areLike cX9_areLike 7 (some .boolean)) [.inr (.inr x0), .inl x1, .inl x2, .inl x3, .inl x4] A (.inl (some (.inl r))) A 0 0 0 0 := by
  refine MetV.ofV hl (by decide +kernel) (Nat.le_of_ble_eq_true rfl) (fun κ K E => ?_)
  have K : Cx κ cX9_areLike 7 RX9 0 0 0 0 := K
  have E : Ed κ (some .boolean) "areLike" (.inl (some (.inl r))) A 0 0 := E
  unfold f_X9_areLike at h
  change Vw κ A 0 0 0 [(0, .inr (.inr x0)), (1, .inl x1), (2, .inl x2), (3, .inl x3), (4, .inl x4)] []
  refine Vw.iload_n (pc := 0) (x := x2) K dX9_areLike_0 rfl ?_
  refine Vw.iload (pc := 1) (x := x4) K dX9_areLike_1 rfl ?_
  refine Vw.icmp_ne (pc := 3) (tgt := 10) K dX9_areLike_3 (by decide) (fun c10 => ?_) (fun c10 => ?_)
  · have h := wneg c10 h
    refine Vw.iconst (pc := 10) (v := (0 : Int32)) K (by decide) dX9_areLike_10 ?_
    exact Vw.loc rfl (s_X9_areLike_11 K E  h)
  · have h := wpos c10 h
    refine Vw.iconst (pc := 6) (v := (1 : Int32)) K (by decide) dX9_areLike_6 ?_
    refine Vw.goto (pc := 7) (tgt := 11) K dX9_areLike_7 (by decide) ?_
    exact Vw.loc rfl (s_X9_areLike_11 K E  h)
theorem cal_X9_areLike : wCalV RX9 yX9_areLike (.code yX9_areLike cX9_areLike 7 (some .boolean)) 4 := ⟨by decide +kernel, u_6_204, us_3_12, u_1_9, u_6_205⟩
def k_X9_ordered_72  (A : Hp) (x2 : Int32) (x4 : Int32)  : Option (Int32) := (if x2 = x4 then some (0 : Int32) else (if x4 ≤ x2 then some (1 : Int32) else some (-1 : Int32)))
set_option maxRecDepth 100000 in
theorem s_X9_ordered_72 {κ : KT} {r : Int32} {A : Hp} {x2 : Int32} {x4 : Int32}   (K : Cx κ cX9_ordered 6 RX9 0 0 0 0) (E : Ed κ (some .int) "ordered" (.inl (some (.inl r))) A 0 0)  (h : k_X9_ordered_72  A x2 x4  = some r) : Vw κ A 0 0 72 [(2, .inl x2), (4, .inl x4)] [] := by
  unfold k_X9_ordered_72 at h
  refine Vw.iload_n (pc := 72) (x := x2) K dX9_ordered_72 rfl ?_
  refine Vw.iload (pc := 73) (x := x4) K dX9_ordered_73 rfl ?_
  refine Vw.icmp_ne (pc := 75) (tgt := 82) K dX9_ordered_75 (by decide) (fun c1 => ?_) (fun c1 => ?_)
  · have h := wneg c1 h
    refine Vw.iload_n (pc := 82) (x := x2) K dX9_ordered_82 rfl ?_
    refine Vw.iload (pc := 83) (x := x4) K dX9_ordered_83 rfl ?_
    refine Vw.icmp_ge (pc := 85) (tgt := 92) K dX9_ordered_85 (by decide) (fun c2 => ?_) (fun c2 => ?_)
    · have h := wpos c2 h
      refine Vw.iconst (pc := 92) (v := (1 : Int32)) K (by decide) dX9_ordered_92 ?_
      exact Vw.iretE (pc := 93) K (Option.some.inj h) rfl E (by decide) (by decide) dX9_ordered_93
    · have h := wneg c2 h
      refine Vw.iconst (pc := 88) (v := (-1 : Int32)) K (by decide) dX9_ordered_88 ?_
      refine Vw.goto (pc := 89) (tgt := 93) K dX9_ordered_89 (by decide) ?_
      exact Vw.iretE (pc := 93) K (Option.some.inj h) rfl E (by decide) (by decide) dX9_ordered_93
  · have h := wpos c1 h
    refine Vw.iconst (pc := 78) (v := (0 : Int32)) K (by decide) dX9_ordered_78 ?_
    refine Vw.goto (pc := 79) (tgt := 93) K dX9_ordered_79 (by decide) ?_
    exact Vw.iretE (pc := 93) K (Option.some.inj h) rfl E (by decide) (by decide) dX9_ordered_93
def k_X9_ordered_3s (A : Hp) (x0 : Nat) (x1 : Int32) (x2 : Int32) (x3 : Int32) (x4 : Int32)  (rec3 : Int32 → Option (Int32))  (x5 : Int32) : Option (Int32) := (if x2 ≤ x5 then k_X9_ordered_72 A x2 x4 else (if x4 ≤ x5 then k_X9_ordered_72 A x2 x4 else if (hsh A x0).1 = 8 then if (hsh A (hgR A 448 x0 0)).1 = 11 then if wix (x1 + x5) (hsh A (hgR A 448 x0 0)).2 then if wix (x3 + x5) (hsh A (hgR A 448 x0 0)).2 then (if (hgL A 1035 (hgR A 448 x0 0) (x1 + x5).toNatClampNeg) = (hgL A 1035 (hgR A 448 x0 0) (x3 + x5).toNatClampNeg) then rec3 (x5 + (1 : Int32)) else (if (hgL A 1035 (hgR A 448 x0 0) (x3 + x5).toNatClampNeg) ≤ (hgL A 1035 (hgR A 448 x0 0) (x1 + x5).toNatClampNeg) then some (1 : Int32) else some (-1 : Int32))) else none else none else none else none))
def k_X9_ordered_3 (A : Hp) (x0 : Nat) (x1 : Int32) (x2 : Int32) (x3 : Int32) (x4 : Int32)  : Nat → Int32 → Option (Int32)
  | 0 => fun _ => none
  | fu + 1 => k_X9_ordered_3s A x0 x1 x2 x3 x4  (k_X9_ordered_3 A x0 x1 x2 x3 x4  fu)
set_option maxRecDepth 100000 in
theorem s_X9_ordered_3 {κ : KT} {r : Int32} {A : Hp} {x0 : Nat} {x1 : Int32} {x2 : Int32} {x3 : Int32} {x4 : Int32}  (K : Cx κ cX9_ordered 6 RX9 0 0 0 0) (E : Ed κ (some .int) "ordered" (.inl (some (.inl r))) A 0 0)  : ∀ (fu : Nat)  (x5 : Int32),  k_X9_ordered_3 A x0 x1 x2 x3 x4  fu x5 = some r → Vw κ A 0 0 3 [(0, .inr (.inr x0)), (1, .inl x1), (2, .inl x2), (3, .inl x3), (4, .inl x4), (5, .inl x5)] [] := by
  intro fu
  induction fu with
  | zero => intro x5 h; cases h
  | succ fu hr3 =>
    intro x5 h
    have h : k_X9_ordered_3s A x0 x1 x2 x3 x4  (k_X9_ordered_3 A x0 x1 x2 x3 x4  fu) x5 = some r := h
    unfold k_X9_ordered_3s at h
    refine Vw.iload (pc := 3) (x := x5) K dX9_ordered_3 rfl ?_
    refine Vw.iload_n (pc := 5) (x := x2) K dX9_ordered_5 rfl ?_
    refine Vw.icmp_ge (pc := 6) (tgt := 72) K dX9_ordered_6 (by decide) (fun c3 => ?_) (fun c3 => ?_)
    · have h := wpos c3 h
      exact Vw.loc rfl (s_X9_ordered_72 K E  h)
    · have h := wneg c3 h
      refine Vw.iload (pc := 9) (x := x5) K dX9_ordered_9 rfl ?_
      refine Vw.iload (pc := 11) (x := x4) K dX9_ordered_11 rfl ?_
      refine Vw.icmp_ge (pc := 13) (tgt := 72) K dX9_ordered_13 (by decide) (fun c4 => ?_) (fun c4 => ?_)
      · have h := wpos c4 h
        exact Vw.loc rfl (s_X9_ordered_72 K E  h)
      · have h := wneg c4 h
        refine Vw.aload_n (pc := 16) (x := x0) K dX9_ordered_16 rfl ?_
        obtain ⟨g5, h⟩ := wgd h
        refine Vw.getR (pc := 17) (k := 0) (f := 448) K cls7 rfl rfl u_6_17 g5 dX9_ordered_17 ?_
        refine Vw.iload_n (pc := 20) (x := x1) K dX9_ordered_20 rfl ?_
        refine Vw.iload (pc := 21) (x := x5) K dX9_ordered_21 rfl ?_
        refine Vw.iadd (pc := 23) K dX9_ordered_23 ?_
        obtain ⟨g6, h⟩ := wgd h
        obtain ⟨g7, h⟩ := wgd h
        refine Vw.laload (pc := 24) K g6 g7 dX9_ordered_24 ?_
        refine Vw.aload_n (pc := 25) (x := x0) K dX9_ordered_25 rfl ?_
        refine Vw.getR (pc := 26) (k := 0) (f := 448) K cls7 rfl rfl u_6_17 g5 dX9_ordered_26 ?_
        refine Vw.iload_n (pc := 29) (x := x3) K dX9_ordered_29 rfl ?_
        refine Vw.iload (pc := 30) (x := x5) K dX9_ordered_30 rfl ?_
        refine Vw.iadd (pc := 32) K dX9_ordered_32 ?_
        obtain ⟨g8, h⟩ := wgd h
        refine Vw.laload (pc := 33) K g6 g8 dX9_ordered_33 ?_
        refine Vw.lcmp_eq (pc := 34) (tgt := 66) K dX9_ordered_34 dX9_ordered_35 (by decide) (fun c9 => ?_) (fun c9 => ?_)
        · have h := wpos c9 h
          refine Vw.iinc (pc := 66) (x := x5) (v := (1 : Int32)) K dX9_ordered_66 rfl (by decide) (by decide) ?_
          refine Vw.goto (pc := 69) (tgt := 3) K dX9_ordered_69 (by decide) ?_
          exact Vw.loc rfl (hr3 _ h)
        · have h := wneg c9 h
          refine Vw.aload_n (pc := 38) (x := x0) K dX9_ordered_38 rfl ?_
          refine Vw.getR (pc := 39) (k := 0) (f := 448) K cls7 rfl rfl u_6_17 g5 dX9_ordered_39 ?_
          refine Vw.iload_n (pc := 42) (x := x1) K dX9_ordered_42 rfl ?_
          refine Vw.iload (pc := 43) (x := x5) K dX9_ordered_43 rfl ?_
          refine Vw.iadd (pc := 45) K dX9_ordered_45 ?_
          refine Vw.laload (pc := 46) K g6 g7 dX9_ordered_46 ?_
          refine Vw.aload_n (pc := 47) (x := x0) K dX9_ordered_47 rfl ?_
          refine Vw.getR (pc := 48) (k := 0) (f := 448) K cls7 rfl rfl u_6_17 g5 dX9_ordered_48 ?_
          refine Vw.iload_n (pc := 51) (x := x3) K dX9_ordered_51 rfl ?_
          refine Vw.iload (pc := 52) (x := x5) K dX9_ordered_52 rfl ?_
          refine Vw.iadd (pc := 54) K dX9_ordered_54 ?_
          refine Vw.laload (pc := 55) K g6 g8 dX9_ordered_55 ?_
          refine Vw.lcmp_ge (pc := 56) (tgt := 64) K dX9_ordered_56 dX9_ordered_57 (by decide) (fun c10 => ?_) (fun c10 => ?_)
          · have h := wpos c10 h
            refine Vw.iconst (pc := 64) (v := (1 : Int32)) K (by decide) dX9_ordered_64 ?_
            exact Vw.iretE (pc := 65) K (Option.some.inj h) rfl E (by decide) (by decide) dX9_ordered_65
          · have h := wneg c10 h
            refine Vw.iconst (pc := 60) (v := (-1 : Int32)) K (by decide) dX9_ordered_60 ?_
            refine Vw.goto (pc := 61) (tgt := 65) K dX9_ordered_61 (by decide) ?_
            exact Vw.iretE (pc := 65) K (Option.some.inj h) rfl E (by decide) (by decide) dX9_ordered_65
def f_X9_ordered (A : Hp) (x0 : Nat) (x1 : Int32) (x2 : Int32) (x3 : Int32) (x4 : Int32) : Option (Int32) := k_X9_ordered_3 A x0 x1 x2 x3 x4 FU (0 : Int32)
set_option maxRecDepth 100000 in
theorem s_X9_ordered {l : Launch} {g : GT} (hl : l.stackTraces = false) {A : Hp} {x0 : Nat} {x1 : Int32} {x2 : Int32} {x3 : Int32} {x4 : Int32} {r : Int32} (h : f_X9_ordered A x0 x1 x2 x3 x4 = some r) : MetV l g yX9_ordered (.code yX9_ordered cX9_ordered 6 (some .int)) [.inr (.inr x0), .inl x1, .inl x2, .inl x3, .inl x4] A (.inl (some (.inl r))) A 0 0 0 0 := by
  refine MetV.ofV hl (by decide +kernel) (Nat.le_of_ble_eq_true rfl) (fun κ K E => ?_)
  have K : Cx κ cX9_ordered 6 RX9 0 0 0 0 := K
  have E : Ed κ (some .int) "ordered" (.inl (some (.inl r))) A 0 0 := E
  unfold f_X9_ordered at h
  change Vw κ A 0 0 0 [(0, .inr (.inr x0)), (1, .inl x1), (2, .inl x2), (3, .inl x3), (4, .inl x4)] []
  refine Vw.iconst (pc := 0) (v := (0 : Int32)) K (by decide) dX9_ordered_0 ?_
  refine Vw.istore (pc := 1) K dX9_ordered_1 (by decide) ?_
  exact Vw.loc rfl (s_X9_ordered_3 K E  _ _ h)
theorem cal_X9_ordered : wCalV RX9 yX9_ordered (.code yX9_ordered cX9_ordered 6 (some .int)) 4 := ⟨by decide +kernel, u_7_221, us_6_10, u_1_9, u_7_222⟩
def k_X9_begins_51 (rec16 : Int32 → Int32 → Option (Int32)) (A : Hp) (x0 : Nat) (x1 : Int32) (x3 : Nat) (x5 : Int32) (t0 : Int32) : Option (Int32) := rec16 t0 (x5 + (1 : Int32))
set_option maxRecDepth 100000 in
theorem s_X9_begins_51 {κ : KT} {r : Int32} {A : Hp} {x0 : Nat} {x1 : Int32} {x3 : Nat} {x5 : Int32} {t0 : Int32} {rec16 : Int32 → Int32 → Option (Int32)} (K : Cx κ cX9_begins 6 RX9 0 0 0 0) (E : Ed κ (some .boolean) "begins" (.inl (some (.inl r))) A 0 0) (hr16 : ∀ (x4 : Int32) (x5 : Int32), rec16 x4 x5 = some r → Vw κ A 0 0 16 [(0, .inr (.inr x0)), (1, .inl x1), (3, .inr (.inr x3)), (4, .inl x4), (5, .inl x5)] []) (h : k_X9_begins_51 rec16 A x0 x1 x3 x5 t0 = some r) : Vw κ A 0 0 51 [(0, .inr (.inr x0)), (1, .inl x1), (3, .inr (.inr x3)), (5, .inl x5)] [.inl t0] := by
  unfold k_X9_begins_51 at h
  refine Vw.istore (pc := 51) K dX9_begins_51 (by decide) ?_
  refine Vw.iinc (pc := 53) (x := x5) (v := (1 : Int32)) K dX9_begins_53 rfl (by decide) (by decide) ?_
  refine Vw.goto (pc := 56) (tgt := 16) K dX9_begins_56 (by decide) ?_
  exact Vw.loc rfl (hr16 _ _ h)
def k_X9_begins_16s (A : Hp) (x0 : Nat) (x1 : Int32) (x3 : Nat)  (rec16 : Int32 → Int32 → Option (Int32))  (x4 : Int32) (x5 : Int32) : Option (Int32) := if (hsh A x3).1 = 9 then (if (nI (hsh A x3).2) ≤ x5 then if wZ x4 then some x4 else none else (if x4 = (0 : Int32) then if wZ x4 then some x4 else none else if (hsh A x0).1 = 8 then if (hsh A (hgR A 448 x0 0)).1 = 11 then if wix (x1 + x5) (hsh A (hgR A 448 x0 0)).2 then if wix x5 (hsh A x3).2 then (if (hgL A 1035 (hgR A 448 x0 0) (x1 + x5).toNatClampNeg) = ((hgI A 1033 x3 x5.toNatClampNeg).toInt64) then k_X9_begins_51 rec16 A x0 x1 x3 x5 (1 : Int32) else k_X9_begins_51 rec16 A x0 x1 x3 x5 (0 : Int32)) else none else none else none else none)) else none
def k_X9_begins_16 (A : Hp) (x0 : Nat) (x1 : Int32) (x3 : Nat)  : Nat → Int32 → Int32 → Option (Int32)
  | 0 => fun _ _ => none
  | fu + 1 => k_X9_begins_16s A x0 x1 x3  (k_X9_begins_16 A x0 x1 x3  fu)
set_option maxRecDepth 100000 in
theorem s_X9_begins_16 {κ : KT} {r : Int32} {A : Hp} {x0 : Nat} {x1 : Int32} {x3 : Nat}  (K : Cx κ cX9_begins 6 RX9 0 0 0 0) (E : Ed κ (some .boolean) "begins" (.inl (some (.inl r))) A 0 0)  : ∀ (fu : Nat)  (x4 : Int32) (x5 : Int32),  k_X9_begins_16 A x0 x1 x3  fu x4 x5 = some r → Vw κ A 0 0 16 [(0, .inr (.inr x0)), (1, .inl x1), (3, .inr (.inr x3)), (4, .inl x4), (5, .inl x5)] [] := by
  intro fu
  induction fu with
  | zero => intro x4 x5 h; cases h
  | succ fu hr16 =>
    intro x4 x5 h
    have h : k_X9_begins_16s A x0 x1 x3  (k_X9_begins_16 A x0 x1 x3  fu) x4 x5 = some r := h
    unfold k_X9_begins_16s at h
    refine Vw.iload (pc := 16) (x := x5) K dX9_begins_16 rfl ?_
    refine Vw.aload_n (pc := 18) (x := x3) K dX9_begins_18 rfl ?_
    obtain ⟨g1, h⟩ := wgd h
    refine Vw.alenC (pc := 19) K g1 dX9_begins_19 ?_
    refine Vw.icmp_ge (pc := 20) (tgt := 59) K dX9_begins_20 (by decide) (fun c2 => ?_) (fun c2 => ?_)
    · have h := wpos c2 h
      refine Vw.iload (pc := 59) (x := x4) K dX9_begins_59 rfl ?_
      obtain ⟨g3, h⟩ := wgd h
      exact Vw.zretE (pc := 61) K g3 (Option.some.inj h) rfl E (by decide) (by decide) dX9_begins_61
    · have h := wneg c2 h
      refine Vw.iload (pc := 23) (x := x4) K dX9_begins_23 rfl ?_
      refine Vw.if_eq (pc := 25) (tgt := 59) K dX9_begins_25 (by decide) (fun c4 => ?_) (fun c4 => ?_)
      · have h := wpos c4 h
        refine Vw.iload (pc := 59) (x := x4) K dX9_begins_59 rfl ?_
        obtain ⟨g5, h⟩ := wgd h
        exact Vw.zretE (pc := 61) K g5 (Option.some.inj h) rfl E (by decide) (by decide) dX9_begins_61
      · have h := wneg c4 h
        refine Vw.aload_n (pc := 28) (x := x0) K dX9_begins_28 rfl ?_
        obtain ⟨g6, h⟩ := wgd h
        refine Vw.getR (pc := 29) (k := 0) (f := 448) K cls7 rfl rfl u_6_17 g6 dX9_begins_29 ?_
        refine Vw.iload_n (pc := 32) (x := x1) K dX9_begins_32 rfl ?_
        refine Vw.iload (pc := 33) (x := x5) K dX9_begins_33 rfl ?_
        refine Vw.iadd (pc := 35) K dX9_begins_35 ?_
        obtain ⟨g7, h⟩ := wgd h
        obtain ⟨g8, h⟩ := wgd h
        refine Vw.laload (pc := 36) K g7 g8 dX9_begins_36 ?_
        refine Vw.aload_n (pc := 37) (x := x3) K dX9_begins_37 rfl ?_
        refine Vw.iload (pc := 38) (x := x5) K dX9_begins_38 rfl ?_
        obtain ⟨g9, h⟩ := wgd h
        refine Vw.caload (pc := 40) K g1 g9 dX9_begins_40 ?_
        refine Vw.i2l (pc := 41) K dX9_begins_41 ?_
        refine Vw.lcmp_ne (pc := 42) (tgt := 50) K dX9_begins_42 dX9_begins_43 (by decide) (fun c10 => ?_) (fun c10 => ?_)
        · have h := wneg c10 h
          refine Vw.iconst (pc := 50) (v := (0 : Int32)) K (by decide) dX9_begins_50 ?_
          exact Vw.loc rfl (s_X9_begins_51 K E hr16 h)
        · have h := wpos c10 h
          refine Vw.iconst (pc := 46) (v := (1 : Int32)) K (by decide) dX9_begins_46 ?_
          refine Vw.goto (pc := 47) (tgt := 51) K dX9_begins_47 (by decide) ?_
          exact Vw.loc rfl (s_X9_begins_51 K E hr16 h)
def k_X9_begins_11  (A : Hp) (x0 : Nat) (x1 : Int32) (x3 : Nat) (t0 : Int32) : Option (Int32) := k_X9_begins_16 A x0 x1 x3 FU t0 (0 : Int32)
set_option maxRecDepth 100000 in
theorem s_X9_begins_11 {κ : KT} {r : Int32} {A : Hp} {x0 : Nat} {x1 : Int32} {x3 : Nat} {t0 : Int32}  (K : Cx κ cX9_begins 6 RX9 0 0 0 0) (E : Ed κ (some .boolean) "begins" (.inl (some (.inl r))) A 0 0)  (h : k_X9_begins_11  A x0 x1 x3 t0 = some r) : Vw κ A 0 0 11 [(0, .inr (.inr x0)), (1, .inl x1), (3, .inr (.inr x3))] [.inl t0] := by
  unfold k_X9_begins_11 at h
  refine Vw.istore (pc := 11) K dX9_begins_11 (by decide) ?_
  refine Vw.iconst (pc := 13) (v := (0 : Int32)) K (by decide) dX9_begins_13 ?_
  refine Vw.istore (pc := 14) K dX9_begins_14 (by decide) ?_
  exact Vw.loc rfl (s_X9_begins_16 K E  _ _ _ h)
def f_X9_begins (A : Hp) (x0 : Nat) (x1 : Int32) (x2 : Int32) (x3 : Nat) : Option (Int32) := if (hsh A x3).1 = 9 then (if x2 < (nI (hsh A x3).2) then k_X9_begins_11 A x0 x1 x3 (0 : Int32) else k_X9_begins_11 A x0 x1 x3 (1 : Int32)) else none
set_option maxRecDepth 100000 in
theorem s_X9_begins {l : Launch} {g : GT} (hl : l.stackTraces = false) {A : Hp} {x0 : Nat} {x1 : Int32} {x2 : Int32} {x3 : Nat} {r : Int32} (h : f_X9_begins A x0 x1 x2 x3 = some r) : MetV l g yX9_begins (.code yX9_begins cX9_begins 6 (some .boolean)) [.inr (.inr x0), .inl x1, .inl x2, .inr (.inr x3)] A (.inl (some (.inl r))) A 0 0 0 0 := by
  refine MetV.ofV hl (by decide +kernel) (Nat.le_of_ble_eq_true rfl) (fun κ K E => ?_)
  have K : Cx κ cX9_begins 6 RX9 0 0 0 0 := K
  have E : Ed κ (some .boolean) "begins" (.inl (some (.inl r))) A 0 0 := E
  unfold f_X9_begins at h
  change Vw κ A 0 0 0 [(0, .inr (.inr x0)), (1, .inl x1), (2, .inl x2), (3, .inr (.inr x3))] []
  refine Vw.iload_n (pc := 0) (x := x2) K dX9_begins_0 rfl ?_
  refine Vw.aload_n (pc := 1) (x := x3) K dX9_begins_1 rfl ?_
  obtain ⟨g11, h⟩ := wgd h
  refine Vw.alenC (pc := 2) K g11 dX9_begins_2 ?_
  refine Vw.icmp_lt (pc := 3) (tgt := 10) K dX9_begins_3 (by decide) (fun c12 => ?_) (fun c12 => ?_)
  · have h := wpos c12 h
    refine Vw.iconst (pc := 10) (v := (0 : Int32)) K (by decide) dX9_begins_10 ?_
    exact Vw.loc rfl (s_X9_begins_11 K E  h)
  · have h := wneg c12 h
    refine Vw.iconst (pc := 6) (v := (1 : Int32)) K (by decide) dX9_begins_6 ?_
    refine Vw.goto (pc := 7) (tgt := 11) K dX9_begins_7 (by decide) ?_
    exact Vw.loc rfl (s_X9_begins_11 K E  h)
theorem cal_X9_begins : wCalV RX9 yX9_begins (.code yX9_begins cX9_begins 6 (some .boolean)) 3 := ⟨by decide +kernel, u_7_115, us_5_4, u_1_9, u_7_116⟩
def k_X9_copies_3s  (x0 : Nat) (x1 : Int32) (x2 : Int32) (x3 : Int32)  (rec3 : Hp → Int32 → Option (Hp)) (A : Hp) (x4 : Int32) : Option (Hp) := (if x2 ≤ x4 then some A else if (hsh A x0).1 = 8 then if (hsh A (hgR A 448 x0 0)).1 = 11 then if wix (x1 + x4) (hsh A (hgR A 448 x0 0)).2 then if wix (x3 + x4) (hsh A (hgR A 448 x0 0)).2 then rec3 (hsL A 1035 (hgR A 448 x0 0) (x3 + x4).toNatClampNeg (hgL A 1035 (hgR A 448 x0 0) (x1 + x4).toNatClampNeg)) (x4 + (1 : Int32)) else none else none else none else none)
def k_X9_copies_3  (x0 : Nat) (x1 : Int32) (x2 : Int32) (x3 : Int32)  : Nat → Hp → Int32 → Option (Hp)
  | 0 => fun _ _ => none
  | fu + 1 => k_X9_copies_3s x0 x1 x2 x3  (k_X9_copies_3 x0 x1 x2 x3  fu)
set_option maxRecDepth 100000 in
theorem s_X9_copies_3 {κ : KT} {B : Hp}  {x0 : Nat} {x1 : Int32} {x2 : Int32} {x3 : Int32}  (K : Cx κ cX9_copies 5 RX9 0 0 0 0) (E : Ed κ none "copies" (.inl none) B 0 0)  : ∀ (fu : Nat) (A : Hp) (x4 : Int32),  k_X9_copies_3 x0 x1 x2 x3  fu A x4 = some B → Vw κ A 0 0 3 [(0, .inr (.inr x0)), (1, .inl x1), (2, .inl x2), (3, .inl x3), (4, .inl x4)] [] := by
  intro fu
  induction fu with
  | zero => intro A x4 h; cases h
  | succ fu hr3 =>
    intro A x4 h
    have h : k_X9_copies_3s x0 x1 x2 x3  (k_X9_copies_3 x0 x1 x2 x3  fu) A x4 = some B := h
    unfold k_X9_copies_3s at h
    refine Vw.iload (pc := 3) (x := x4) K dX9_copies_3 rfl ?_
    refine Vw.iload_n (pc := 5) (x := x2) K dX9_copies_5 rfl ?_
    refine Vw.icmp_ge (pc := 6) (tgt := 33) K dX9_copies_6 (by decide) (fun c1 => ?_) (fun c1 => ?_)
    · have h := wpos c1 h
      exact Vw.vretE (pc := 33) K (Option.some.inj h) E (by decide) (by decide) dX9_copies_33
    · have h := wneg c1 h
      refine Vw.aload_n (pc := 9) (x := x0) K dX9_copies_9 rfl ?_
      obtain ⟨g2, h⟩ := wgd h
      refine Vw.getR (pc := 10) (k := 0) (f := 448) K cls7 rfl rfl u_6_17 g2 dX9_copies_10 ?_
      refine Vw.iload_n (pc := 13) (x := x3) K dX9_copies_13 rfl ?_
      refine Vw.iload (pc := 14) (x := x4) K dX9_copies_14 rfl ?_
      refine Vw.iadd (pc := 16) K dX9_copies_16 ?_
      refine Vw.aload_n (pc := 17) (x := x0) K dX9_copies_17 rfl ?_
      refine Vw.getR (pc := 18) (k := 0) (f := 448) K cls7 rfl rfl u_6_17 g2 dX9_copies_18 ?_
      refine Vw.iload_n (pc := 21) (x := x1) K dX9_copies_21 rfl ?_
      refine Vw.iload (pc := 22) (x := x4) K dX9_copies_22 rfl ?_
      refine Vw.iadd (pc := 24) K dX9_copies_24 ?_
      obtain ⟨g3, h⟩ := wgd h
      obtain ⟨g4, h⟩ := wgd h
      refine Vw.laload (pc := 25) K g3 g4 dX9_copies_25 ?_
      obtain ⟨g5, h⟩ := wgd h
      refine Vw.lastore (pc := 26) K g3 g5 dX9_copies_26 ?_
      refine Vw.iinc (pc := 27) (x := x4) (v := (1 : Int32)) K dX9_copies_27 rfl (by decide) (by decide) ?_
      refine Vw.goto (pc := 30) (tgt := 3) K dX9_copies_30 (by decide) ?_
      exact Vw.loc rfl (hr3 _ _ h)
def f_X9_copies (A : Hp) (x0 : Nat) (x1 : Int32) (x2 : Int32) (x3 : Int32) : Option (Hp) := k_X9_copies_3 x0 x1 x2 x3 FU A (0 : Int32)
set_option maxRecDepth 100000 in
theorem s_X9_copies {l : Launch} {g : GT} (hl : l.stackTraces = false) {A : Hp} {x0 : Nat} {x1 : Int32} {x2 : Int32} {x3 : Int32} {B : Hp} (h : f_X9_copies A x0 x1 x2 x3 = some B) : MetV l g yX9_copies (.code yX9_copies cX9_copies 5 none) [.inr (.inr x0), .inl x1, .inl x2, .inl x3] A (.inl none) B 0 0 0 0 := by
  refine MetV.ofV hl (by decide +kernel) (Nat.le_of_ble_eq_true rfl) (fun κ K E => ?_)
  have K : Cx κ cX9_copies 5 RX9 0 0 0 0 := K
  have E : Ed κ none "copies" (.inl none) B 0 0 := E
  unfold f_X9_copies at h
  change Vw κ A 0 0 0 [(0, .inr (.inr x0)), (1, .inl x1), (2, .inl x2), (3, .inl x3)] []
  refine Vw.iconst (pc := 0) (v := (0 : Int32)) K (by decide) dX9_copies_0 ?_
  refine Vw.istore (pc := 1) K dX9_copies_1 (by decide) ?_
  exact Vw.loc rfl (s_X9_copies_3 K E  _ _ _ h)
theorem cal_X9_copies : wCalV RX9 yX9_copies (.code yX9_copies cX9_copies 5 none) 3 := ⟨by decide +kernel, u_6_172, us_3_6, u_1_9, u_6_173⟩
def k_X9_isLabelSign_34  (A : Hp)   : Option (Int32) := some (1 : Int32)
set_option maxRecDepth 100000 in
theorem s_X9_isLabelSign_34 {κ : KT} {r : Int32} {A : Hp}    (K : Cx κ cX9_isLabelSign 2 RX9 1 25 0 0) (E : Ed κ (some .boolean) "isLabelSign" (.inl (some (.inl r))) A 0 0)  (h : k_X9_isLabelSign_34  A   = some r) : Vw κ A 0 0 34 [] [] := by
  unfold k_X9_isLabelSign_34 at h
  refine Vw.iconst (pc := 34) (v := (1 : Int32)) K (by decide) dX9_isLabelSign_34 ?_
  refine Vw.goto (pc := 35) (tgt := 39) K dX9_isLabelSign_35 (by decide) ?_
  exact Vw.zretE (pc := 39) K (Or.inr rfl) (Option.some.inj h) rfl E (by decide) (by decide) dX9_isLabelSign_39
def f_X9_isLabelSign (A : Hp) (x0 : Int64) : Option (Int32) := ((f_X9_in A x0 (97 : Int64) (122 : Int64)).bind fun v2 => (if v2 = (0 : Int32) then ((f_X9_in A x0 (48 : Int64) (57 : Int64)).bind fun v5 => (if v5 = (0 : Int32) then (if x0 = (45 : Int64) then k_X9_isLabelSign_34 A else some (0 : Int32)) else k_X9_isLabelSign_34 A)) else k_X9_isLabelSign_34 A))
set_option maxRecDepth 100000 in
theorem s_X9_isLabelSign {l : Launch} {g : GT} (hl : l.stackTraces = false) {A : Hp} {x0 : Int64} {r : Int32} (h : f_X9_isLabelSign A x0 = some r) : MetV l g yX9_isLabelSign (.code yX9_isLabelSign cX9_isLabelSign 2 (some .boolean)) [.inr (.inl x0)] A (.inl (some (.inl r))) A 1 25 0 0 := by
  refine MetV.ofV hl (by decide +kernel) (Nat.le_of_ble_eq_true rfl) (fun κ K E => ?_)
  have K : Cx κ cX9_isLabelSign 2 RX9 1 25 0 0 := K
  have E : Ed κ (some .boolean) "isLabelSign" (.inl (some (.inl r))) A 0 0 := E
  unfold f_X9_isLabelSign at h
  change Vw κ A 0 0 0 [(0, .inr (.inl x0))] []
  refine Vw.lload_n (pc := 0) (x := x0) K dX9_isLabelSign_0 rfl ?_
  refine Vw.ldc2 (pc := 1) (v := (97 : Int64)) K u_6_159 dX9_isLabelSign_1 ?_
  refine Vw.ldc2 (pc := 4) (v := (122 : Int64)) K u_6_160 dX9_isLabelSign_4 ?_
  obtain ⟨v2, e1, h⟩ := wbd h
  refine Vw.cS1 (pc := 7) (v := .inl v2) (c' := 0) (n' := 0) K (s_X9_in K.tr e1) cal_X9_in u_6_161 rfl ⟨by decide, by decide⟩ ⟨by decide, by decide⟩ rfl (Nat.le_of_ble_eq_true rfl) dX9_isLabelSign_7 rfl rfl ?_
  refine Vw.if_ne (pc := 10) (tgt := 34) K dX9_isLabelSign_10 (by decide) (fun c3 => ?_) (fun c3 => ?_)
  · have h := wneg c3 h
    exact Vw.loc rfl (s_X9_isLabelSign_34 K E  h)
  · have h := wpos c3 h
    refine Vw.lload_n (pc := 13) (x := x0) K dX9_isLabelSign_13 rfl ?_
    refine Vw.ldc2 (pc := 14) (v := (48 : Int64)) K u_6_164 dX9_isLabelSign_14 ?_
    refine Vw.ldc2 (pc := 17) (v := (57 : Int64)) K u_6_165 dX9_isLabelSign_17 ?_
    obtain ⟨v5, e4, h⟩ := wbd h
    refine Vw.cS1 (pc := 20) (v := .inl v5) (c' := 0) (n' := 0) K (s_X9_in K.tr e4) cal_X9_in u_6_161 rfl ⟨by decide, by decide⟩ ⟨by decide, by decide⟩ rfl (Nat.le_of_ble_eq_true rfl) dX9_isLabelSign_20 rfl rfl ?_
    refine Vw.if_ne (pc := 23) (tgt := 34) K dX9_isLabelSign_23 (by decide) (fun c6 => ?_) (fun c6 => ?_)
    · have h := wneg c6 h
      exact Vw.loc rfl (s_X9_isLabelSign_34 K E  h)
    · have h := wpos c6 h
      refine Vw.lload_n (pc := 26) (x := x0) K dX9_isLabelSign_26 rfl ?_
      refine Vw.ldc2 (pc := 27) (v := (45 : Int64)) K u_6_166 dX9_isLabelSign_27 ?_
      refine Vw.lcmp_ne (pc := 30) (tgt := 38) K dX9_isLabelSign_30 dX9_isLabelSign_31 (by decide) (fun c7 => ?_) (fun c7 => ?_)
      · have h := wneg c7 h
        refine Vw.iconst (pc := 38) (v := (0 : Int32)) K (by decide) dX9_isLabelSign_38 ?_
        exact Vw.zretE (pc := 39) K (Or.inl rfl) (Option.some.inj h) rfl E (by decide) (by decide) dX9_isLabelSign_39
      · have h := wpos c7 h
        exact Vw.loc rfl (s_X9_isLabelSign_34 K E  h)
theorem cal_X9_isLabelSign : wCalS yX9_isLabelSign (.code yX9_isLabelSign cX9_isLabelSign 2 (some .boolean)) 1 := ⟨by decide +kernel, u_6_157, u_1_9, u_6_158⟩
def k_X9_isDomain_102 (rec13 : Int32 → Int32 → Option (Int32)) (A : Hp) (x0 : Nat) (x1 : Int32) (x2 : Int32) (x4 : Int32) (t0 : Int32) : Option (Int32) := rec13 t0 (x4 + (1 : Int32))
set_option maxRecDepth 100000 in
theorem s_X9_isDomain_102 {κ : KT} {r : Int32} {A : Hp} {x0 : Nat} {x1 : Int32} {x2 : Int32} {x4 : Int32} {t0 : Int32} {rec13 : Int32 → Int32 → Option (Int32)} (K : Cx κ cX9_isDomain 6 RX9 2 46 0 0) (E : Ed κ (some .boolean) "isDomain" (.inl (some (.inl r))) A 0 0) (hr13 : ∀ (x3 : Int32) (x4 : Int32), rec13 x3 x4 = some r → Vw κ A 0 0 13 [(0, .inr (.inr x0)), (1, .inl x1), (2, .inl x2), (3, .inl x3), (4, .inl x4)] []) (h : k_X9_isDomain_102 rec13 A x0 x1 x2 x4 t0 = some r) : Vw κ A 0 0 102 [(0, .inr (.inr x0)), (1, .inl x1), (2, .inl x2), (4, .inl x4)] [.inl t0] := by
  unfold k_X9_isDomain_102 at h
  refine Vw.istore_n (pc := 102) K dX9_isDomain_102 (by decide) ?_
  refine Vw.iinc (pc := 103) (x := x4) (v := (1 : Int32)) K dX9_isDomain_103 rfl (by decide) (by decide) ?_
  refine Vw.goto (pc := 106) (tgt := 13) K dX9_isDomain_106 (by decide) ?_
  exact Vw.loc rfl (hr13 _ _ h)
def k_X9_isDomain_97 (rec13 : Int32 → Int32 → Option (Int32)) (A : Hp) (x0 : Nat) (x1 : Int32) (x2 : Int32) (x4 : Int32)  : Option (Int32) := k_X9_isDomain_102 rec13 A x0 x1 x2 x4 (1 : Int32)
set_option maxRecDepth 100000 in
theorem s_X9_isDomain_97 {κ : KT} {r : Int32} {A : Hp} {x0 : Nat} {x1 : Int32} {x2 : Int32} {x4 : Int32}  {rec13 : Int32 → Int32 → Option (Int32)} (K : Cx κ cX9_isDomain 6 RX9 2 46 0 0) (E : Ed κ (some .boolean) "isDomain" (.inl (some (.inl r))) A 0 0) (hr13 : ∀ (x3 : Int32) (x4 : Int32), rec13 x3 x4 = some r → Vw κ A 0 0 13 [(0, .inr (.inr x0)), (1, .inl x1), (2, .inl x2), (3, .inl x3), (4, .inl x4)] []) (h : k_X9_isDomain_97 rec13 A x0 x1 x2 x4  = some r) : Vw κ A 0 0 97 [(0, .inr (.inr x0)), (1, .inl x1), (2, .inl x2), (4, .inl x4)] [] := by
  unfold k_X9_isDomain_97 at h
  refine Vw.iconst (pc := 97) (v := (1 : Int32)) K (by decide) dX9_isDomain_97 ?_
  refine Vw.goto (pc := 98) (tgt := 102) K dX9_isDomain_98 (by decide) ?_
  exact Vw.loc rfl (s_X9_isDomain_102 K E hr13 h)
def k_X9_isDomain_75 (rec13 : Int32 → Int32 → Option (Int32)) (A : Hp) (x0 : Nat) (x1 : Int32) (x2 : Int32) (x4 : Int32) (t0 : Int32) : Option (Int32) := (if t0 = (0 : Int32) then if (hsh A x0).1 = 8 then if (hsh A (hgR A 448 x0 0)).1 = 11 then if wix (x1 + x4) (hsh A (hgR A 448 x0 0)).2 then ((f_X9_isLabelSign A (hgL A 1035 (hgR A 448 x0 0) (x1 + x4).toNatClampNeg)).bind fun v6 => (if v6 = (0 : Int32) then k_X9_isDomain_102 rec13 A x0 x1 x2 x4 (0 : Int32) else k_X9_isDomain_97 rec13 A x0 x1 x2 x4)) else none else none else none else k_X9_isDomain_97 rec13 A x0 x1 x2 x4)
set_option maxRecDepth 100000 in
theorem s_X9_isDomain_75 {κ : KT} {r : Int32} {A : Hp} {x0 : Nat} {x1 : Int32} {x2 : Int32} {x4 : Int32} {t0 : Int32} {rec13 : Int32 → Int32 → Option (Int32)} (K : Cx κ cX9_isDomain 6 RX9 2 46 0 0) (E : Ed κ (some .boolean) "isDomain" (.inl (some (.inl r))) A 0 0) (hr13 : ∀ (x3 : Int32) (x4 : Int32), rec13 x3 x4 = some r → Vw κ A 0 0 13 [(0, .inr (.inr x0)), (1, .inl x1), (2, .inl x2), (3, .inl x3), (4, .inl x4)] []) (h : k_X9_isDomain_75 rec13 A x0 x1 x2 x4 t0 = some r) : Vw κ A 0 0 75 [(0, .inr (.inr x0)), (1, .inl x1), (2, .inl x2), (4, .inl x4)] [.inl t0] := by
  unfold k_X9_isDomain_75 at h
  refine Vw.istore (pc := 75) K dX9_isDomain_75 (by decide) ?_
  refine Vw.iload (pc := 77) (x := t0) K dX9_isDomain_77 rfl ?_
  refine Vw.if_ne (pc := 79) (tgt := 97) K dX9_isDomain_79 (by decide) (fun c1 => ?_) (fun c1 => ?_)
  · have h := wneg c1 h
    exact Vw.loc rfl (s_X9_isDomain_97 K E hr13 h)
  · have h := wpos c1 h
    refine Vw.aload_n (pc := 82) (x := x0) K dX9_isDomain_82 rfl ?_
    obtain ⟨g2, h⟩ := wgd h
    refine Vw.getR (pc := 83) (k := 0) (f := 448) K cls7 rfl rfl u_6_17 g2 dX9_isDomain_83 ?_
    refine Vw.iload_n (pc := 86) (x := x1) K dX9_isDomain_86 rfl ?_
    refine Vw.iload (pc := 87) (x := x4) K dX9_isDomain_87 rfl ?_
    refine Vw.iadd (pc := 89) K dX9_isDomain_89 ?_
    obtain ⟨g3, h⟩ := wgd h
    obtain ⟨g4, h⟩ := wgd h
    refine Vw.laload (pc := 90) K g3 g4 dX9_isDomain_90 ?_
    obtain ⟨v6, e5, h⟩ := wbd h
    refine Vw.cS1 (pc := 91) (v := .inl v6) (c' := 0) (n' := 0) K (s_X9_isLabelSign K.tr e5) cal_X9_isLabelSign u_6_156 rfl ⟨by decide, by decide⟩ ⟨by decide, by decide⟩ rfl (Nat.le_of_ble_eq_true rfl) dX9_isDomain_91 rfl rfl ?_
    refine Vw.if_eq (pc := 94) (tgt := 101) K dX9_isDomain_94 (by decide) (fun c7 => ?_) (fun c7 => ?_)
    · have h := wpos c7 h
      refine Vw.iconst (pc := 101) (v := (0 : Int32)) K (by decide) dX9_isDomain_101 ?_
      exact Vw.loc rfl (s_X9_isDomain_102 K E hr13 h)
    · have h := wneg c7 h
      exact Vw.loc rfl (s_X9_isDomain_97 K E hr13 h)
def k_X9_isDomain_74 (rec13 : Int32 → Int32 → Option (Int32)) (A : Hp) (x0 : Nat) (x1 : Int32) (x2 : Int32) (x4 : Int32)  : Option (Int32) := k_X9_isDomain_75 rec13 A x0 x1 x2 x4 (0 : Int32)
set_option maxRecDepth 100000 in
theorem s_X9_isDomain_74 {κ : KT} {r : Int32} {A : Hp} {x0 : Nat} {x1 : Int32} {x2 : Int32} {x4 : Int32}  {rec13 : Int32 → Int32 → Option (Int32)} (K : Cx κ cX9_isDomain 6 RX9 2 46 0 0) (E : Ed κ (some .boolean) "isDomain" (.inl (some (.inl r))) A 0 0) (hr13 : ∀ (x3 : Int32) (x4 : Int32), rec13 x3 x4 = some r → Vw κ A 0 0 13 [(0, .inr (.inr x0)), (1, .inl x1), (2, .inl x2), (3, .inl x3), (4, .inl x4)] []) (h : k_X9_isDomain_74 rec13 A x0 x1 x2 x4  = some r) : Vw κ A 0 0 74 [(0, .inr (.inr x0)), (1, .inl x1), (2, .inl x2), (4, .inl x4)] [] := by
  unfold k_X9_isDomain_74 at h
  refine Vw.iconst (pc := 74) (v := (0 : Int32)) K (by decide) dX9_isDomain_74 ?_
  exact Vw.loc rfl (s_X9_isDomain_75 K E hr13 h)
def k_X9_isDomain_13s (A : Hp) (x0 : Nat) (x1 : Int32) (x2 : Int32)  (rec13 : Int32 → Int32 → Option (Int32))  (x3 : Int32) (x4 : Int32) : Option (Int32) := (if x2 ≤ x4 then if wZ x3 then some x3 else none else (if x3 = (0 : Int32) then if wZ x3 then some x3 else none else if (hsh A x0).1 = 8 then if (hsh A (hgR A 448 x0 0)).1 = 11 then if wix (x1 + x4) (hsh A (hgR A 448 x0 0)).2 then (if (hgL A 1035 (hgR A 448 x0 0) (x1 + x4).toNatClampNeg) = (46 : Int64) then (if x4 ≤ (0 : Int32) then k_X9_isDomain_74 rec13 A x0 x1 x2 x4 else (if (x2 - (1 : Int32)) ≤ x4 then k_X9_isDomain_74 rec13 A x0 x1 x2 x4 else if wix ((x1 + x4) - (1 : Int32)) (hsh A (hgR A 448 x0 0)).2 then (if (hgL A 1035 (hgR A 448 x0 0) ((x1 + x4) - (1 : Int32)).toNatClampNeg) = (46 : Int64) then k_X9_isDomain_74 rec13 A x0 x1 x2 x4 else k_X9_isDomain_75 rec13 A x0 x1 x2 x4 (1 : Int32)) else none)) else k_X9_isDomain_74 rec13 A x0 x1 x2 x4) else none else none else none))
def k_X9_isDomain_13 (A : Hp) (x0 : Nat) (x1 : Int32) (x2 : Int32)  : Nat → Int32 → Int32 → Option (Int32)
  | 0 => fun _ _ => none
  | fu + 1 => k_X9_isDomain_13s A x0 x1 x2  (k_X9_isDomain_13 A x0 x1 x2  fu)
set_option maxRecDepth 100000 in
theorem s_X9_isDomain_13 {κ : KT} {r : Int32} {A : Hp} {x0 : Nat} {x1 : Int32} {x2 : Int32}  (K : Cx κ cX9_isDomain 6 RX9 2 46 0 0) (E : Ed κ (some .boolean) "isDomain" (.inl (some (.inl r))) A 0 0)  : ∀ (fu : Nat)  (x3 : Int32) (x4 : Int32),  k_X9_isDomain_13 A x0 x1 x2  fu x3 x4 = some r → Vw κ A 0 0 13 [(0, .inr (.inr x0)), (1, .inl x1), (2, .inl x2), (3, .inl x3), (4, .inl x4)] [] := by
  intro fu
  induction fu with
  | zero => intro x3 x4 h; cases h
  | succ fu hr13 =>
    intro x3 x4 h
    have h : k_X9_isDomain_13s A x0 x1 x2  (k_X9_isDomain_13 A x0 x1 x2  fu) x3 x4 = some r := h
    unfold k_X9_isDomain_13s at h
    refine Vw.iload (pc := 13) (x := x4) K dX9_isDomain_13 rfl ?_
    refine Vw.iload_n (pc := 15) (x := x2) K dX9_isDomain_15 rfl ?_
    refine Vw.icmp_ge (pc := 16) (tgt := 109) K dX9_isDomain_16 (by decide) (fun c8 => ?_) (fun c8 => ?_)
    · have h := wpos c8 h
      refine Vw.iload_n (pc := 109) (x := x3) K dX9_isDomain_109 rfl ?_
      obtain ⟨g9, h⟩ := wgd h
      exact Vw.zretE (pc := 110) K g9 (Option.some.inj h) rfl E (by decide) (by decide) dX9_isDomain_110
    · have h := wneg c8 h
      refine Vw.iload_n (pc := 19) (x := x3) K dX9_isDomain_19 rfl ?_
      refine Vw.if_eq (pc := 20) (tgt := 109) K dX9_isDomain_20 (by decide) (fun c10 => ?_) (fun c10 => ?_)
      · have h := wpos c10 h
        refine Vw.iload_n (pc := 109) (x := x3) K dX9_isDomain_109 rfl ?_
        obtain ⟨g11, h⟩ := wgd h
        exact Vw.zretE (pc := 110) K g11 (Option.some.inj h) rfl E (by decide) (by decide) dX9_isDomain_110
      · have h := wneg c10 h
        refine Vw.aload_n (pc := 23) (x := x0) K dX9_isDomain_23 rfl ?_
        obtain ⟨g12, h⟩ := wgd h
        refine Vw.getR (pc := 24) (k := 0) (f := 448) K cls7 rfl rfl u_6_17 g12 dX9_isDomain_24 ?_
        refine Vw.iload_n (pc := 27) (x := x1) K dX9_isDomain_27 rfl ?_
        refine Vw.iload (pc := 28) (x := x4) K dX9_isDomain_28 rfl ?_
        refine Vw.iadd (pc := 30) K dX9_isDomain_30 ?_
        obtain ⟨g13, h⟩ := wgd h
        obtain ⟨g14, h⟩ := wgd h
        refine Vw.laload (pc := 31) K g13 g14 dX9_isDomain_31 ?_
        refine Vw.ldc2 (pc := 32) (v := (46 : Int64)) K u_6_167 dX9_isDomain_32 ?_
        refine Vw.lcmp_ne (pc := 35) (tgt := 74) K dX9_isDomain_35 dX9_isDomain_36 (by decide) (fun c15 => ?_) (fun c15 => ?_)
        · have h := wneg c15 h
          exact Vw.loc rfl (s_X9_isDomain_74 K E hr13 h)
        · have h := wpos c15 h
          refine Vw.iload (pc := 39) (x := x4) K dX9_isDomain_39 rfl ?_
          refine Vw.if_le (pc := 41) (tgt := 74) K dX9_isDomain_41 (by decide) (fun c16 => ?_) (fun c16 => ?_)
          · have h := wpos c16 h
            exact Vw.loc rfl (s_X9_isDomain_74 K E hr13 h)
          · have h := wneg c16 h
            refine Vw.iload (pc := 44) (x := x4) K dX9_isDomain_44 rfl ?_
            refine Vw.iload_n (pc := 46) (x := x2) K dX9_isDomain_46 rfl ?_
            refine Vw.iconst (pc := 47) (v := (1 : Int32)) K (by decide) dX9_isDomain_47 ?_
            refine Vw.isub (pc := 48) K dX9_isDomain_48 ?_
            refine Vw.icmp_ge (pc := 49) (tgt := 74) K dX9_isDomain_49 (by decide) (fun c17 => ?_) (fun c17 => ?_)
            · have h := wpos c17 h
              exact Vw.loc rfl (s_X9_isDomain_74 K E hr13 h)
            · have h := wneg c17 h
              refine Vw.aload_n (pc := 52) (x := x0) K dX9_isDomain_52 rfl ?_
              refine Vw.getR (pc := 53) (k := 0) (f := 448) K cls7 rfl rfl u_6_17 g12 dX9_isDomain_53 ?_
              refine Vw.iload_n (pc := 56) (x := x1) K dX9_isDomain_56 rfl ?_
              refine Vw.iload (pc := 57) (x := x4) K dX9_isDomain_57 rfl ?_
              refine Vw.iadd (pc := 59) K dX9_isDomain_59 ?_
              refine Vw.iconst (pc := 60) (v := (1 : Int32)) K (by decide) dX9_isDomain_60 ?_
              refine Vw.isub (pc := 61) K dX9_isDomain_61 ?_
              obtain ⟨g18, h⟩ := wgd h
              refine Vw.laload (pc := 62) K g13 g18 dX9_isDomain_62 ?_
              refine Vw.ldc2 (pc := 63) (v := (46 : Int64)) K u_6_167 dX9_isDomain_63 ?_
              refine Vw.lcmp_eq (pc := 66) (tgt := 74) K dX9_isDomain_66 dX9_isDomain_67 (by decide) (fun c19 => ?_) (fun c19 => ?_)
              · have h := wpos c19 h
                exact Vw.loc rfl (s_X9_isDomain_74 K E hr13 h)
              · have h := wneg c19 h
                refine Vw.iconst (pc := 70) (v := (1 : Int32)) K (by decide) dX9_isDomain_70 ?_
                refine Vw.goto (pc := 71) (tgt := 75) K dX9_isDomain_71 (by decide) ?_
                exact Vw.loc rfl (s_X9_isDomain_75 K E hr13 h)
def f_X9_isDomain (A : Hp) (x0 : Nat) (x1 : Int32) (x2 : Int32) : Option (Int32) := ((f_X9_in A x2.toInt64 (1 : Int64) (30 : Int64)).bind fun v21 => k_X9_isDomain_13 A x0 x1 x2 FU v21 (0 : Int32))
set_option maxRecDepth 100000 in
theorem s_X9_isDomain {l : Launch} {g : GT} (hl : l.stackTraces = false) {A : Hp} {x0 : Nat} {x1 : Int32} {x2 : Int32} {r : Int32} (h : f_X9_isDomain A x0 x1 x2 = some r) : MetV l g yX9_isDomain (.code yX9_isDomain cX9_isDomain 6 (some .boolean)) [.inr (.inr x0), .inl x1, .inl x2] A (.inl (some (.inl r))) A 2 46 0 0 := by
  refine MetV.ofV hl (by decide +kernel) (Nat.le_of_ble_eq_true rfl) (fun κ K E => ?_)
  have K : Cx κ cX9_isDomain 6 RX9 2 46 0 0 := K
  have E : Ed κ (some .boolean) "isDomain" (.inl (some (.inl r))) A 0 0 := E
  unfold f_X9_isDomain at h
  change Vw κ A 0 0 0 [(0, .inr (.inr x0)), (1, .inl x1), (2, .inl x2)] []
  refine Vw.iload_n (pc := 0) (x := x2) K dX9_isDomain_0 rfl ?_
  refine Vw.i2l (pc := 1) K dX9_isDomain_1 ?_
  refine Vw.lconst (pc := 2) (v := (1 : Int64)) K (by decide) dX9_isDomain_2 ?_
  refine Vw.ldc2 (pc := 3) (v := (30 : Int64)) K u_7_0 dX9_isDomain_3 ?_
  obtain ⟨v21, e20, h⟩ := wbd h
  refine Vw.cS1 (pc := 6) (v := .inl v21) (c' := 0) (n' := 0) K (s_X9_in K.tr e20) cal_X9_in u_6_161 rfl ⟨by decide, by decide⟩ ⟨by decide, by decide⟩ rfl (Nat.le_of_ble_eq_true rfl) dX9_isDomain_6 rfl rfl ?_
  refine Vw.istore_n (pc := 9) K dX9_isDomain_9 (by decide) ?_
  refine Vw.iconst (pc := 10) (v := (0 : Int32)) K (by decide) dX9_isDomain_10 ?_
  refine Vw.istore (pc := 11) K dX9_isDomain_11 (by decide) ?_
  exact Vw.loc rfl (s_X9_isDomain_13 K E  _ _ _ h)
theorem cal_X9_isDomain : wCalV RX9 yX9_isDomain (.code yX9_isDomain cX9_isDomain 6 (some .boolean)) 2 := ⟨by decide +kernel, u_6_238, us_4_0, u_1_9, u_6_239⟩
def k_X9_matches_56  (A : Hp)   : Option (Int32) := some (1 : Int32)
set_option maxRecDepth 100000 in
theorem s_X9_matches_56 {κ : KT} {r : Int32} {A : Hp}    (K : Cx κ cX9_matches 5 RX9 1 26 0 0) (E : Ed κ (some .boolean) "matches" (.inl (some (.inl r))) A 0 0)  (h : k_X9_matches_56  A   = some r) : Vw κ A 0 0 56 [] [] := by
  unfold k_X9_matches_56 at h
  refine Vw.iconst (pc := 56) (v := (1 : Int32)) K (by decide) dX9_matches_56 ?_
  refine Vw.goto (pc := 57) (tgt := 61) K dX9_matches_57 (by decide) ?_
  exact Vw.zretE (pc := 61) K (Or.inr rfl) (Option.some.inj h) rfl E (by decide) (by decide) dX9_matches_61
def f_X9_matches (A : Hp) (x0 : Nat) (x1 : Int32) (x2 : Int32) (x3 : Int32) (x4 : Int32) : Option (Int32) := if (hsh A x0).1 = 8 then ((f_X9_areLike A x0 x1 x2 x3 x4).bind fun v3 => (if v3 = (0 : Int32) then (if x2 ≤ x4 then some (0 : Int32) else if (hsh A (hgR A 448 x0 0)).1 = 11 then if wix (((x1 + x2) - x4) - (1 : Int32)) (hsh A (hgR A 448 x0 0)).2 then (if (hgL A 1035 (hgR A 448 x0 0) (((x1 + x2) - x4) - (1 : Int32)).toNatClampNeg) = (46 : Int64) then ((f_X9_areLike A x0 ((x1 + x2) - x4) x4 x3 x4).bind fun v10 => (if v10 = (0 : Int32) then some (0 : Int32) else k_X9_matches_56 A)) else some (0 : Int32)) else none else none) else k_X9_matches_56 A)) else none
set_option maxRecDepth 100000 in
theorem s_X9_matches {l : Launch} {g : GT} (hl : l.stackTraces = false) {A : Hp} {x0 : Nat} {x1 : Int32} {x2 : Int32} {x3 : Int32} {x4 : Int32} {r : Int32} (h : f_X9_matches A x0 x1 x2 x3 x4 = some r) : MetV l g yX9_matches (.code yX9_matches cX9_matches 5 (some .boolean)) [.inr (.inr x0), .inl x1, .inl x2, .inl x3, .inl x4] A (.inl (some (.inl r))) A 1 26 0 0 := by
  refine MetV.ofV hl (by decide +kernel) (Nat.le_of_ble_eq_true rfl) (fun κ K E => ?_)
  have K : Cx κ cX9_matches 5 RX9 1 26 0 0 := K
  have E : Ed κ (some .boolean) "matches" (.inl (some (.inl r))) A 0 0 := E
  unfold f_X9_matches at h
  change Vw κ A 0 0 0 [(0, .inr (.inr x0)), (1, .inl x1), (2, .inl x2), (3, .inl x3), (4, .inl x4)] []
  refine Vw.aload_n (pc := 0) (x := x0) K dX9_matches_0 rfl ?_
  refine Vw.iload_n (pc := 1) (x := x1) K dX9_matches_1 rfl ?_
  refine Vw.iload_n (pc := 2) (x := x2) K dX9_matches_2 rfl ?_
  refine Vw.iload_n (pc := 3) (x := x3) K dX9_matches_3 rfl ?_
  refine Vw.iload (pc := 4) (x := x4) K dX9_matches_4 rfl ?_
  obtain ⟨g1, h⟩ := wgd h
  obtain ⟨v3, e2, h⟩ := wbd h
  refine Vw.cV1 (pc := 6) (v := .inl v3) (c' := 0) (n' := 0) K (s_X9_areLike K.tr e2) cal_X9_areLike cls7 u_6_202 g1 rfl ⟨by decide, by decide⟩ ⟨by decide, by decide⟩ rfl (Nat.le_of_ble_eq_true rfl) dX9_matches_6 rfl rfl ?_
  refine Vw.if_ne (pc := 9) (tgt := 56) K dX9_matches_9 (by decide) (fun c4 => ?_) (fun c4 => ?_)
  · have h := wneg c4 h
    exact Vw.loc rfl (s_X9_matches_56 K E  h)
  · have h := wpos c4 h
    refine Vw.iload_n (pc := 12) (x := x2) K dX9_matches_12 rfl ?_
    refine Vw.iload (pc := 13) (x := x4) K dX9_matches_13 rfl ?_
    refine Vw.icmp_le (pc := 15) (tgt := 60) K dX9_matches_15 (by decide) (fun c5 => ?_) (fun c5 => ?_)
    · have h := wpos c5 h
      refine Vw.iconst (pc := 60) (v := (0 : Int32)) K (by decide) dX9_matches_60 ?_
      exact Vw.zretE (pc := 61) K (Or.inl rfl) (Option.some.inj h) rfl E (by decide) (by decide) dX9_matches_61
    · have h := wneg c5 h
      refine Vw.aload_n (pc := 18) (x := x0) K dX9_matches_18 rfl ?_
      refine Vw.getR (pc := 19) (k := 0) (f := 448) K cls7 rfl rfl u_6_17 g1 dX9_matches_19 ?_
      refine Vw.iload_n (pc := 22) (x := x1) K dX9_matches_22 rfl ?_
      refine Vw.iload_n (pc := 23) (x := x2) K dX9_matches_23 rfl ?_
      refine Vw.iadd (pc := 24) K dX9_matches_24 ?_
      refine Vw.iload (pc := 25) (x := x4) K dX9_matches_25 rfl ?_
      refine Vw.isub (pc := 27) K dX9_matches_27 ?_
      refine Vw.iconst (pc := 28) (v := (1 : Int32)) K (by decide) dX9_matches_28 ?_
      refine Vw.isub (pc := 29) K dX9_matches_29 ?_
      obtain ⟨g6, h⟩ := wgd h
      obtain ⟨g7, h⟩ := wgd h
      refine Vw.laload (pc := 30) K g6 g7 dX9_matches_30 ?_
      refine Vw.ldc2 (pc := 31) (v := (46 : Int64)) K u_6_167 dX9_matches_31 ?_
      refine Vw.lcmp_ne (pc := 34) (tgt := 60) K dX9_matches_34 dX9_matches_35 (by decide) (fun c8 => ?_) (fun c8 => ?_)
      · have h := wneg c8 h
        refine Vw.iconst (pc := 60) (v := (0 : Int32)) K (by decide) dX9_matches_60 ?_
        exact Vw.zretE (pc := 61) K (Or.inl rfl) (Option.some.inj h) rfl E (by decide) (by decide) dX9_matches_61
      · have h := wpos c8 h
        refine Vw.aload_n (pc := 38) (x := x0) K dX9_matches_38 rfl ?_
        refine Vw.iload_n (pc := 39) (x := x1) K dX9_matches_39 rfl ?_
        refine Vw.iload_n (pc := 40) (x := x2) K dX9_matches_40 rfl ?_
        refine Vw.iadd (pc := 41) K dX9_matches_41 ?_
        refine Vw.iload (pc := 42) (x := x4) K dX9_matches_42 rfl ?_
        refine Vw.isub (pc := 44) K dX9_matches_44 ?_
        refine Vw.iload (pc := 45) (x := x4) K dX9_matches_45 rfl ?_
        refine Vw.iload_n (pc := 47) (x := x3) K dX9_matches_47 rfl ?_
        refine Vw.iload (pc := 48) (x := x4) K dX9_matches_48 rfl ?_
        obtain ⟨v10, e9, h⟩ := wbd h
        refine Vw.cV1 (pc := 50) (v := .inl v10) (c' := 0) (n' := 0) K (s_X9_areLike K.tr e9) cal_X9_areLike cls7 u_6_202 g1 rfl ⟨by decide, by decide⟩ ⟨by decide, by decide⟩ rfl (Nat.le_of_ble_eq_true rfl) dX9_matches_50 rfl rfl ?_
        refine Vw.if_eq (pc := 53) (tgt := 60) K dX9_matches_53 (by decide) (fun c11 => ?_) (fun c11 => ?_)
        · have h := wpos c11 h
          refine Vw.iconst (pc := 60) (v := (0 : Int32)) K (by decide) dX9_matches_60 ?_
          exact Vw.zretE (pc := 61) K (Or.inl rfl) (Option.some.inj h) rfl E (by decide) (by decide) dX9_matches_61
        · have h := wneg c11 h
          exact Vw.loc rfl (s_X9_matches_56 K E  h)
theorem cal_X9_matches : wCalV RX9 yX9_matches (.code yX9_matches cX9_matches 5 (some .boolean)) 4 := ⟨by decide +kernel, u_6_200, us_3_11, u_1_9, u_6_201⟩
def k_X9_labelFrom_2s (A : Hp) (x0 : Nat) (x1 : Int32)  (rec2 : Int32 → Option (Int32))  (x3 : Int32) : Option (Int32) := (if x3 ≤ (0 : Int32) then some x3 else if (hsh A x0).1 = 8 then if (hsh A (hgR A 448 x0 0)).1 = 11 then if wix ((x1 + x3) - (1 : Int32)) (hsh A (hgR A 448 x0 0)).2 then (if (hgL A 1035 (hgR A 448 x0 0) ((x1 + x3) - (1 : Int32)).toNatClampNeg) = (46 : Int64) then some x3 else rec2 (x3 + (-1 : Int32))) else none else none else none)
def k_X9_labelFrom_2 (A : Hp) (x0 : Nat) (x1 : Int32)  : Nat → Int32 → Option (Int32)
  | 0 => fun _ => none
  | fu + 1 => k_X9_labelFrom_2s A x0 x1  (k_X9_labelFrom_2 A x0 x1  fu)
set_option maxRecDepth 100000 in
theorem s_X9_labelFrom_2 {κ : KT} {r : Int32} {A : Hp} {x0 : Nat} {x1 : Int32}  (K : Cx κ cX9_labelFrom 4 RX9 0 0 0 0) (E : Ed κ (some .int) "labelFrom" (.inl (some (.inl r))) A 0 0)  : ∀ (fu : Nat)  (x3 : Int32),  k_X9_labelFrom_2 A x0 x1  fu x3 = some r → Vw κ A 0 0 2 [(0, .inr (.inr x0)), (1, .inl x1), (3, .inl x3)] [] := by
  intro fu
  induction fu with
  | zero => intro x3 h; cases h
  | succ fu hr2 =>
    intro x3 h
    have h : k_X9_labelFrom_2s A x0 x1  (k_X9_labelFrom_2 A x0 x1  fu) x3 = some r := h
    unfold k_X9_labelFrom_2s at h
    refine Vw.iload_n (pc := 2) (x := x3) K dX9_labelFrom_2 rfl ?_
    refine Vw.if_le (pc := 3) (tgt := 29) K dX9_labelFrom_3 (by decide) (fun c1 => ?_) (fun c1 => ?_)
    · have h := wpos c1 h
      refine Vw.iload_n (pc := 29) (x := x3) K dX9_labelFrom_29 rfl ?_
      exact Vw.iretE (pc := 30) K (Option.some.inj h) rfl E (by decide) (by decide) dX9_labelFrom_30
    · have h := wneg c1 h
      refine Vw.aload_n (pc := 6) (x := x0) K dX9_labelFrom_6 rfl ?_
      obtain ⟨g2, h⟩ := wgd h
      refine Vw.getR (pc := 7) (k := 0) (f := 448) K cls7 rfl rfl u_6_17 g2 dX9_labelFrom_7 ?_
      refine Vw.iload_n (pc := 10) (x := x1) K dX9_labelFrom_10 rfl ?_
      refine Vw.iload_n (pc := 11) (x := x3) K dX9_labelFrom_11 rfl ?_
      refine Vw.iadd (pc := 12) K dX9_labelFrom_12 ?_
      refine Vw.iconst (pc := 13) (v := (1 : Int32)) K (by decide) dX9_labelFrom_13 ?_
      refine Vw.isub (pc := 14) K dX9_labelFrom_14 ?_
      obtain ⟨g3, h⟩ := wgd h
      obtain ⟨g4, h⟩ := wgd h
      refine Vw.laload (pc := 15) K g3 g4 dX9_labelFrom_15 ?_
      refine Vw.ldc2 (pc := 16) (v := (46 : Int64)) K u_6_167 dX9_labelFrom_16 ?_
      refine Vw.lcmp_eq (pc := 19) (tgt := 29) K dX9_labelFrom_19 dX9_labelFrom_20 (by decide) (fun c5 => ?_) (fun c5 => ?_)
      · have h := wpos c5 h
        refine Vw.iload_n (pc := 29) (x := x3) K dX9_labelFrom_29 rfl ?_
        exact Vw.iretE (pc := 30) K (Option.some.inj h) rfl E (by decide) (by decide) dX9_labelFrom_30
      · have h := wneg c5 h
        refine Vw.iinc (pc := 23) (x := x3) (v := (-1 : Int32)) K dX9_labelFrom_23 rfl (by decide) (by decide) ?_
        refine Vw.goto (pc := 26) (tgt := 2) K dX9_labelFrom_26 (by decide) ?_
        exact Vw.loc rfl (hr2 _ h)
def f_X9_labelFrom (A : Hp) (x0 : Nat) (x1 : Int32) (x2 : Int32) : Option (Int32) := k_X9_labelFrom_2 A x0 x1 FU x2
set_option maxRecDepth 100000 in
theorem s_X9_labelFrom {l : Launch} {g : GT} (hl : l.stackTraces = false) {A : Hp} {x0 : Nat} {x1 : Int32} {x2 : Int32} {r : Int32} (h : f_X9_labelFrom A x0 x1 x2 = some r) : MetV l g yX9_labelFrom (.code yX9_labelFrom cX9_labelFrom 4 (some .int)) [.inr (.inr x0), .inl x1, .inl x2] A (.inl (some (.inl r))) A 0 0 0 0 := by
  refine MetV.ofV hl (by decide +kernel) (Nat.le_of_ble_eq_true rfl) (fun κ K E => ?_)
  have K : Cx κ cX9_labelFrom 4 RX9 0 0 0 0 := K
  have E : Ed κ (some .int) "labelFrom" (.inl (some (.inl r))) A 0 0 := E
  unfold f_X9_labelFrom at h
  change Vw κ A 0 0 0 [(0, .inr (.inr x0)), (1, .inl x1), (2, .inl x2)] []
  refine Vw.iload_n (pc := 0) (x := x2) K dX9_labelFrom_0 rfl ?_
  refine Vw.istore_n (pc := 1) K dX9_labelFrom_1 (by decide) ?_
  exact Vw.loc rfl (s_X9_labelFrom_2 K E  _ _ h)
theorem cal_X9_labelFrom : wCalV RX9 yX9_labelFrom (.code yX9_labelFrom cX9_labelFrom 4 (some .int)) 2 := ⟨by decide +kernel, u_6_208, us_3_13, u_1_9, u_6_209⟩
def k_X9_suffixLong_67 (rec5 : Int32 → Int32 → Option (Int32)) (A : Hp) (x0 : Nat) (x1 : Int32) (x2 : Int32) (x4 : Int32) (t0 : Int32) : Option (Int32) := rec5 t0 (x4 + (1 : Int32))
set_option maxRecDepth 100000 in
theorem s_X9_suffixLong_67 {κ : KT} {r : Int32} {A : Hp} {x0 : Nat} {x1 : Int32} {x2 : Int32} {x4 : Int32} {t0 : Int32} {rec5 : Int32 → Int32 → Option (Int32)} (K : Cx κ cX9_suffixLong 7 RX9 2 50 0 0) (E : Ed κ (some .int) "suffixLong" (.inl (some (.inl r))) A 0 0) (hr5 : ∀ (x3 : Int32) (x4 : Int32), rec5 x3 x4 = some r → Vw κ A 0 0 5 [(0, .inr (.inr x0)), (1, .inl x1), (2, .inl x2), (3, .inl x3), (4, .inl x4)] []) (h : k_X9_suffixLong_67 rec5 A x0 x1 x2 x4 t0 = some r) : Vw κ A 0 0 67 [(0, .inr (.inr x0)), (1, .inl x1), (2, .inl x2), (4, .inl x4)] [.inl t0] := by
  unfold k_X9_suffixLong_67 at h
  refine Vw.istore_n (pc := 67) K dX9_suffixLong_67 (by decide) ?_
  refine Vw.iinc (pc := 68) (x := x4) (v := (1 : Int32)) K dX9_suffixLong_68 rfl (by decide) (by decide) ?_
  refine Vw.goto (pc := 71) (tgt := 5) K dX9_suffixLong_71 (by decide) ?_
  exact Vw.loc rfl (hr5 _ _ h)
def k_X9_suffixLong_66 (rec5 : Int32 → Int32 → Option (Int32)) (A : Hp) (x0 : Nat) (x1 : Int32) (x2 : Int32) (x3 : Int32) (x4 : Int32)  : Option (Int32) := k_X9_suffixLong_67 rec5 A x0 x1 x2 x4 x3
set_option maxRecDepth 100000 in
theorem s_X9_suffixLong_66 {κ : KT} {r : Int32} {A : Hp} {x0 : Nat} {x1 : Int32} {x2 : Int32} {x3 : Int32} {x4 : Int32}  {rec5 : Int32 → Int32 → Option (Int32)} (K : Cx κ cX9_suffixLong 7 RX9 2 50 0 0) (E : Ed κ (some .int) "suffixLong" (.inl (some (.inl r))) A 0 0) (hr5 : ∀ (x3 : Int32) (x4 : Int32), rec5 x3 x4 = some r → Vw κ A 0 0 5 [(0, .inr (.inr x0)), (1, .inl x1), (2, .inl x2), (3, .inl x3), (4, .inl x4)] []) (h : k_X9_suffixLong_66 rec5 A x0 x1 x2 x3 x4  = some r) : Vw κ A 0 0 66 [(0, .inr (.inr x0)), (1, .inl x1), (2, .inl x2), (3, .inl x3), (4, .inl x4)] [] := by
  unfold k_X9_suffixLong_66 at h
  refine Vw.iload_n (pc := 66) (x := x3) K dX9_suffixLong_66 rfl ?_
  exact Vw.loc rfl (s_X9_suffixLong_67 K E hr5 h)
def k_X9_suffixLong_5s (A : Hp) (x0 : Nat) (x1 : Int32) (x2 : Int32)  (rec5 : Int32 → Int32 → Option (Int32))  (x3 : Int32) (x4 : Int32) : Option (Int32) := if (hsh A x0).1 = 8 then if (hsh A (hgR A 448 x0 0)).1 = 11 then if wix (6 : Int32) (hsh A (hgR A 448 x0 0)).2 then (if (hgL A 1035 (hgR A 448 x0 0) (6 : Int32).toNatClampNeg) ≤ x4.toInt64 then (if x3 ≤ (0 : Int32) then ((f_X9_labelFrom A x0 x1 x2).bind fun v7 => some (x2 - v7)) else some x3) else if wix ((180 : Int32) + ((32 : Int32) * x4)) (hsh A (hgR A 448 x0 0)).2 then (if ((hgL A 1035 (hgR A 448 x0 0) ((180 : Int32) + ((32 : Int32) * x4)).toNatClampNeg).toInt32) ≤ x3 then k_X9_suffixLong_66 rec5 A x0 x1 x2 x3 x4 else ((f_X9_matches A x0 x1 x2 (((180 : Int32) + ((32 : Int32) * x4)) + (1 : Int32)) ((hgL A 1035 (hgR A 448 x0 0) ((180 : Int32) + ((32 : Int32) * x4)).toNatClampNeg).toInt32)).bind fun v11 => (if v11 = (0 : Int32) then k_X9_suffixLong_66 rec5 A x0 x1 x2 x3 x4 else k_X9_suffixLong_67 rec5 A x0 x1 x2 x4 ((hgL A 1035 (hgR A 448 x0 0) ((180 : Int32) + ((32 : Int32) * x4)).toNatClampNeg).toInt32)))) else none) else none else none else none
def k_X9_suffixLong_5 (A : Hp) (x0 : Nat) (x1 : Int32) (x2 : Int32)  : Nat → Int32 → Int32 → Option (Int32)
  | 0 => fun _ _ => none
  | fu + 1 => k_X9_suffixLong_5s A x0 x1 x2  (k_X9_suffixLong_5 A x0 x1 x2  fu)
set_option maxRecDepth 100000 in
theorem s_X9_suffixLong_5 {κ : KT} {r : Int32} {A : Hp} {x0 : Nat} {x1 : Int32} {x2 : Int32}  (K : Cx κ cX9_suffixLong 7 RX9 2 50 0 0) (E : Ed κ (some .int) "suffixLong" (.inl (some (.inl r))) A 0 0)  : ∀ (fu : Nat)  (x3 : Int32) (x4 : Int32),  k_X9_suffixLong_5 A x0 x1 x2  fu x3 x4 = some r → Vw κ A 0 0 5 [(0, .inr (.inr x0)), (1, .inl x1), (2, .inl x2), (3, .inl x3), (4, .inl x4)] [] := by
  intro fu
  induction fu with
  | zero => intro x3 x4 h; cases h
  | succ fu hr5 =>
    intro x3 x4 h
    have h : k_X9_suffixLong_5s A x0 x1 x2  (k_X9_suffixLong_5 A x0 x1 x2  fu) x3 x4 = some r := h
    unfold k_X9_suffixLong_5s at h
    refine Vw.iload (pc := 5) (x := x4) K dX9_suffixLong_5 rfl ?_
    refine Vw.i2l (pc := 7) K dX9_suffixLong_7 ?_
    refine Vw.aload_n (pc := 8) (x := x0) K dX9_suffixLong_8 rfl ?_
    obtain ⟨g1, h⟩ := wgd h
    refine Vw.getR (pc := 9) (k := 0) (f := 448) K cls7 rfl rfl u_6_17 g1 dX9_suffixLong_9 ?_
    refine Vw.bipush (pc := 12) (v := (6 : Int32)) K (by decide) dX9_suffixLong_12 ?_
    obtain ⟨g2, h⟩ := wgd h
    obtain ⟨g3, h⟩ := wgd h
    refine Vw.laload (pc := 14) K g2 g3 dX9_suffixLong_14 ?_
    refine Vw.lcmp_ge (pc := 15) (tgt := 74) K dX9_suffixLong_15 dX9_suffixLong_16 (by decide) (fun c4 => ?_) (fun c4 => ?_)
    · have h := wpos c4 h
      refine Vw.iload_n (pc := 74) (x := x3) K dX9_suffixLong_74 rfl ?_
      refine Vw.if_le (pc := 75) (tgt := 82) K dX9_suffixLong_75 (by decide) (fun c5 => ?_) (fun c5 => ?_)
      · have h := wpos c5 h
        refine Vw.iload_n (pc := 82) (x := x2) K dX9_suffixLong_82 rfl ?_
        refine Vw.aload_n (pc := 83) (x := x0) K dX9_suffixLong_83 rfl ?_
        refine Vw.iload_n (pc := 84) (x := x1) K dX9_suffixLong_84 rfl ?_
        refine Vw.iload_n (pc := 85) (x := x2) K dX9_suffixLong_85 rfl ?_
        obtain ⟨v7, e6, h⟩ := wbd h
        refine Vw.cV1 (pc := 86) (v := .inl v7) (c' := 0) (n' := 0) K (s_X9_labelFrom K.tr e6) cal_X9_labelFrom cls7 u_6_206 g1 rfl ⟨by decide, by decide⟩ ⟨by decide, by decide⟩ rfl (Nat.le_of_ble_eq_true rfl) dX9_suffixLong_86 rfl rfl ?_
        refine Vw.isub (pc := 89) K dX9_suffixLong_89 ?_
        exact Vw.iretE (pc := 90) K (Option.some.inj h) rfl E (by decide) (by decide) dX9_suffixLong_90
      · have h := wneg c5 h
        refine Vw.iload_n (pc := 78) (x := x3) K dX9_suffixLong_78 rfl ?_
        refine Vw.goto (pc := 79) (tgt := 90) K dX9_suffixLong_79 (by decide) ?_
        exact Vw.iretE (pc := 90) K (Option.some.inj h) rfl E (by decide) (by decide) dX9_suffixLong_90
    · have h := wneg c4 h
      refine Vw.sipush (pc := 19) (v := (180 : Int32)) K (by decide) dX9_suffixLong_19 ?_
      refine Vw.bipush (pc := 22) (v := (32 : Int32)) K (by decide) dX9_suffixLong_22 ?_
      refine Vw.iload (pc := 24) (x := x4) K dX9_suffixLong_24 rfl ?_
      refine Vw.imul (pc := 26) K dX9_suffixLong_26 ?_
      refine Vw.iadd (pc := 27) K dX9_suffixLong_27 ?_
      refine Vw.istore (pc := 28) K dX9_suffixLong_28 (by decide) ?_
      refine Vw.aload_n (pc := 30) (x := x0) K dX9_suffixLong_30 rfl ?_
      refine Vw.getR (pc := 31) (k := 0) (f := 448) K cls7 rfl rfl u_6_17 g1 dX9_suffixLong_31 ?_
      refine Vw.iload (pc := 34) (x := ((180 : Int32) + ((32 : Int32) * x4))) K dX9_suffixLong_34 rfl ?_
      obtain ⟨g8, h⟩ := wgd h
      refine Vw.laload (pc := 36) K g2 g8 dX9_suffixLong_36 ?_
      refine Vw.l2i (pc := 37) K dX9_suffixLong_37 ?_
      refine Vw.istore (pc := 38) K dX9_suffixLong_38 (by decide) ?_
      refine Vw.iload (pc := 40) (x := (hgL A 1035 (hgR A 448 x0 0) ((180 : Int32) + ((32 : Int32) * x4)).toNatClampNeg).toInt32) K dX9_suffixLong_40 rfl ?_
      refine Vw.iload_n (pc := 42) (x := x3) K dX9_suffixLong_42 rfl ?_
      refine Vw.icmp_le (pc := 43) (tgt := 66) K dX9_suffixLong_43 (by decide) (fun c9 => ?_) (fun c9 => ?_)
      · have h := wpos c9 h
        exact Vw.loc rfl (s_X9_suffixLong_66 K E hr5 h)
      · have h := wneg c9 h
        refine Vw.aload_n (pc := 46) (x := x0) K dX9_suffixLong_46 rfl ?_
        refine Vw.iload_n (pc := 47) (x := x1) K dX9_suffixLong_47 rfl ?_
        refine Vw.iload_n (pc := 48) (x := x2) K dX9_suffixLong_48 rfl ?_
        refine Vw.iload (pc := 49) (x := ((180 : Int32) + ((32 : Int32) * x4))) K dX9_suffixLong_49 rfl ?_
        refine Vw.iconst (pc := 51) (v := (1 : Int32)) K (by decide) dX9_suffixLong_51 ?_
        refine Vw.iadd (pc := 52) K dX9_suffixLong_52 ?_
        refine Vw.iload (pc := 53) (x := (hgL A 1035 (hgR A 448 x0 0) ((180 : Int32) + ((32 : Int32) * x4)).toNatClampNeg).toInt32) K dX9_suffixLong_53 rfl ?_
        obtain ⟨v11, e10, h⟩ := wbd h
        refine Vw.cV1 (pc := 55) (v := .inl v11) (c' := 0) (n' := 0) K (s_X9_matches K.tr e10) cal_X9_matches cls7 u_6_198 g1 rfl ⟨by decide, by decide⟩ ⟨by decide, by decide⟩ rfl (Nat.le_of_ble_eq_true rfl) dX9_suffixLong_55 rfl rfl ?_
        refine Vw.if_eq (pc := 58) (tgt := 66) K dX9_suffixLong_58 (by decide) (fun c12 => ?_) (fun c12 => ?_)
        · have h := wpos c12 h
          exact Vw.loc rfl (s_X9_suffixLong_66 K E hr5 h)
        · have h := wneg c12 h
          refine Vw.iload (pc := 61) (x := (hgL A 1035 (hgR A 448 x0 0) ((180 : Int32) + ((32 : Int32) * x4)).toNatClampNeg).toInt32) K dX9_suffixLong_61 rfl ?_
          refine Vw.goto (pc := 63) (tgt := 67) K dX9_suffixLong_63 (by decide) ?_
          exact Vw.loc rfl (s_X9_suffixLong_67 K E hr5 h)
def f_X9_suffixLong (A : Hp) (x0 : Nat) (x1 : Int32) (x2 : Int32) : Option (Int32) := k_X9_suffixLong_5 A x0 x1 x2 FU (0 : Int32) (0 : Int32)
set_option maxRecDepth 100000 in
theorem s_X9_suffixLong {l : Launch} {g : GT} (hl : l.stackTraces = false) {A : Hp} {x0 : Nat} {x1 : Int32} {x2 : Int32} {r : Int32} (h : f_X9_suffixLong A x0 x1 x2 = some r) : MetV l g yX9_suffixLong (.code yX9_suffixLong cX9_suffixLong 7 (some .int)) [.inr (.inr x0), .inl x1, .inl x2] A (.inl (some (.inl r))) A 2 50 0 0 := by
  refine MetV.ofV hl (by decide +kernel) (Nat.le_of_ble_eq_true rfl) (fun κ K E => ?_)
  have K : Cx κ cX9_suffixLong 7 RX9 2 50 0 0 := K
  have E : Ed κ (some .int) "suffixLong" (.inl (some (.inl r))) A 0 0 := E
  unfold f_X9_suffixLong at h
  change Vw κ A 0 0 0 [(0, .inr (.inr x0)), (1, .inl x1), (2, .inl x2)] []
  refine Vw.iconst (pc := 0) (v := (0 : Int32)) K (by decide) dX9_suffixLong_0 ?_
  refine Vw.istore_n (pc := 1) K dX9_suffixLong_1 (by decide) ?_
  refine Vw.iconst (pc := 2) (v := (0 : Int32)) K (by decide) dX9_suffixLong_2 ?_
  refine Vw.istore (pc := 3) K dX9_suffixLong_3 (by decide) ?_
  exact Vw.loc rfl (s_X9_suffixLong_5 K E  _ _ _ h)
theorem cal_X9_suffixLong : wCalV RX9 yX9_suffixLong (.code yX9_suffixLong cX9_suffixLong 7 (some .int)) 2 := ⟨by decide +kernel, u_6_196, us_3_10, u_1_9, u_6_197⟩
