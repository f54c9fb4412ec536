def f_X5_init (A : Hp) (x0 : Nat) : Option (Hp) := if (hsh A x0).1 = 4 then if (hsh (hmk A 5 0) (hsz A)).1 = 5 then ((f_X6_init (hmk A 5 0) (hsz A) (160 : Int32)).bind fun A4 => if (hsh A4 x0).1 = 4 then if (hsh (hmk (hsR A4 192 x0 0 (hsz A)) 5 0) (hsz (hsR A4 192 x0 0 (hsz A)))).1 = 5 then ((f_X6_init (hmk (hsR A4 192 x0 0 (hsz A)) 5 0) (hsz (hsR A4 192 x0 0 (hsz A))) (160 : Int32)).bind fun A8 => if (hsh A8 x0).1 = 4 then if (hsh (hmk (hsR A8 193 x0 0 (hsz (hsR A4 192 x0 0 (hsz A)))) 5 0) (hsz (hsR A8 193 x0 0 (hsz (hsR A4 192 x0 0 (hsz A)))))).1 = 5 then ((f_X6_init (hmk (hsR A8 193 x0 0 (hsz (hsR A4 192 x0 0 (hsz A)))) 5 0) (hsz (hsR A8 193 x0 0 (hsz (hsR A4 192 x0 0 (hsz A))))) (160 : Int32)).bind fun A12 => if (hsh A12 x0).1 = 4 then if (hsh (hmk (hsR A12 194 x0 0 (hsz (hsR A8 193 x0 0 (hsz (hsR A4 192 x0 0 (hsz A)))))) 5 0) (hsz (hsR A12 194 x0 0 (hsz (hsR A8 193 x0 0 (hsz (hsR A4 192 x0 0 (hsz A)))))))).1 = 5 then ((f_X6_init (hmk (hsR A12 194 x0 0 (hsz (hsR A8 193 x0 0 (hsz (hsR A4 192 x0 0 (hsz A)))))) 5 0) (hsz (hsR A12 194 x0 0 (hsz (hsR A8 193 x0 0 (hsz (hsR A4 192 x0 0 (hsz A))))))) (40 : Int32)).bind fun A16 => if (hsh A16 x0).1 = 4 then if (hsh (hmk (hsR A16 195 x0 0 (hsz (hsR A12 194 x0 0 (hsz (hsR A8 193 x0 0 (hsz (hsR A4 192 x0 0 (hsz A)))))))) 5 0) (hsz (hsR A16 195 x0 0 (hsz (hsR A12 194 x0 0 (hsz (hsR A8 193 x0 0 (hsz (hsR A4 192 x0 0 (hsz A)))))))))).1 = 5 then ((f_X6_init (hmk (hsR A16 195 x0 0 (hsz (hsR A12 194 x0 0 (hsz (hsR A8 193 x0 0 (hsz (hsR A4 192 x0 0 (hsz A)))))))) 5 0) (hsz (hsR A16 195 x0 0 (hsz (hsR A12 194 x0 0 (hsz (hsR A8 193 x0 0 (hsz (hsR A4 192 x0 0 (hsz A))))))))) (160 : Int32)).bind fun A20 => if (hsh A20 x0).1 = 4 then if (hsh (hmk (hsR A20 196 x0 0 (hsz (hsR A16 195 x0 0 (hsz (hsR A12 194 x0 0 (hsz (hsR A8 193 x0 0 (hsz (hsR A4 192 x0 0 (hsz A)))))))))) 5 0) (hsz (hsR A20 196 x0 0 (hsz (hsR A16 195 x0 0 (hsz (hsR A12 194 x0 0 (hsz (hsR A8 193 x0 0 (hsz (hsR A4 192 x0 0 (hsz A)))))))))))).1 = 5 then ((f_X6_init (hmk (hsR A20 196 x0 0 (hsz (hsR A16 195 x0 0 (hsz (hsR A12 194 x0 0 (hsz (hsR A8 193 x0 0 (hsz (hsR A4 192 x0 0 (hsz A)))))))))) 5 0) (hsz (hsR A20 196 x0 0 (hsz (hsR A16 195 x0 0 (hsz (hsR A12 194 x0 0 (hsz (hsR A8 193 x0 0 (hsz (hsR A4 192 x0 0 (hsz A))))))))))) (160 : Int32)).bind fun A24 => if (hsh A24 x0).1 = 4 then some (hsR A24 197 x0 0 (hsz (hsR A20 196 x0 0 (hsz (hsR A16 195 x0 0 (hsz (hsR A12 194 x0 0 (hsz (hsR A8 193 x0 0 (hsz (hsR A4 192 x0 0 (hsz A)))))))))))) else none) else none else none) else none else none) else none else none) else none else none) else none else none) else none else none
set_option maxRecDepth 100000 in
theorem s_X5_init {l : Launch} {g : GT} (hl : l.stackTraces = false) {A : Hp} {x0 : Nat} {B : Hp} (h : f_X5_init A x0 = some B) : MetV l g yX5_init (.code yX5_init cX5_init 1 none) [.inr (.inr x0)] A (.inl none) B 2 44 12 852 := by
  refine MetV.ofV hl (by decide +kernel) (Nat.le_of_ble_eq_true rfl) (fun κ K E => ?_)
  have K : Cx κ cX5_init 1 RX5 2 44 12 852 := K
  have E : Ed κ none "<init>" (.inl none) B 12 852 := E
  unfold f_X5_init at h
  change Vw κ A 0 0 0 [(0, .inr (.inr x0))] []
  refine Vw.aload_n (pc := 0) (x := x0) K dX5_init_0 rfl ?_
  obtain ⟨g1, h⟩ := wgd h
  refine Vw.objInitK (pc := 1) K u_1_62 u_1_30 u_1_31 g1 (by decide) (Nat.le_of_ble_eq_true rfl) dX5_init_1 ?_
  refine Vw.aload_n (pc := 4) (x := x0) K dX5_init_4 rfl ?_
  refine Vw.newc (pc := 5) (c := 0) (n := 0) (c' := 1) (n' := 2) K cls4 clsd4 u_1_63 (by decide) (by decide) dX5_init_5 rfl rfl ?_
  refine Vw.dup (pc := 8) K rfl dX5_init_8 ?_
  refine Vw.sipush (pc := 9) (v := (160 : Int32)) K (by decide) dX5_init_9 ?_
  obtain ⟨g2, h⟩ := wgd h
  obtain ⟨A4, e3, h⟩ := wbd h
  refine Vw.cI0K (pc := 12) (c' := 2) (n' := 162) K (s_X6_init (ms := 160) (by decide) K.tr e3) cal_X6_init u_1_64 g2 rfl ⟨by decide, by decide⟩ ⟨by decide, by decide⟩ rfl (Nat.le_of_ble_eq_true rfl) dX5_init_12 rfl rfl ?_
  obtain ⟨g5, h⟩ := wgd h
  refine Vw.putR (pc := 15) (k := 0) (f := 192) K cls3 rfl rfl u_1_65 g5 (Or.inr ⟨rfl, E.2.2.1, rfl⟩) (wRn _ _) (wRf _ _) dX5_init_15 ?_
  refine Vw.aload_n (pc := 18) (x := x0) K dX5_init_18 rfl ?_
  refine Vw.newc (pc := 19) (c := 2) (n := 162) (c' := 3) (n' := 164) K cls4 clsd4 u_1_63 (by decide) (by decide) dX5_init_19 rfl rfl ?_
  refine Vw.dup (pc := 22) K rfl dX5_init_22 ?_
  refine Vw.sipush (pc := 23) (v := (160 : Int32)) K (by decide) dX5_init_23 ?_
  obtain ⟨g6, h⟩ := wgd h
  obtain ⟨A8, e7, h⟩ := wbd h
  refine Vw.cI0K (pc := 26) (c' := 4) (n' := 324) K (s_X6_init (ms := 160) (by decide) K.tr e7) cal_X6_init u_1_64 g6 rfl ⟨by decide, by decide⟩ ⟨by decide, by decide⟩ rfl (Nat.le_of_ble_eq_true rfl) dX5_init_26 rfl rfl ?_
  obtain ⟨g9, h⟩ := wgd h
  refine Vw.putR (pc := 29) (k := 1) (f := 193) K cls3 rfl rfl u_1_67 g9 (Or.inr ⟨rfl, E.2.2.1, rfl⟩) (wRn _ _) (wRf _ _) dX5_init_29 ?_
  refine Vw.aload_n (pc := 32) (x := x0) K dX5_init_32 rfl ?_
  refine Vw.newc (pc := 33) (c := 4) (n := 324) (c' := 5) (n' := 326) K cls4 clsd4 u_1_63 (by decide) (by decide) dX5_init_33 rfl rfl ?_
  refine Vw.dup (pc := 36) K rfl dX5_init_36 ?_
  refine Vw.sipush (pc := 37) (v := (160 : Int32)) K (by decide) dX5_init_37 ?_
  obtain ⟨g10, h⟩ := wgd h
  obtain ⟨A12, e11, h⟩ := wbd h
  refine Vw.cI0K (pc := 40) (c' := 6) (n' := 486) K (s_X6_init (ms := 160) (by decide) K.tr e11) cal_X6_init u_1_64 g10 rfl ⟨by decide, by decide⟩ ⟨by decide, by decide⟩ rfl (Nat.le_of_ble_eq_true rfl) dX5_init_40 rfl rfl ?_
  obtain ⟨g13, h⟩ := wgd h
  refine Vw.putR (pc := 43) (k := 2) (f := 194) K cls3 rfl rfl u_1_69 g13 (Or.inr ⟨rfl, E.2.2.1, rfl⟩) (wRn _ _) (wRf _ _) dX5_init_43 ?_
  refine Vw.aload_n (pc := 46) (x := x0) K dX5_init_46 rfl ?_
  refine Vw.newc (pc := 47) (c := 6) (n := 486) (c' := 7) (n' := 488) K cls4 clsd4 u_1_63 (by decide) (by decide) dX5_init_47 rfl rfl ?_
  refine Vw.dup (pc := 50) K rfl dX5_init_50 ?_
  refine Vw.bipush (pc := 51) (v := (40 : Int32)) K (by decide) dX5_init_51 ?_
  obtain ⟨g14, h⟩ := wgd h
  obtain ⟨A16, e15, h⟩ := wbd h
  refine Vw.cI0K (pc := 53) (c' := 8) (n' := 528) K (s_X6_init (ms := 40) (by decide) K.tr e15) cal_X6_init u_1_64 g14 rfl ⟨by decide, by decide⟩ ⟨by decide, by decide⟩ rfl (Nat.le_of_ble_eq_true rfl) dX5_init_53 rfl rfl ?_
  obtain ⟨g17, h⟩ := wgd h
  refine Vw.putR (pc := 56) (k := 3) (f := 195) K cls3 rfl rfl u_1_71 g17 (Or.inr ⟨rfl, E.2.2.1, rfl⟩) (wRn _ _) (wRf _ _) dX5_init_56 ?_
  refine Vw.aload_n (pc := 59) (x := x0) K dX5_init_59 rfl ?_
  refine Vw.newc (pc := 60) (c := 8) (n := 528) (c' := 9) (n' := 530) K cls4 clsd4 u_1_63 (by decide) (by decide) dX5_init_60 rfl rfl ?_
  refine Vw.dup (pc := 63) K rfl dX5_init_63 ?_
  refine Vw.sipush (pc := 64) (v := (160 : Int32)) K (by decide) dX5_init_64 ?_
  obtain ⟨g18, h⟩ := wgd h
  obtain ⟨A20, e19, h⟩ := wbd h
  refine Vw.cI0K (pc := 67) (c' := 10) (n' := 690) K (s_X6_init (ms := 160) (by decide) K.tr e19) cal_X6_init u_1_64 g18 rfl ⟨by decide, by decide⟩ ⟨by decide, by decide⟩ rfl (Nat.le_of_ble_eq_true rfl) dX5_init_67 rfl rfl ?_
  obtain ⟨g21, h⟩ := wgd h
  refine Vw.putR (pc := 70) (k := 4) (f := 196) K cls3 rfl rfl u_1_73 g21 (Or.inr ⟨rfl, E.2.2.1, rfl⟩) (wRn _ _) (wRf _ _) dX5_init_70 ?_
  refine Vw.aload_n (pc := 73) (x := x0) K dX5_init_73 rfl ?_
  refine Vw.newc (pc := 74) (c := 10) (n := 690) (c' := 11) (n' := 692) K cls4 clsd4 u_1_63 (by decide) (by decide) dX5_init_74 rfl rfl ?_
  refine Vw.dup (pc := 77) K rfl dX5_init_77 ?_
  refine Vw.sipush (pc := 78) (v := (160 : Int32)) K (by decide) dX5_init_78 ?_
  obtain ⟨g22, h⟩ := wgd h
  obtain ⟨A24, e23, h⟩ := wbd h
  refine Vw.cI0K (pc := 81) (c' := 12) (n' := 852) K (s_X6_init (ms := 160) (by decide) K.tr e23) cal_X6_init u_1_64 g22 rfl ⟨by decide, by decide⟩ ⟨by decide, by decide⟩ rfl (Nat.le_of_ble_eq_true rfl) dX5_init_81 rfl rfl ?_
  obtain ⟨g25, h⟩ := wgd h
  refine Vw.putR (pc := 84) (k := 5) (f := 197) K cls3 rfl rfl u_1_74 g25 (Or.inr ⟨rfl, E.2.2.1, rfl⟩) (wRn _ _) (wRf _ _) dX5_init_84 ?_
  exact Vw.vretE (pc := 87) K (Option.some.inj h) E (by decide) (by decide) dX5_init_87
theorem cal_X5_init : wCalI yX5_init (.code yX5_init cX5_init 1 none) 0 := ⟨by decide +kernel, u_1_60, u_1_4, u_1_61, rfl⟩
def k_X5_forget_46  (A : Hp) (x0 : Nat)  : Option (Hp) := if (hsh A x0).1 = 4 then some (hsI A 205 x0 0 (1 : Int32)) else none
set_option maxRecDepth 100000 in
theorem s_X5_forget_46 {κ : KT} {B : Hp} {A : Hp} {x0 : Nat}   (K : Cx κ cX5_forget 1 RX5 1 20 0 0) (E : Ed κ none "forget" (.inl none) B 0 0)  (h : k_X5_forget_46  A x0  = some B) : Vw κ A 0 0 46 [(0, .inr (.inr x0))] [] := by
  unfold k_X5_forget_46 at h
  refine Vw.aload_n (pc := 46) (x := x0) K dX5_forget_46 rfl ?_
  refine Vw.iconst (pc := 47) (v := (1 : Int32)) K (by decide) dX5_forget_47 ?_
  obtain ⟨g1, h⟩ := wgd h
  refine Vw.putI (pc := 48) (k := 13) (f := 205) K cls3 rfl rfl u_1_86 g1 (Or.inl rfl) rfl rfl dX5_forget_48 ?_
  exact Vw.vretE (pc := 51) K (Option.some.inj h) E (by decide) (by decide) dX5_forget_51
def f_X5_forget (A : Hp) (x0 : Nat) : Option (Hp) := if (hsh A x0).1 = 4 then if (hsh A (hgR A 194 x0 0)).1 = 5 then ((f_X6_empty A (hgR A 194 x0 0)).bind fun A5 => if (hsh A5 x0).1 = 4 then if (hsh A5 (hgR A5 195 x0 0)).1 = 5 then ((f_X6_empty A5 (hgR A5 195 x0 0)).bind fun A9 => if (hsh A9 x0).1 = 4 then k_X5_forget_46 (hsI (hsI (hsI (hsL (hsI (hsI A9 199 x0 0 (0 : Int32)) 200 x0 0 (0 : Int32)) 201 x0 0 (-1 : Int64)) 202 x0 0 (0 : Int32)) 203 x0 0 (0 : Int32)) 204 x0 0 (1 : Int32)) x0 else none) else none else none) else none else none
set_option maxRecDepth 100000 in
theorem s_X5_forget {l : Launch} {g : GT} (hl : l.stackTraces = false) {A : Hp} {x0 : Nat} {B : Hp} (h : f_X5_forget A x0 = some B) : MetV l g yX5_forget (.code yX5_forget cX5_forget 1 none) [.inr (.inr x0)] A (.inl none) B 1 20 0 0 := by
  refine MetV.ofV hl (by decide +kernel) (Nat.le_of_ble_eq_true rfl) (fun κ K E => ?_)
  have K : Cx κ cX5_forget 1 RX5 1 20 0 0 := K
  have E : Ed κ none "forget" (.inl none) B 0 0 := E
  unfold f_X5_forget at h
  change Vw κ A 0 0 0 [(0, .inr (.inr x0))] []
  refine Vw.aload_n (pc := 0) (x := x0) K dX5_forget_0 rfl ?_
  obtain ⟨g2, h⟩ := wgd h
  refine Vw.getR (pc := 1) (k := 2) (f := 194) K cls3 rfl rfl u_1_69 g2 dX5_forget_1 ?_
  obtain ⟨g3, h⟩ := wgd h
  obtain ⟨A5, e4, h⟩ := wbd h
  refine Vw.cV0 (pc := 4) (c' := 0) (n' := 0) K (s_X6_empty K.tr e4) cal_X6_empty cls4 u_4_3 g3 rfl ⟨by decide, by decide⟩ ⟨by decide, by decide⟩ rfl (Nat.le_of_ble_eq_true rfl) dX5_forget_4 rfl rfl ?_
  refine Vw.aload_n (pc := 7) (x := x0) K dX5_forget_7 rfl ?_
  obtain ⟨g6, h⟩ := wgd h
  refine Vw.getR (pc := 8) (k := 3) (f := 195) K cls3 rfl rfl u_1_71 g6 dX5_forget_8 ?_
  obtain ⟨g7, h⟩ := wgd h
  obtain ⟨A9, e8, h⟩ := wbd h
  refine Vw.cV0 (pc := 11) (c' := 0) (n' := 0) K (s_X6_empty K.tr e8) cal_X6_empty cls4 u_4_3 g7 rfl ⟨by decide, by decide⟩ ⟨by decide, by decide⟩ rfl (Nat.le_of_ble_eq_true rfl) dX5_forget_11 rfl rfl ?_
  refine Vw.aload_n (pc := 14) (x := x0) K dX5_forget_14 rfl ?_
  refine Vw.iconst (pc := 15) (v := (0 : Int32)) K (by decide) dX5_forget_15 ?_
  obtain ⟨g10, h⟩ := wgd h
  refine Vw.putI (pc := 16) (k := 7) (f := 199) K cls3 rfl rfl u_1_77 g10 (Or.inl rfl) (wZ_n (Or.inl rfl)) (wZ_f (Or.inl rfl)) dX5_forget_16 ?_
  refine Vw.aload_n (pc := 19) (x := x0) K dX5_forget_19 rfl ?_
  refine Vw.iconst (pc := 20) (v := (0 : Int32)) K (by decide) dX5_forget_20 ?_
  refine Vw.putI (pc := 21) (k := 8) (f := 200) K cls3 rfl rfl u_1_78 g10 (Or.inl rfl) rfl rfl dX5_forget_21 ?_
  refine Vw.aload_n (pc := 24) (x := x0) K dX5_forget_24 rfl ?_
  refine Vw.ldc2 (pc := 25) (v := (-1 : Int64)) K u_4_4 dX5_forget_25 ?_
  refine Vw.putL (pc := 28) (k := 9) (f := 201) K cls3 rfl rfl u_1_79 g10 (Or.inl rfl) rfl rfl dX5_forget_28 ?_
  refine Vw.aload_n (pc := 31) (x := x0) K dX5_forget_31 rfl ?_
  refine Vw.iconst (pc := 32) (v := (0 : Int32)) K (by decide) dX5_forget_32 ?_
  refine Vw.putI (pc := 33) (k := 10) (f := 202) K cls3 rfl rfl u_1_80 g10 (Or.inl rfl) (wZ_n (Or.inl rfl)) (wZ_f (Or.inl rfl)) dX5_forget_33 ?_
  refine Vw.aload_n (pc := 36) (x := x0) K dX5_forget_36 rfl ?_
  refine Vw.iconst (pc := 37) (v := (0 : Int32)) K (by decide) dX5_forget_37 ?_
  refine Vw.putI (pc := 38) (k := 11) (f := 203) K cls3 rfl rfl u_1_82 g10 (Or.inl rfl) (wZ_n (Or.inl rfl)) (wZ_f (Or.inl rfl)) dX5_forget_38 ?_
  refine Vw.aload_n (pc := 41) (x := x0) K dX5_forget_41 rfl ?_
  refine Vw.iconst (pc := 42) (v := (1 : Int32)) K (by decide) dX5_forget_42 ?_
  refine Vw.putI (pc := 43) (k := 12) (f := 204) K cls3 rfl rfl u_1_84 g10 (Or.inl rfl) rfl rfl dX5_forget_43 ?_
  exact Vw.loc rfl (s_X5_forget_46 K E  h)
theorem cal_X5_forget : wCalV RX5 yX5_forget (.code yX5_forget cX5_forget 1 none) 0 := ⟨by decide +kernel, u_4_1, us_1_7, u_1_4, u_4_2⟩
def k_X5_readPair_20  (A : Hp) (x0 : Nat) (x1 : Nat) (x2 : Int32) (x3 : Int32) (t0 : Nat) (t1 : Int32) : Option (Hp) := if (hsh A t0).1 = 4 then if wZ t1 then if (hsh (hsI A 198 t0 0 t1) x0).1 = 4 then if (hsh (hsI A 198 t0 0 t1) (hgR (hsI A 198 t0 0 t1) 192 x0 0)).1 = 5 then ((f_X6_takeTrimmed (hsI A 198 t0 0 t1) (hgR (hsI A 198 t0 0 t1) 192 x0 0) x1 (0 : Int32) x3).bind fun A6 => if (hsh A6 x0).1 = 4 then if (hsh A6 (hgR A6 193 x0 0)).1 = 5 then ((f_X6_takeTrimmed A6 (hgR A6 193 x0 0) x1 (x3 + (1 : Int32)) x2).bind fun A10 => some A10) else none else none) else none else none else none else none
set_option maxRecDepth 100000 in
theorem s_X5_readPair_20 {κ : KT} {B : Hp} {A : Hp} {x0 : Nat} {x1 : Nat} {x2 : Int32} {x3 : Int32} {t0 : Nat} {t1 : Int32}  (K : Cx κ cX5_readPair 4 RX5 3 73 0 0) (E : Ed κ none "readPair" (.inl none) B 0 0)  (h : k_X5_readPair_20  A x0 x1 x2 x3 t0 t1 = some B) : Vw κ A 0 0 20 [(0, .inr (.inr x0)), (1, .inr (.inr x1)), (2, .inl x2), (3, .inl x3)] [.inl t1, .inr (.inr t0)] := by
  unfold k_X5_readPair_20 at h
  obtain ⟨g1, h⟩ := wgd h
  obtain ⟨g2, h⟩ := wgd h
  refine Vw.putI (pc := 20) (k := 6) (f := 198) K cls3 rfl rfl u_1_75 g1 (Or.inl rfl) (wZ_n g2) (wZ_f g2) dX5_readPair_20 ?_
  refine Vw.aload_n (pc := 23) (x := x0) K dX5_readPair_23 rfl ?_
  obtain ⟨g3, h⟩ := wgd h
  refine Vw.getR (pc := 24) (k := 0) (f := 192) K cls3 rfl rfl u_1_65 g3 dX5_readPair_24 ?_
  refine Vw.aload_n (pc := 27) (x := x1) K dX5_readPair_27 rfl ?_
  refine Vw.iconst (pc := 28) (v := (0 : Int32)) K (by decide) dX5_readPair_28 ?_
  refine Vw.iload_n (pc := 29) (x := x3) K dX5_readPair_29 rfl ?_
  obtain ⟨g4, h⟩ := wgd h
  obtain ⟨A6, e5, h⟩ := wbd h
  refine Vw.cV0 (pc := 30) (c' := 0) (n' := 0) K (s_X6_takeTrimmed K.tr e5) cal_X6_takeTrimmed cls4 u_4_10 g4 rfl ⟨by decide, by decide⟩ ⟨by decide, by decide⟩ rfl (Nat.le_of_ble_eq_true rfl) dX5_readPair_30 rfl rfl ?_
  refine Vw.aload_n (pc := 33) (x := x0) K dX5_readPair_33 rfl ?_
  obtain ⟨g7, h⟩ := wgd h
  refine Vw.getR (pc := 34) (k := 1) (f := 193) K cls3 rfl rfl u_1_67 g7 dX5_readPair_34 ?_
  refine Vw.aload_n (pc := 37) (x := x1) K dX5_readPair_37 rfl ?_
  refine Vw.iload_n (pc := 38) (x := x3) K dX5_readPair_38 rfl ?_
  refine Vw.iconst (pc := 39) (v := (1 : Int32)) K (by decide) dX5_readPair_39 ?_
  refine Vw.iadd (pc := 40) K dX5_readPair_40 ?_
  refine Vw.iload_n (pc := 41) (x := x2) K dX5_readPair_41 rfl ?_
  obtain ⟨g8, h⟩ := wgd h
  obtain ⟨A10, e9, h⟩ := wbd h
  refine Vw.cV0 (pc := 42) (c' := 0) (n' := 0) K (s_X6_takeTrimmed K.tr e9) cal_X6_takeTrimmed cls4 u_4_10 g8 rfl ⟨by decide, by decide⟩ ⟨by decide, by decide⟩ rfl (Nat.le_of_ble_eq_true rfl) dX5_readPair_42 rfl rfl ?_
  exact Vw.vretE (pc := 45) K (Option.some.inj h) E (by decide) (by decide) dX5_readPair_45
def f_X5_readPair (A : Hp) (x0 : Nat) (x1 : Nat) (x2 : Int32) : Option (Hp) := if (hsh A x1).1 = 5 then ((f_X6_find A x1 (61 : Int32) (0 : Int32) x2).bind fun v13 => (if x2 ≤ v13 then k_X5_readPair_20 A x0 x1 x2 v13 x0 (0 : Int32) else k_X5_readPair_20 A x0 x1 x2 v13 x0 (1 : Int32))) else none
set_option maxRecDepth 100000 in
theorem s_X5_readPair {l : Launch} {g : GT} (hl : l.stackTraces = false) {A : Hp} {x0 : Nat} {x1 : Nat} {x2 : Int32} {B : Hp} (h : f_X5_readPair A x0 x1 x2 = some B) : MetV l g yX5_readPair (.code yX5_readPair cX5_readPair 4 none) [.inr (.inr x0), .inr (.inr x1), .inl x2] A (.inl none) B 3 73 0 0 := by
  refine MetV.ofV hl (by decide +kernel) (Nat.le_of_ble_eq_true rfl) (fun κ K E => ?_)
  have K : Cx κ cX5_readPair 4 RX5 3 73 0 0 := K
  have E : Ed κ none "readPair" (.inl none) B 0 0 := E
  unfold f_X5_readPair at h
  change Vw κ A 0 0 0 [(0, .inr (.inr x0)), (1, .inr (.inr x1)), (2, .inl x2)] []
  refine Vw.aload_n (pc := 0) (x := x1) K dX5_readPair_0 rfl ?_
  refine Vw.bipush (pc := 1) (v := (61 : Int32)) K (by decide) dX5_readPair_1 ?_
  refine Vw.iconst (pc := 3) (v := (0 : Int32)) K (by decide) dX5_readPair_3 ?_
  refine Vw.iload_n (pc := 4) (x := x2) K dX5_readPair_4 rfl ?_
  obtain ⟨g11, h⟩ := wgd h
  obtain ⟨v13, e12, h⟩ := wbd h
  refine Vw.cV1 (pc := 5) (v := .inl v13) (c' := 0) (n' := 0) K (s_X6_find K.tr e12) cal_X6_find cls4 u_4_5 g11 rfl ⟨by decide, by decide⟩ ⟨by decide, by decide⟩ rfl (Nat.le_of_ble_eq_true rfl) dX5_readPair_5 rfl rfl ?_
  refine Vw.istore_n (pc := 8) K dX5_readPair_8 (by decide) ?_
  refine Vw.aload_n (pc := 9) (x := x0) K dX5_readPair_9 rfl ?_
  refine Vw.iload_n (pc := 10) (x := v13) K dX5_readPair_10 rfl ?_
  refine Vw.iload_n (pc := 11) (x := x2) K dX5_readPair_11 rfl ?_
  refine Vw.icmp_ge (pc := 12) (tgt := 19) K dX5_readPair_12 (by decide) (fun c14 => ?_) (fun c14 => ?_)
  · have h := wpos c14 h
    refine Vw.iconst (pc := 19) (v := (0 : Int32)) K (by decide) dX5_readPair_19 ?_
    exact Vw.loc rfl (s_X5_readPair_20 K E  h)
  · have h := wneg c14 h
    refine Vw.iconst (pc := 15) (v := (1 : Int32)) K (by decide) dX5_readPair_15 ?_
    refine Vw.goto (pc := 16) (tgt := 20) K dX5_readPair_16 (by decide) ?_
    exact Vw.loc rfl (s_X5_readPair_20 K E  h)
theorem cal_X5_readPair : wCalV RX5 yX5_readPair (.code yX5_readPair cX5_readPair 4 none) 2 := ⟨by decide +kernel, u_4_8, us_1_8, u_1_4, u_4_9⟩
def f_X5_readExpires (A : Hp) (x0 : Nat) : Option (Hp) := if (hsh A x0).1 = 4 then ((f_X2_read A (hgR A 197 x0 0)).bind fun v3 => (if v3 < (0 : Int64) then some A else some (hsL A 201 x0 0 v3))) else none
set_option maxRecDepth 100000 in
theorem s_X5_readExpires {l : Launch} {g : GT} (hl : l.stackTraces = false) {A : Hp} {x0 : Nat} {B : Hp} (h : f_X5_readExpires A x0 = some B) : MetV l g yX5_readExpires (.code yX5_readExpires cX5_readExpires 3 none) [.inr (.inr x0)] A (.inl none) B 6 134 0 0 := by
  refine MetV.ofV hl (by decide +kernel) (Nat.le_of_ble_eq_true rfl) (fun κ K E => ?_)
  have K : Cx κ cX5_readExpires 3 RX5 6 134 0 0 := K
  have E : Ed κ none "readExpires" (.inl none) B 0 0 := E
  unfold f_X5_readExpires at h
  change Vw κ A 0 0 0 [(0, .inr (.inr x0))] []
  refine Vw.aload_n (pc := 0) (x := x0) K dX5_readExpires_0 rfl ?_
  obtain ⟨g1, h⟩ := wgd h
  refine Vw.getR (pc := 1) (k := 5) (f := 197) K cls3 rfl rfl u_1_74 g1 dX5_readExpires_1 ?_
  obtain ⟨v3, e2, h⟩ := wbd h
  refine Vw.cS1 (pc := 4) (v := .inr (.inl v3)) (c' := 0) (n' := 0) K (s_X2_read K.tr e2) cal_X2_read u_4_33 rfl ⟨by decide, by decide⟩ ⟨by decide, by decide⟩ rfl (Nat.le_of_ble_eq_true rfl) dX5_readExpires_4 rfl rfl ?_
  refine Vw.lstore_n (pc := 7) K dX5_readExpires_7 (by decide) ?_
  refine Vw.lload_n (pc := 8) (x := v3) K dX5_readExpires_8 rfl ?_
  refine Vw.lconst (pc := 9) (v := (0 : Int64)) K (by decide) dX5_readExpires_9 ?_
  refine Vw.lcmp_lt (pc := 10) (tgt := 19) K dX5_readExpires_10 dX5_readExpires_11 (by decide) (fun c4 => ?_) (fun c4 => ?_)
  · have h := wpos c4 h
    exact Vw.vretE (pc := 19) K (Option.some.inj h) E (by decide) (by decide) dX5_readExpires_19
  · have h := wneg c4 h
    refine Vw.aload_n (pc := 14) (x := x0) K dX5_readExpires_14 rfl ?_
    refine Vw.lload_n (pc := 15) (x := v3) K dX5_readExpires_15 rfl ?_
    refine Vw.putL (pc := 16) (k := 9) (f := 201) K cls3 rfl rfl u_1_79 g1 (Or.inl rfl) rfl rfl dX5_readExpires_16 ?_
    exact Vw.vretE (pc := 19) K (Option.some.inj h) E (by decide) (by decide) dX5_readExpires_19
theorem cal_X5_readExpires : wCalV RX5 yX5_readExpires (.code yX5_readExpires cX5_readExpires 3 none) 0 := ⟨by decide +kernel, u_4_31, us_1_10, u_1_4, u_4_32⟩
def k_X5_readAge_91  (A : Hp)  (t0 : Nat) (t1 : Int32) : Option (Hp) := if (hsh A t0).1 = 4 then some (hsI A 200 t0 0 t1) else none
set_option maxRecDepth 100000 in
theorem s_X5_readAge_91 {κ : KT} {B : Hp} {A : Hp}  {t0 : Nat} {t1 : Int32}  (K : Cx κ cX5_readAge 5 RX5 2 46 0 0) (E : Ed κ none "readAge" (.inl none) B 0 0)  (h : k_X5_readAge_91  A  t0 t1 = some B) : Vw κ A 0 0 91 [] [.inl t1, .inr (.inr t0)] := by
  unfold k_X5_readAge_91 at h
  obtain ⟨g1, h⟩ := wgd h
  refine Vw.putI (pc := 91) (k := 8) (f := 200) K cls3 rfl rfl u_1_78 g1 (Or.inl rfl) rfl rfl dX5_readAge_91 ?_
  exact Vw.vretE (pc := 94) K (Option.some.inj h) E (by decide) (by decide) dX5_readAge_94
def k_X5_readAge_28  (A : Hp) (x0 : Nat) (x1 : Int32) (t0 : Int32) : Option (Hp) := if (hsh A x0).1 = 4 then if (hsh A (hgR A 197 x0 0)).1 = 5 then (if ((hgI A 257 (hgR A 197 x0 0) 0) - t0) < (1 : Int32) then some A else (if ((hgI A 257 (hgR A 197 x0 0) 0) - t0) ≤ (9 : Int32) then ((f_X6_number A (hgR A 197 x0 0) t0 (hgI A 257 (hgR A 197 x0 0) 0)).bind fun v7 => (if v7 < (0 : Int32) then some A else (if x1 = (0 : Int32) then k_X5_readAge_91 (hsI A 199 x0 0 (1 : Int32)) x0 v7 else k_X5_readAge_91 (hsI A 199 x0 0 (1 : Int32)) x0 (-v7)))) else some A)) else none else none
set_option maxRecDepth 100000 in
theorem s_X5_readAge_28 {κ : KT} {B : Hp} {A : Hp} {x0 : Nat} {x1 : Int32} {t0 : Int32}  (K : Cx κ cX5_readAge 5 RX5 2 46 0 0) (E : Ed κ none "readAge" (.inl none) B 0 0)  (h : k_X5_readAge_28  A x0 x1 t0 = some B) : Vw κ A 0 0 28 [(0, .inr (.inr x0)), (1, .inl x1)] [.inl t0] := by
  unfold k_X5_readAge_28 at h
  refine Vw.istore_n (pc := 28) K dX5_readAge_28 (by decide) ?_
  refine Vw.aload_n (pc := 29) (x := x0) K dX5_readAge_29 rfl ?_
  obtain ⟨g2, h⟩ := wgd h
  refine Vw.getR (pc := 30) (k := 5) (f := 197) K cls3 rfl rfl u_1_74 g2 dX5_readAge_30 ?_
  obtain ⟨g3, h⟩ := wgd h
  refine Vw.getI (pc := 33) (k := 1) (f := 257) K cls4 rfl rfl u_1_45 g3 dX5_readAge_33 ?_
  refine Vw.iload_n (pc := 36) (x := t0) K dX5_readAge_36 rfl ?_
  refine Vw.isub (pc := 37) K dX5_readAge_37 ?_
  refine Vw.istore_n (pc := 38) K dX5_readAge_38 (by decide) ?_
  refine Vw.iload_n (pc := 39) (x := ((hgI A 257 (hgR A 197 x0 0) 0) - t0)) K dX5_readAge_39 rfl ?_
  refine Vw.iconst (pc := 40) (v := (1 : Int32)) K (by decide) dX5_readAge_40 ?_
  refine Vw.icmp_lt (pc := 41) (tgt := 50) K dX5_readAge_41 (by decide) (fun c4 => ?_) (fun c4 => ?_)
  · have h := wpos c4 h
    exact Vw.vretE (pc := 50) K (Option.some.inj h) E (by decide) (by decide) dX5_readAge_50
  · have h := wneg c4 h
    refine Vw.iload_n (pc := 44) (x := ((hgI A 257 (hgR A 197 x0 0) 0) - t0)) K dX5_readAge_44 rfl ?_
    refine Vw.bipush (pc := 45) (v := (9 : Int32)) K (by decide) dX5_readAge_45 ?_
    refine Vw.icmp_le (pc := 47) (tgt := 51) K dX5_readAge_47 (by decide) (fun c5 => ?_) (fun c5 => ?_)
    · have h := wpos c5 h
      refine Vw.aload_n (pc := 51) (x := x0) K dX5_readAge_51 rfl ?_
      refine Vw.getR (pc := 52) (k := 5) (f := 197) K cls3 rfl rfl u_1_74 g2 dX5_readAge_52 ?_
      refine Vw.iload_n (pc := 55) (x := t0) K dX5_readAge_55 rfl ?_
      refine Vw.aload_n (pc := 56) (x := x0) K dX5_readAge_56 rfl ?_
      refine Vw.getR (pc := 57) (k := 5) (f := 197) K cls3 rfl rfl u_1_74 g2 dX5_readAge_57 ?_
      refine Vw.getI (pc := 60) (k := 1) (f := 257) K cls4 rfl rfl u_1_45 g3 dX5_readAge_60 ?_
      obtain ⟨v7, e6, h⟩ := wbd h
      refine Vw.cV1 (pc := 63) (v := .inl v7) (c' := 0) (n' := 0) K (s_X6_number K.tr e6) cal_X6_number cls4 u_4_71 g3 rfl ⟨by decide, by decide⟩ ⟨by decide, by decide⟩ rfl (Nat.le_of_ble_eq_true rfl) dX5_readAge_63 rfl rfl ?_
      refine Vw.istore (pc := 66) K dX5_readAge_66 (by decide) ?_
      refine Vw.iload (pc := 68) (x := v7) K dX5_readAge_68 rfl ?_
      refine Vw.if_lt (pc := 70) (tgt := 94) K dX5_readAge_70 (by decide) (fun c8 => ?_) (fun c8 => ?_)
      · have h := wpos c8 h
        exact Vw.vretE (pc := 94) K (Option.some.inj h) E (by decide) (by decide) dX5_readAge_94
      · have h := wneg c8 h
        refine Vw.aload_n (pc := 73) (x := x0) K dX5_readAge_73 rfl ?_
        refine Vw.iconst (pc := 74) (v := (1 : Int32)) K (by decide) dX5_readAge_74 ?_
        refine Vw.putI (pc := 75) (k := 7) (f := 199) K cls3 rfl rfl u_1_77 g2 (Or.inl rfl) (wZ_n (Or.inr rfl)) (wZ_f (Or.inr rfl)) dX5_readAge_75 ?_
        refine Vw.aload_n (pc := 78) (x := x0) K dX5_readAge_78 rfl ?_
        refine Vw.iload_n (pc := 79) (x := x1) K dX5_readAge_79 rfl ?_
        refine Vw.if_eq (pc := 80) (tgt := 89) K dX5_readAge_80 (by decide) (fun c9 => ?_) (fun c9 => ?_)
        · have h := wpos c9 h
          refine Vw.iload (pc := 89) (x := v7) K dX5_readAge_89 rfl ?_
          exact Vw.loc rfl (s_X5_readAge_91 K E  h)
        · have h := wneg c9 h
          refine Vw.iload (pc := 83) (x := v7) K dX5_readAge_83 rfl ?_
          refine Vw.ineg (pc := 85) K dX5_readAge_85 ?_
          refine Vw.goto (pc := 86) (tgt := 91) K dX5_readAge_86 (by decide) ?_
          exact Vw.loc rfl (s_X5_readAge_91 K E  h)
    · have h := wneg c5 h
      exact Vw.vretE (pc := 50) K (Option.some.inj h) E (by decide) (by decide) dX5_readAge_50
def k_X5_readAge_18  (A : Hp) (x0 : Nat) (t0 : Int32) : Option (Hp) := (if t0 = (0 : Int32) then k_X5_readAge_28 A x0 t0 (0 : Int32) else k_X5_readAge_28 A x0 t0 (1 : Int32))
set_option maxRecDepth 100000 in
theorem s_X5_readAge_18 {κ : KT} {B : Hp} {A : Hp} {x0 : Nat} {t0 : Int32}  (K : Cx κ cX5_readAge 5 RX5 2 46 0 0) (E : Ed κ none "readAge" (.inl none) B 0 0)  (h : k_X5_readAge_18  A x0 t0 = some B) : Vw κ A 0 0 18 [(0, .inr (.inr x0))] [.inl t0] := by
  unfold k_X5_readAge_18 at h
  refine Vw.istore_n (pc := 18) K dX5_readAge_18 (by decide) ?_
  refine Vw.iload_n (pc := 19) (x := t0) K dX5_readAge_19 rfl ?_
  refine Vw.if_eq (pc := 20) (tgt := 27) K dX5_readAge_20 (by decide) (fun c10 => ?_) (fun c10 => ?_)
  · have h := wpos c10 h
    refine Vw.iconst (pc := 27) (v := (0 : Int32)) K (by decide) dX5_readAge_27 ?_
    exact Vw.loc rfl (s_X5_readAge_28 K E  h)
  · have h := wneg c10 h
    refine Vw.iconst (pc := 23) (v := (1 : Int32)) K (by decide) dX5_readAge_23 ?_
    refine Vw.goto (pc := 24) (tgt := 28) K dX5_readAge_24 (by decide) ?_
    exact Vw.loc rfl (s_X5_readAge_28 K E  h)
def f_X5_readAge (A : Hp) (x0 : Nat) : Option (Hp) := if (hsh A x0).1 = 4 then if (hsh A (hgR A 197 x0 0)).1 = 5 then ((f_X6_at A (hgR A 197 x0 0) (0 : Int32)).bind fun v14 => (if v14 = (45 : Int32) then k_X5_readAge_18 A x0 (1 : Int32) else k_X5_readAge_18 A x0 (0 : Int32))) else none else none
set_option maxRecDepth 100000 in
theorem s_X5_readAge {l : Launch} {g : GT} (hl : l.stackTraces = false) {A : Hp} {x0 : Nat} {B : Hp} (h : f_X5_readAge A x0 = some B) : MetV l g yX5_readAge (.code yX5_readAge cX5_readAge 5 none) [.inr (.inr x0)] A (.inl none) B 2 46 0 0 := by
  refine MetV.ofV hl (by decide +kernel) (Nat.le_of_ble_eq_true rfl) (fun κ K E => ?_)
  have K : Cx κ cX5_readAge 5 RX5 2 46 0 0 := K
  have E : Ed κ none "readAge" (.inl none) B 0 0 := E
  unfold f_X5_readAge at h
  change Vw κ A 0 0 0 [(0, .inr (.inr x0))] []
  refine Vw.aload_n (pc := 0) (x := x0) K dX5_readAge_0 rfl ?_
  obtain ⟨g11, h⟩ := wgd h
  refine Vw.getR (pc := 1) (k := 5) (f := 197) K cls3 rfl rfl u_1_74 g11 dX5_readAge_1 ?_
  refine Vw.iconst (pc := 4) (v := (0 : Int32)) K (by decide) dX5_readAge_4 ?_
  obtain ⟨g12, h⟩ := wgd h
  obtain ⟨v14, e13, h⟩ := wbd h
  refine Vw.cV1 (pc := 5) (v := .inl v14) (c' := 0) (n' := 0) K (s_X6_at K.tr e13) cal_X6_at cls4 u_4_14 g12 rfl ⟨by decide, by decide⟩ ⟨by decide, by decide⟩ rfl (Nat.le_of_ble_eq_true rfl) dX5_readAge_5 rfl rfl ?_
  refine Vw.bipush (pc := 8) (v := (45 : Int32)) K (by decide) dX5_readAge_8 ?_
  refine Vw.icmp_ne (pc := 10) (tgt := 17) K dX5_readAge_10 (by decide) (fun c15 => ?_) (fun c15 => ?_)
  · have h := wneg c15 h
    refine Vw.iconst (pc := 17) (v := (0 : Int32)) K (by decide) dX5_readAge_17 ?_
    exact Vw.loc rfl (s_X5_readAge_18 K E  h)
  · have h := wpos c15 h
    refine Vw.iconst (pc := 13) (v := (1 : Int32)) K (by decide) dX5_readAge_13 ?_
    refine Vw.goto (pc := 14) (tgt := 18) K dX5_readAge_14 (by decide) ?_
    exact Vw.loc rfl (s_X5_readAge_18 K E  h)
theorem cal_X5_readAge : wCalV RX5 yX5_readAge (.code yX5_readAge cX5_readAge 5 none) 0 := ⟨by decide +kernel, u_4_69, us_1_11, u_1_4, u_4_70⟩
def k_X5_readDomain_18  (A : Hp) (x0 : Nat) (t0 : Int32) : Option (Hp) := if (hsh A x0).1 = 4 then if (hsh A (hgR A 197 x0 0)).1 = 5 then (if (hgI A 257 (hgR A 197 x0 0) 0) ≤ t0 then some A else if (hsh A (hgR A 194 x0 0)).1 = 5 then ((f_X6_take A (hgR A 194 x0 0) (hgR A 197 x0 0) t0 (hgI A 257 (hgR A 197 x0 0) 0)).bind fun A6 => if (hsh A6 x0).1 = 4 then if (hsh A6 (hgR A6 194 x0 0)).1 = 5 then ((f_X6_toSmallLetters A6 (hgR A6 194 x0 0)).bind fun A10 => some A10) else none else none) else none) else none else none
set_option maxRecDepth 100000 in
theorem s_X5_readDomain_18 {κ : KT} {B : Hp} {A : Hp} {x0 : Nat} {t0 : Int32}  (K : Cx κ cX5_readDomain 2 RX5 2 48 0 0) (E : Ed κ none "readDomain" (.inl none) B 0 0)  (h : k_X5_readDomain_18  A x0 t0 = some B) : Vw κ A 0 0 18 [(0, .inr (.inr x0))] [.inl t0] := by
  unfold k_X5_readDomain_18 at h
  refine Vw.istore_n (pc := 18) K dX5_readDomain_18 (by decide) ?_
  refine Vw.aload_n (pc := 19) (x := x0) K dX5_readDomain_19 rfl ?_
  obtain ⟨g1, h⟩ := wgd h
  refine Vw.getR (pc := 20) (k := 5) (f := 197) K cls3 rfl rfl u_1_74 g1 dX5_readDomain_20 ?_
  obtain ⟨g2, h⟩ := wgd h
  refine Vw.getI (pc := 23) (k := 1) (f := 257) K cls4 rfl rfl u_1_45 g2 dX5_readDomain_23 ?_
  refine Vw.iload_n (pc := 26) (x := t0) K dX5_readDomain_26 rfl ?_
  refine Vw.icmp_le (pc := 27) (tgt := 56) K dX5_readDomain_27 (by decide) (fun c3 => ?_) (fun c3 => ?_)
  · have h := wpos c3 h
    exact Vw.vretE (pc := 56) K (Option.some.inj h) E (by decide) (by decide) dX5_readDomain_56
  · have h := wneg c3 h
    refine Vw.aload_n (pc := 30) (x := x0) K dX5_readDomain_30 rfl ?_
    refine Vw.getR (pc := 31) (k := 2) (f := 194) K cls3 rfl rfl u_1_69 g1 dX5_readDomain_31 ?_
    refine Vw.aload_n (pc := 34) (x := x0) K dX5_readDomain_34 rfl ?_
    refine Vw.getR (pc := 35) (k := 5) (f := 197) K cls3 rfl rfl u_1_74 g1 dX5_readDomain_35 ?_
    refine Vw.iload_n (pc := 38) (x := t0) K dX5_readDomain_38 rfl ?_
    refine Vw.aload_n (pc := 39) (x := x0) K dX5_readDomain_39 rfl ?_
    refine Vw.getR (pc := 40) (k := 5) (f := 197) K cls3 rfl rfl u_1_74 g1 dX5_readDomain_40 ?_
    refine Vw.getI (pc := 43) (k := 1) (f := 257) K cls4 rfl rfl u_1_45 g2 dX5_readDomain_43 ?_
    obtain ⟨g4, h⟩ := wgd h
    obtain ⟨A6, e5, h⟩ := wbd h
    refine Vw.cV0 (pc := 46) (c' := 0) (n' := 0) K (s_X6_take K.tr e5) cal_X6_take cls4 u_4_77 g4 rfl ⟨by decide, by decide⟩ ⟨by decide, by decide⟩ rfl (Nat.le_of_ble_eq_true rfl) dX5_readDomain_46 rfl rfl ?_
    refine Vw.aload_n (pc := 49) (x := x0) K dX5_readDomain_49 rfl ?_
    obtain ⟨g7, h⟩ := wgd h
    refine Vw.getR (pc := 50) (k := 2) (f := 194) K cls3 rfl rfl u_1_69 g7 dX5_readDomain_50 ?_
    obtain ⟨g8, h⟩ := wgd h
    obtain ⟨A10, e9, h⟩ := wbd h
    refine Vw.cV0 (pc := 53) (c' := 0) (n' := 0) K (s_X6_toSmallLetters K.tr e9) cal_X6_toSmallLetters cls4 u_4_19 g8 rfl ⟨by decide, by decide⟩ ⟨by decide, by decide⟩ rfl (Nat.le_of_ble_eq_true rfl) dX5_readDomain_53 rfl rfl ?_
    exact Vw.vretE (pc := 56) K (Option.some.inj h) E (by decide) (by decide) dX5_readDomain_56
def f_X5_readDomain (A : Hp) (x0 : Nat) : Option (Hp) := if (hsh A x0).1 = 4 then if (hsh A (hgR A 197 x0 0)).1 = 5 then ((f_X6_at A (hgR A 197 x0 0) (0 : Int32)).bind fun v14 => (if v14 = (46 : Int32) then k_X5_readDomain_18 A x0 (1 : Int32) else k_X5_readDomain_18 A x0 (0 : Int32))) else none else none
set_option maxRecDepth 100000 in
theorem s_X5_readDomain {l : Launch} {g : GT} (hl : l.stackTraces = false) {A : Hp} {x0 : Nat} {B : Hp} (h : f_X5_readDomain A x0 = some B) : MetV l g yX5_readDomain (.code yX5_readDomain cX5_readDomain 2 none) [.inr (.inr x0)] A (.inl none) B 2 48 0 0 := by
  refine MetV.ofV hl (by decide +kernel) (Nat.le_of_ble_eq_true rfl) (fun κ K E => ?_)
  have K : Cx κ cX5_readDomain 2 RX5 2 48 0 0 := K
  have E : Ed κ none "readDomain" (.inl none) B 0 0 := E
  unfold f_X5_readDomain at h
  change Vw κ A 0 0 0 [(0, .inr (.inr x0))] []
  refine Vw.aload_n (pc := 0) (x := x0) K dX5_readDomain_0 rfl ?_
  obtain ⟨g11, h⟩ := wgd h
  refine Vw.getR (pc := 1) (k := 5) (f := 197) K cls3 rfl rfl u_1_74 g11 dX5_readDomain_1 ?_
  refine Vw.iconst (pc := 4) (v := (0 : Int32)) K (by decide) dX5_readDomain_4 ?_
  obtain ⟨g12, h⟩ := wgd h
  obtain ⟨v14, e13, h⟩ := wbd h
  refine Vw.cV1 (pc := 5) (v := .inl v14) (c' := 0) (n' := 0) K (s_X6_at K.tr e13) cal_X6_at cls4 u_4_14 g12 rfl ⟨by decide, by decide⟩ ⟨by decide, by decide⟩ rfl (Nat.le_of_ble_eq_true rfl) dX5_readDomain_5 rfl rfl ?_
  refine Vw.bipush (pc := 8) (v := (46 : Int32)) K (by decide) dX5_readDomain_8 ?_
  refine Vw.icmp_ne (pc := 10) (tgt := 17) K dX5_readDomain_10 (by decide) (fun c15 => ?_) (fun c15 => ?_)
  · have h := wneg c15 h
    refine Vw.iconst (pc := 17) (v := (0 : Int32)) K (by decide) dX5_readDomain_17 ?_
    exact Vw.loc rfl (s_X5_readDomain_18 K E  h)
  · have h := wpos c15 h
    refine Vw.iconst (pc := 13) (v := (1 : Int32)) K (by decide) dX5_readDomain_13 ?_
    refine Vw.goto (pc := 14) (tgt := 18) K dX5_readDomain_14 (by decide) ?_
    exact Vw.loc rfl (s_X5_readDomain_18 K E  h)
theorem cal_X5_readDomain : wCalV RX5 yX5_readDomain (.code yX5_readDomain cX5_readDomain 2 none) 0 := ⟨by decide +kernel, u_4_75, us_1_12, u_1_4, u_4_76⟩
def f_X5_readPath (A : Hp) (x0 : Nat) : Option (Hp) := if (hsh A x0).1 = 4 then if (hsh A (hgR A 197 x0 0)).1 = 5 then ((f_X6_at A (hgR A 197 x0 0) (0 : Int32)).bind fun v4 => (if v4 = (47 : Int32) then (if (40 : Int32) < (hgI A 257 (hgR A 197 x0 0) 0) then some A else if (hsh A (hgR A 195 x0 0)).1 = 5 then ((f_X6_copy A (hgR A 195 x0 0) (hgR A 197 x0 0)).bind fun A9 => some A9) else none) else some A)) else none else none
set_option maxRecDepth 100000 in
theorem s_X5_readPath {l : Launch} {g : GT} (hl : l.stackTraces = false) {A : Hp} {x0 : Nat} {B : Hp} (h : f_X5_readPath A x0 = some B) : MetV l g yX5_readPath (.code yX5_readPath cX5_readPath 1 none) [.inr (.inr x0)] A (.inl none) B 3 69 0 0 := by
  refine MetV.ofV hl (by decide +kernel) (Nat.le_of_ble_eq_true rfl) (fun κ K E => ?_)
  have K : Cx κ cX5_readPath 1 RX5 3 69 0 0 := K
  have E : Ed κ none "readPath" (.inl none) B 0 0 := E
  unfold f_X5_readPath at h
  change Vw κ A 0 0 0 [(0, .inr (.inr x0))] []
  refine Vw.aload_n (pc := 0) (x := x0) K dX5_readPath_0 rfl ?_
  obtain ⟨g1, h⟩ := wgd h
  refine Vw.getR (pc := 1) (k := 5) (f := 197) K cls3 rfl rfl u_1_74 g1 dX5_readPath_1 ?_
  refine Vw.iconst (pc := 4) (v := (0 : Int32)) K (by decide) dX5_readPath_4 ?_
  obtain ⟨g2, h⟩ := wgd h
  obtain ⟨v4, e3, h⟩ := wbd h
  refine Vw.cV1 (pc := 5) (v := .inl v4) (c' := 0) (n' := 0) K (s_X6_at K.tr e3) cal_X6_at cls4 u_4_14 g2 rfl ⟨by decide, by decide⟩ ⟨by decide, by decide⟩ rfl (Nat.le_of_ble_eq_true rfl) dX5_readPath_5 rfl rfl ?_
  refine Vw.bipush (pc := 8) (v := (47 : Int32)) K (by decide) dX5_readPath_8 ?_
  refine Vw.icmp_ne (pc := 10) (tgt := 36) K dX5_readPath_10 (by decide) (fun c5 => ?_) (fun c5 => ?_)
  · have h := wneg c5 h
    exact Vw.vretE (pc := 36) K (Option.some.inj h) E (by decide) (by decide) dX5_readPath_36
  · have h := wpos c5 h
    refine Vw.aload_n (pc := 13) (x := x0) K dX5_readPath_13 rfl ?_
    refine Vw.getR (pc := 14) (k := 5) (f := 197) K cls3 rfl rfl u_1_74 g1 dX5_readPath_14 ?_
    refine Vw.getI (pc := 17) (k := 1) (f := 257) K cls4 rfl rfl u_1_45 g2 dX5_readPath_17 ?_
    refine Vw.bipush (pc := 20) (v := (40 : Int32)) K (by decide) dX5_readPath_20 ?_
    refine Vw.icmp_gt (pc := 22) (tgt := 36) K dX5_readPath_22 (by decide) (fun c6 => ?_) (fun c6 => ?_)
    · have h := wpos c6 h
      exact Vw.vretE (pc := 36) K (Option.some.inj h) E (by decide) (by decide) dX5_readPath_36
    · have h := wneg c6 h
      refine Vw.aload_n (pc := 25) (x := x0) K dX5_readPath_25 rfl ?_
      refine Vw.getR (pc := 26) (k := 3) (f := 195) K cls3 rfl rfl u_1_71 g1 dX5_readPath_26 ?_
      refine Vw.aload_n (pc := 29) (x := x0) K dX5_readPath_29 rfl ?_
      refine Vw.getR (pc := 30) (k := 5) (f := 197) K cls3 rfl rfl u_1_74 g1 dX5_readPath_30 ?_
      obtain ⟨g7, h⟩ := wgd h
      obtain ⟨A9, e8, h⟩ := wbd h
      refine Vw.cV0 (pc := 33) (c' := 0) (n' := 0) K (s_X6_copy K.tr e8) cal_X6_copy cls4 u_4_83 g7 rfl ⟨by decide, by decide⟩ ⟨by decide, by decide⟩ rfl (Nat.le_of_ble_eq_true rfl) dX5_readPath_33 rfl rfl ?_
      exact Vw.vretE (pc := 36) K (Option.some.inj h) E (by decide) (by decide) dX5_readPath_36
theorem cal_X5_readPath : wCalV RX5 yX5_readPath (.code yX5_readPath cX5_readPath 1 none) 0 := ⟨by decide +kernel, u_4_81, us_1_13, u_1_4, u_4_82⟩
def f_X5_oneOf (A : Hp) (x0 : Nat) (x1 : Nat) (x2 : Nat) (x3 : Nat) (x4 : Int32) : Option (Int32) := if (hsh A x0).1 = 4 then if (hsh A (hgR A 197 x0 0)).1 = 5 then ((f_X6_is A (hgR A 197 x0 0) x1).bind fun v4 => (if v4 = (0 : Int32) then ((f_X6_is A (hgR A 197 x0 0) x2).bind fun v7 => (if v7 = (0 : Int32) then ((f_X6_is A (hgR A 197 x0 0) x3).bind fun v10 => (if v10 = (0 : Int32) then some x4 else some (2 : Int32))) else some (1 : Int32))) else some (0 : Int32))) else none else none
set_option maxRecDepth 100000 in
theorem s_X5_oneOf {l : Launch} {g : GT} (hl : l.stackTraces = false) {A : Hp} {x0 : Nat} {x1 : Nat} {x2 : Nat} {x3 : Nat} {x4 : Int32} {r : Int32} (h : f_X5_oneOf A x0 x1 x2 x3 x4 = some r) : MetV l g yX5_oneOf (.code yX5_oneOf cX5_oneOf 5 (some .int)) [.inr (.inr x0), .inr (.inr x1), .inr (.inr x2), .inr (.inr x3), .inl x4] A (.inl (some (.inl r))) A 6 128 0 0 := by
  refine MetV.ofV hl (by decide +kernel) (Nat.le_of_ble_eq_true rfl) (fun κ K E => ?_)
  have K : Cx κ cX5_oneOf 5 RX5 6 128 0 0 := K
  have E : Ed κ (some .int) "oneOf" (.inl (some (.inl r))) A 0 0 := E
  unfold f_X5_oneOf at h
  change Vw κ A 0 0 0 [(0, .inr (.inr x0)), (1, .inr (.inr x1)), (2, .inr (.inr x2)), (3, .inr (.inr x3)), (4, .inl x4)] []
  refine Vw.aload_n (pc := 0) (x := x0) K dX5_oneOf_0 rfl ?_
  obtain ⟨g1, h⟩ := wgd h
  refine Vw.getR (pc := 1) (k := 5) (f := 197) K cls3 rfl rfl u_1_74 g1 dX5_oneOf_1 ?_
  refine Vw.aload_n (pc := 4) (x := x1) K dX5_oneOf_4 rfl ?_
  obtain ⟨g2, h⟩ := wgd h
  obtain ⟨v4, e3, h⟩ := wbd h
  refine Vw.cV1 (pc := 5) (v := .inl v4) (c' := 0) (n' := 0) K (s_X6_is K.tr e3) cal_X6_is cls4 u_4_24 g2 rfl ⟨by decide, by decide⟩ ⟨by decide, by decide⟩ rfl (Nat.le_of_ble_eq_true rfl) dX5_oneOf_5 rfl rfl ?_
  refine Vw.if_eq (pc := 8) (tgt := 13) K dX5_oneOf_8 (by decide) (fun c5 => ?_) (fun c5 => ?_)
  · have h := wpos c5 h
    refine Vw.aload_n (pc := 13) (x := x0) K dX5_oneOf_13 rfl ?_
    refine Vw.getR (pc := 14) (k := 5) (f := 197) K cls3 rfl rfl u_1_74 g1 dX5_oneOf_14 ?_
    refine Vw.aload_n (pc := 17) (x := x2) K dX5_oneOf_17 rfl ?_
    obtain ⟨v7, e6, h⟩ := wbd h
    refine Vw.cV1 (pc := 18) (v := .inl v7) (c' := 0) (n' := 0) K (s_X6_is K.tr e6) cal_X6_is cls4 u_4_24 g2 rfl ⟨by decide, by decide⟩ ⟨by decide, by decide⟩ rfl (Nat.le_of_ble_eq_true rfl) dX5_oneOf_18 rfl rfl ?_
    refine Vw.if_eq (pc := 21) (tgt := 26) K dX5_oneOf_21 (by decide) (fun c8 => ?_) (fun c8 => ?_)
    · have h := wpos c8 h
      refine Vw.aload_n (pc := 26) (x := x0) K dX5_oneOf_26 rfl ?_
      refine Vw.getR (pc := 27) (k := 5) (f := 197) K cls3 rfl rfl u_1_74 g1 dX5_oneOf_27 ?_
      refine Vw.aload_n (pc := 30) (x := x3) K dX5_oneOf_30 rfl ?_
      obtain ⟨v10, e9, h⟩ := wbd h
      refine Vw.cV1 (pc := 31) (v := .inl v10) (c' := 0) (n' := 0) K (s_X6_is K.tr e9) cal_X6_is cls4 u_4_24 g2 rfl ⟨by decide, by decide⟩ ⟨by decide, by decide⟩ rfl (Nat.le_of_ble_eq_true rfl) dX5_oneOf_31 rfl rfl ?_
      refine Vw.if_eq (pc := 34) (tgt := 41) K dX5_oneOf_34 (by decide) (fun c11 => ?_) (fun c11 => ?_)
      · have h := wpos c11 h
        refine Vw.iload (pc := 41) (x := x4) K dX5_oneOf_41 rfl ?_
        exact Vw.iretE (pc := 43) K (Option.some.inj h) rfl E (by decide) (by decide) dX5_oneOf_43
      · have h := wneg c11 h
        refine Vw.iconst (pc := 37) (v := (2 : Int32)) K (by decide) dX5_oneOf_37 ?_
        refine Vw.goto (pc := 38) (tgt := 43) K dX5_oneOf_38 (by decide) ?_
        exact Vw.iretE (pc := 43) K (Option.some.inj h) rfl E (by decide) (by decide) dX5_oneOf_43
    · have h := wneg c8 h
      refine Vw.iconst (pc := 24) (v := (1 : Int32)) K (by decide) dX5_oneOf_24 ?_
      exact Vw.iretE (pc := 25) K (Option.some.inj h) rfl E (by decide) (by decide) dX5_oneOf_25
  · have h := wneg c5 h
    refine Vw.iconst (pc := 11) (v := (0 : Int32)) K (by decide) dX5_oneOf_11 ?_
    exact Vw.iretE (pc := 12) K (Option.some.inj h) rfl E (by decide) (by decide) dX5_oneOf_12
theorem cal_X5_oneOf : wCalV RX5 yX5_oneOf (.code yX5_oneOf cX5_oneOf 5 (some .int)) 4 := ⟨by decide +kernel, u_4_92, us_1_14, u_1_4, u_4_93⟩
def f_X5_readAttribute (A : Hp) (x0 : Nat) (x1 : Nat) (x2 : Int32) (x3 : Int32) : Option (Hp) := if (hsh A x1).1 = 5 then ((f_X6_find A x1 (61 : Int32) x2 x3).bind fun v3 => if (hsh A x0).1 = 4 then if (hsh A (hgR A 196 x0 0)).1 = 5 then ((f_X6_takeTrimmed A (hgR A 196 x0 0) x1 x2 v3).bind fun A7 => if (hsh A7 x0).1 = 4 then if (hsh A7 (hgR A7 196 x0 0)).1 = 5 then ((f_X6_toSmallLetters A7 (hgR A7 196 x0 0)).bind fun A11 => if (hsh A11 x0).1 = 4 then if (hsh A11 (hgR A11 197 x0 0)).1 = 5 then ((f_X6_takeTrimmed A11 (hgR A11 197 x0 0) x1 (v3 + (1 : Int32)) x3).bind fun A15 => if (hsh A15 x0).1 = 4 then if (hsh A15 (hgR A15 196 x0 0)).1 = 5 then ((f_X6_is A15 (hgR A15 196 x0 0) 7).bind fun v19 => (if v19 = (0 : Int32) then ((f_X6_is A15 (hgR A15 196 x0 0) 8).bind fun v22 => (if v22 = (0 : Int32) then ((f_X6_is A15 (hgR A15 196 x0 0) 9).bind fun v25 => (if v25 = (0 : Int32) then ((f_X6_is A15 (hgR A15 196 x0 0) 10).bind fun v28 => (if v28 = (0 : Int32) then ((f_X6_is A15 (hgR A15 196 x0 0) 11).bind fun v31 => (if v31 = (0 : Int32) then ((f_X6_is A15 (hgR A15 196 x0 0) 12).bind fun v34 => (if v34 = (0 : Int32) then ((f_X6_is A15 (hgR A15 196 x0 0) 13).bind fun v37 => (if v37 = (0 : Int32) then ((f_X6_is A15 (hgR A15 196 x0 0) 17).bind fun v40 => (if v40 = (0 : Int32) then some A15 else if (hsh A15 (hgR A15 197 x0 0)).1 = 5 then ((f_X6_toSmallLetters A15 (hgR A15 197 x0 0)).bind fun A44 => if (hsh A44 x0).1 = 4 then ((f_X5_oneOf A44 x0 18 19 20 (hgI A44 205 x0 0)).bind fun v47 => some (hsI A44 205 x0 0 v47)) else none) else none)) else if (hsh A15 (hgR A15 197 x0 0)).1 = 5 then ((f_X6_toSmallLetters A15 (hgR A15 197 x0 0)).bind fun A50 => if (hsh A50 x0).1 = 4 then ((f_X5_oneOf A50 x0 14 15 16 (hgI A50 204 x0 0)).bind fun v53 => some (hsI A50 204 x0 0 v53)) else none) else none)) else some (hsI A15 203 x0 0 (1 : Int32)))) else some (hsI A15 202 x0 0 (1 : Int32)))) else ((f_X5_readPath A15 x0).bind fun A55 => some A55))) else ((f_X5_readDomain A15 x0).bind fun A57 => some A57))) else ((f_X5_readAge A15 x0).bind fun A59 => some A59))) else ((f_X5_readExpires A15 x0).bind fun A61 => some A61))) else none else none) else none else none) else none else none) else none else none) else none
set_option maxRecDepth 100000 in
theorem s_X5_readAttribute {l : Launch} {g : GT} (hl : l.stackTraces = false) {A : Hp} {x0 : Nat} {x1 : Nat} {x2 : Int32} {x3 : Int32} {B : Hp} (h : f_X5_readAttribute A x0 x1 x2 x3 = some B) : MetV l g yX5_readAttribute (.code yX5_readAttribute cX5_readAttribute 5 none) [.inr (.inr x0), .inr (.inr x1), .inl x2, .inl x3] A (.inl none) B 7 156 0 0 := by
  refine MetV.ofV hl (by decide +kernel) (Nat.le_of_ble_eq_true rfl) (fun κ K E => ?_)
  have K : Cx κ cX5_readAttribute 5 RX5 7 156 0 0 := K
  have E : Ed κ none "readAttribute" (.inl none) B 0 0 := E
  unfold f_X5_readAttribute at h
  change Vw κ A 0 0 0 [(0, .inr (.inr x0)), (1, .inr (.inr x1)), (2, .inl x2), (3, .inl x3)] []
  refine Vw.aload_n (pc := 0) (x := x1) K dX5_readAttribute_0 rfl ?_
  refine Vw.bipush (pc := 1) (v := (61 : Int32)) K (by decide) dX5_readAttribute_1 ?_
  refine Vw.iload_n (pc := 3) (x := x2) K dX5_readAttribute_3 rfl ?_
  refine Vw.iload_n (pc := 4) (x := x3) K dX5_readAttribute_4 rfl ?_
  obtain ⟨g1, h⟩ := wgd h
  obtain ⟨v3, e2, h⟩ := wbd h
  refine Vw.cV1 (pc := 5) (v := .inl v3) (c' := 0) (n' := 0) K (s_X6_find K.tr e2) cal_X6_find cls4 u_4_5 g1 rfl ⟨by decide, by decide⟩ ⟨by decide, by decide⟩ rfl (Nat.le_of_ble_eq_true rfl) dX5_readAttribute_5 rfl rfl ?_
  refine Vw.istore (pc := 8) K dX5_readAttribute_8 (by decide) ?_
  refine Vw.aload_n (pc := 10) (x := x0) K dX5_readAttribute_10 rfl ?_
  obtain ⟨g4, h⟩ := wgd h
  refine Vw.getR (pc := 11) (k := 4) (f := 196) K cls3 rfl rfl u_1_73 g4 dX5_readAttribute_11 ?_
  refine Vw.aload_n (pc := 14) (x := x1) K dX5_readAttribute_14 rfl ?_
  refine Vw.iload_n (pc := 15) (x := x2) K dX5_readAttribute_15 rfl ?_
  refine Vw.iload (pc := 16) (x := v3) K dX5_readAttribute_16 rfl ?_
  obtain ⟨g5, h⟩ := wgd h
  obtain ⟨A7, e6, h⟩ := wbd h
  refine Vw.cV0 (pc := 18) (c' := 0) (n' := 0) K (s_X6_takeTrimmed K.tr e6) cal_X6_takeTrimmed cls4 u_4_10 g5 rfl ⟨by decide, by decide⟩ ⟨by decide, by decide⟩ rfl (Nat.le_of_ble_eq_true rfl) dX5_readAttribute_18 rfl rfl ?_
  refine Vw.aload_n (pc := 21) (x := x0) K dX5_readAttribute_21 rfl ?_
  obtain ⟨g8, h⟩ := wgd h
  refine Vw.getR (pc := 22) (k := 4) (f := 196) K cls3 rfl rfl u_1_73 g8 dX5_readAttribute_22 ?_
  obtain ⟨g9, h⟩ := wgd h
  obtain ⟨A11, e10, h⟩ := wbd h
  refine Vw.cV0 (pc := 25) (c' := 0) (n' := 0) K (s_X6_toSmallLetters K.tr e10) cal_X6_toSmallLetters cls4 u_4_19 g9 rfl ⟨by decide, by decide⟩ ⟨by decide, by decide⟩ rfl (Nat.le_of_ble_eq_true rfl) dX5_readAttribute_25 rfl rfl ?_
  refine Vw.aload_n (pc := 28) (x := x0) K dX5_readAttribute_28 rfl ?_
  obtain ⟨g12, h⟩ := wgd h
  refine Vw.getR (pc := 29) (k := 5) (f := 197) K cls3 rfl rfl u_1_74 g12 dX5_readAttribute_29 ?_
  refine Vw.aload_n (pc := 32) (x := x1) K dX5_readAttribute_32 rfl ?_
  refine Vw.iload (pc := 33) (x := v3) K dX5_readAttribute_33 rfl ?_
  refine Vw.iconst (pc := 35) (v := (1 : Int32)) K (by decide) dX5_readAttribute_35 ?_
  refine Vw.iadd (pc := 36) K dX5_readAttribute_36 ?_
  refine Vw.iload_n (pc := 37) (x := x3) K dX5_readAttribute_37 rfl ?_
  obtain ⟨g13, h⟩ := wgd h
  obtain ⟨A15, e14, h⟩ := wbd h
  refine Vw.cV0 (pc := 38) (c' := 0) (n' := 0) K (s_X6_takeTrimmed K.tr e14) cal_X6_takeTrimmed cls4 u_4_10 g13 rfl ⟨by decide, by decide⟩ ⟨by decide, by decide⟩ rfl (Nat.le_of_ble_eq_true rfl) dX5_readAttribute_38 rfl rfl ?_
  refine Vw.aload_n (pc := 41) (x := x0) K dX5_readAttribute_41 rfl ?_
  obtain ⟨g16, h⟩ := wgd h
  refine Vw.getR (pc := 42) (k := 4) (f := 196) K cls3 rfl rfl u_1_73 g16 dX5_readAttribute_42 ?_
  refine Vw.ldcS (pc := 45) (k := 6) K rfl (by decide) dX5_readAttribute_45 ?_
  obtain ⟨g17, h⟩ := wgd h
  obtain ⟨v19, e18, h⟩ := wbd h
  refine Vw.cV1 (pc := 47) (v := .inl v19) (c' := 0) (n' := 0) K (s_X6_is K.tr e18) cal_X6_is cls4 u_4_24 g17 rfl ⟨by decide, by decide⟩ ⟨by decide, by decide⟩ rfl (Nat.le_of_ble_eq_true rfl) dX5_readAttribute_47 rfl rfl ?_
  refine Vw.if_eq (pc := 50) (tgt := 60) K dX5_readAttribute_50 (by decide) (fun c20 => ?_) (fun c20 => ?_)
  · have h := wpos c20 h
    refine Vw.aload_n (pc := 60) (x := x0) K dX5_readAttribute_60 rfl ?_
    refine Vw.getR (pc := 61) (k := 4) (f := 196) K cls3 rfl rfl u_1_73 g16 dX5_readAttribute_61 ?_
    refine Vw.ldcS (pc := 64) (k := 7) K rfl (by decide) dX5_readAttribute_64 ?_
    obtain ⟨v22, e21, h⟩ := wbd h
    refine Vw.cV1 (pc := 66) (v := .inl v22) (c' := 0) (n' := 0) K (s_X6_is K.tr e21) cal_X6_is cls4 u_4_24 g17 rfl ⟨by decide, by decide⟩ ⟨by decide, by decide⟩ rfl (Nat.le_of_ble_eq_true rfl) dX5_readAttribute_66 rfl rfl ?_
    refine Vw.if_eq (pc := 69) (tgt := 79) K dX5_readAttribute_69 (by decide) (fun c23 => ?_) (fun c23 => ?_)
    · have h := wpos c23 h
      refine Vw.aload_n (pc := 79) (x := x0) K dX5_readAttribute_79 rfl ?_
      refine Vw.getR (pc := 80) (k := 4) (f := 196) K cls3 rfl rfl u_1_73 g16 dX5_readAttribute_80 ?_
      refine Vw.ldcS (pc := 83) (k := 8) K rfl (by decide) dX5_readAttribute_83 ?_
      obtain ⟨v25, e24, h⟩ := wbd h
      refine Vw.cV1 (pc := 85) (v := .inl v25) (c' := 0) (n' := 0) K (s_X6_is K.tr e24) cal_X6_is cls4 u_4_24 g17 rfl ⟨by decide, by decide⟩ ⟨by decide, by decide⟩ rfl (Nat.le_of_ble_eq_true rfl) dX5_readAttribute_85 rfl rfl ?_
      refine Vw.if_eq (pc := 88) (tgt := 98) K dX5_readAttribute_88 (by decide) (fun c26 => ?_) (fun c26 => ?_)
      · have h := wpos c26 h
        refine Vw.aload_n (pc := 98) (x := x0) K dX5_readAttribute_98 rfl ?_
        refine Vw.getR (pc := 99) (k := 4) (f := 196) K cls3 rfl rfl u_1_73 g16 dX5_readAttribute_99 ?_
        refine Vw.ldcS (pc := 102) (k := 9) K rfl (by decide) dX5_readAttribute_102 ?_
        obtain ⟨v28, e27, h⟩ := wbd h
        refine Vw.cV1 (pc := 104) (v := .inl v28) (c' := 0) (n' := 0) K (s_X6_is K.tr e27) cal_X6_is cls4 u_4_24 g17 rfl ⟨by decide, by decide⟩ ⟨by decide, by decide⟩ rfl (Nat.le_of_ble_eq_true rfl) dX5_readAttribute_104 rfl rfl ?_
        refine Vw.if_eq (pc := 107) (tgt := 117) K dX5_readAttribute_107 (by decide) (fun c29 => ?_) (fun c29 => ?_)
        · have h := wpos c29 h
          refine Vw.aload_n (pc := 117) (x := x0) K dX5_readAttribute_117 rfl ?_
          refine Vw.getR (pc := 118) (k := 4) (f := 196) K cls3 rfl rfl u_1_73 g16 dX5_readAttribute_118 ?_
          refine Vw.ldcS (pc := 121) (k := 10) K rfl (by decide) dX5_readAttribute_121 ?_
          obtain ⟨v31, e30, h⟩ := wbd h
          refine Vw.cV1 (pc := 123) (v := .inl v31) (c' := 0) (n' := 0) K (s_X6_is K.tr e30) cal_X6_is cls4 u_4_24 g17 rfl ⟨by decide, by decide⟩ ⟨by decide, by decide⟩ rfl (Nat.le_of_ble_eq_true rfl) dX5_readAttribute_123 rfl rfl ?_
          refine Vw.if_eq (pc := 126) (tgt := 137) K dX5_readAttribute_126 (by decide) (fun c32 => ?_) (fun c32 => ?_)
          · have h := wpos c32 h
            refine Vw.aload_n (pc := 137) (x := x0) K dX5_readAttribute_137 rfl ?_
            refine Vw.getR (pc := 138) (k := 4) (f := 196) K cls3 rfl rfl u_1_73 g16 dX5_readAttribute_138 ?_
            refine Vw.ldcS (pc := 141) (k := 11) K rfl (by decide) dX5_readAttribute_141 ?_
            obtain ⟨v34, e33, h⟩ := wbd h
            refine Vw.cV1 (pc := 143) (v := .inl v34) (c' := 0) (n' := 0) K (s_X6_is K.tr e33) cal_X6_is cls4 u_4_24 g17 rfl ⟨by decide, by decide⟩ ⟨by decide, by decide⟩ rfl (Nat.le_of_ble_eq_true rfl) dX5_readAttribute_143 rfl rfl ?_
            refine Vw.if_eq (pc := 146) (tgt := 157) K dX5_readAttribute_146 (by decide) (fun c35 => ?_) (fun c35 => ?_)
            · have h := wpos c35 h
              refine Vw.aload_n (pc := 157) (x := x0) K dX5_readAttribute_157 rfl ?_
              refine Vw.getR (pc := 158) (k := 4) (f := 196) K cls3 rfl rfl u_1_73 g16 dX5_readAttribute_158 ?_
              refine Vw.ldcS (pc := 161) (k := 12) K rfl (by decide) dX5_readAttribute_161 ?_
              obtain ⟨v37, e36, h⟩ := wbd h
              refine Vw.cV1 (pc := 163) (v := .inl v37) (c' := 0) (n' := 0) K (s_X6_is K.tr e36) cal_X6_is cls4 u_4_24 g17 rfl ⟨by decide, by decide⟩ ⟨by decide, by decide⟩ rfl (Nat.le_of_ble_eq_true rfl) dX5_readAttribute_163 rfl rfl ?_
              refine Vw.if_eq (pc := 166) (tgt := 197) K dX5_readAttribute_166 (by decide) (fun c38 => ?_) (fun c38 => ?_)
              · have h := wpos c38 h
                refine Vw.aload_n (pc := 197) (x := x0) K dX5_readAttribute_197 rfl ?_
                refine Vw.getR (pc := 198) (k := 4) (f := 196) K cls3 rfl rfl u_1_73 g16 dX5_readAttribute_198 ?_
                refine Vw.ldcS (pc := 201) (k := 16) K rfl (by decide) dX5_readAttribute_201 ?_
                obtain ⟨v40, e39, h⟩ := wbd h
                refine Vw.cV1 (pc := 203) (v := .inl v40) (c' := 0) (n' := 0) K (s_X6_is K.tr e39) cal_X6_is cls4 u_4_24 g17 rfl ⟨by decide, by decide⟩ ⟨by decide, by decide⟩ rfl (Nat.le_of_ble_eq_true rfl) dX5_readAttribute_203 rfl rfl ?_
                refine Vw.if_eq (pc := 206) (tgt := 234) K dX5_readAttribute_206 (by decide) (fun c41 => ?_) (fun c41 => ?_)
                · have h := wpos c41 h
                  exact Vw.vretE (pc := 234) K (Option.some.inj h) E (by decide) (by decide) dX5_readAttribute_234
                · have h := wneg c41 h
                  refine Vw.aload_n (pc := 209) (x := x0) K dX5_readAttribute_209 rfl ?_
                  refine Vw.getR (pc := 210) (k := 5) (f := 197) K cls3 rfl rfl u_1_74 g16 dX5_readAttribute_210 ?_
                  obtain ⟨g42, h⟩ := wgd h
                  obtain ⟨A44, e43, h⟩ := wbd h
                  refine Vw.cV0 (pc := 213) (c' := 0) (n' := 0) K (s_X6_toSmallLetters K.tr e43) cal_X6_toSmallLetters cls4 u_4_19 g42 rfl ⟨by decide, by decide⟩ ⟨by decide, by decide⟩ rfl (Nat.le_of_ble_eq_true rfl) dX5_readAttribute_213 rfl rfl ?_
                  refine Vw.aload_n (pc := 216) (x := x0) K dX5_readAttribute_216 rfl ?_
                  refine Vw.aload_n (pc := 217) (x := x0) K dX5_readAttribute_217 rfl ?_
                  refine Vw.ldcS (pc := 218) (k := 17) K rfl (by decide) dX5_readAttribute_218 ?_
                  refine Vw.ldcS (pc := 220) (k := 18) K rfl (by decide) dX5_readAttribute_220 ?_
                  refine Vw.ldcS (pc := 222) (k := 19) K rfl (by decide) dX5_readAttribute_222 ?_
                  refine Vw.aload_n (pc := 224) (x := x0) K dX5_readAttribute_224 rfl ?_
                  obtain ⟨g45, h⟩ := wgd h
                  refine Vw.getI (pc := 225) (k := 13) (f := 205) K cls3 rfl rfl u_1_86 g45 dX5_readAttribute_225 ?_
                  obtain ⟨v47, e46, h⟩ := wbd h
                  refine Vw.cV1 (pc := 228) (v := .inl v47) (c' := 0) (n' := 0) K (s_X5_oneOf K.tr e46) cal_X5_oneOf cls3 u_4_90 g45 rfl ⟨by decide, by decide⟩ ⟨by decide, by decide⟩ rfl (Nat.le_of_ble_eq_true rfl) dX5_readAttribute_228 rfl rfl ?_
                  refine Vw.putI (pc := 231) (k := 13) (f := 205) K cls3 rfl rfl u_1_86 g45 (Or.inl rfl) rfl rfl dX5_readAttribute_231 ?_
                  exact Vw.vretE (pc := 234) K (Option.some.inj h) E (by decide) (by decide) dX5_readAttribute_234
              · have h := wneg c38 h
                refine Vw.aload_n (pc := 169) (x := x0) K dX5_readAttribute_169 rfl ?_
                refine Vw.getR (pc := 170) (k := 5) (f := 197) K cls3 rfl rfl u_1_74 g16 dX5_readAttribute_170 ?_
                obtain ⟨g48, h⟩ := wgd h
                obtain ⟨A50, e49, h⟩ := wbd h
                refine Vw.cV0 (pc := 173) (c' := 0) (n' := 0) K (s_X6_toSmallLetters K.tr e49) cal_X6_toSmallLetters cls4 u_4_19 g48 rfl ⟨by decide, by decide⟩ ⟨by decide, by decide⟩ rfl (Nat.le_of_ble_eq_true rfl) dX5_readAttribute_173 rfl rfl ?_
                refine Vw.aload_n (pc := 176) (x := x0) K dX5_readAttribute_176 rfl ?_
                refine Vw.aload_n (pc := 177) (x := x0) K dX5_readAttribute_177 rfl ?_
                refine Vw.ldcS (pc := 178) (k := 13) K rfl (by decide) dX5_readAttribute_178 ?_
                refine Vw.ldcS (pc := 180) (k := 14) K rfl (by decide) dX5_readAttribute_180 ?_
                refine Vw.ldcS (pc := 182) (k := 15) K rfl (by decide) dX5_readAttribute_182 ?_
                refine Vw.aload_n (pc := 184) (x := x0) K dX5_readAttribute_184 rfl ?_
                obtain ⟨g51, h⟩ := wgd h
                refine Vw.getI (pc := 185) (k := 12) (f := 204) K cls3 rfl rfl u_1_84 g51 dX5_readAttribute_185 ?_
                obtain ⟨v53, e52, h⟩ := wbd h
                refine Vw.cV1 (pc := 188) (v := .inl v53) (c' := 0) (n' := 0) K (s_X5_oneOf K.tr e52) cal_X5_oneOf cls3 u_4_90 g51 rfl ⟨by decide, by decide⟩ ⟨by decide, by decide⟩ rfl (Nat.le_of_ble_eq_true rfl) dX5_readAttribute_188 rfl rfl ?_
                refine Vw.putI (pc := 191) (k := 12) (f := 204) K cls3 rfl rfl u_1_84 g51 (Or.inl rfl) rfl rfl dX5_readAttribute_191 ?_
                refine Vw.goto (pc := 194) (tgt := 234) K dX5_readAttribute_194 (by decide) ?_
                exact Vw.vretE (pc := 234) K (Option.some.inj h) E (by decide) (by decide) dX5_readAttribute_234
            · have h := wneg c35 h
              refine Vw.aload_n (pc := 149) (x := x0) K dX5_readAttribute_149 rfl ?_
              refine Vw.iconst (pc := 150) (v := (1 : Int32)) K (by decide) dX5_readAttribute_150 ?_
              refine Vw.putI (pc := 151) (k := 11) (f := 203) K cls3 rfl rfl u_1_82 g16 (Or.inl rfl) (wZ_n (Or.inr rfl)) (wZ_f (Or.inr rfl)) dX5_readAttribute_151 ?_
              refine Vw.goto (pc := 154) (tgt := 234) K dX5_readAttribute_154 (by decide) ?_
              exact Vw.vretE (pc := 234) K (Option.some.inj h) E (by decide) (by decide) dX5_readAttribute_234
          · have h := wneg c32 h
            refine Vw.aload_n (pc := 129) (x := x0) K dX5_readAttribute_129 rfl ?_
            refine Vw.iconst (pc := 130) (v := (1 : Int32)) K (by decide) dX5_readAttribute_130 ?_
            refine Vw.putI (pc := 131) (k := 10) (f := 202) K cls3 rfl rfl u_1_80 g16 (Or.inl rfl) (wZ_n (Or.inr rfl)) (wZ_f (Or.inr rfl)) dX5_readAttribute_131 ?_
            refine Vw.goto (pc := 134) (tgt := 234) K dX5_readAttribute_134 (by decide) ?_
            exact Vw.vretE (pc := 234) K (Option.some.inj h) E (by decide) (by decide) dX5_readAttribute_234
        · have h := wneg c29 h
          refine Vw.aload_n (pc := 110) (x := x0) K dX5_readAttribute_110 rfl ?_
          obtain ⟨A55, e54, h⟩ := wbd h
          refine Vw.cV0 (pc := 111) (c' := 0) (n' := 0) K (s_X5_readPath K.tr e54) cal_X5_readPath cls3 u_4_79 g16 rfl ⟨by decide, by decide⟩ ⟨by decide, by decide⟩ rfl (Nat.le_of_ble_eq_true rfl) dX5_readAttribute_111 rfl rfl ?_
          refine Vw.goto (pc := 114) (tgt := 234) K dX5_readAttribute_114 (by decide) ?_
          exact Vw.vretE (pc := 234) K (Option.some.inj h) E (by decide) (by decide) dX5_readAttribute_234
      · have h := wneg c26 h
        refine Vw.aload_n (pc := 91) (x := x0) K dX5_readAttribute_91 rfl ?_
        obtain ⟨A57, e56, h⟩ := wbd h
        refine Vw.cV0 (pc := 92) (c' := 0) (n' := 0) K (s_X5_readDomain K.tr e56) cal_X5_readDomain cls3 u_4_73 g16 rfl ⟨by decide, by decide⟩ ⟨by decide, by decide⟩ rfl (Nat.le_of_ble_eq_true rfl) dX5_readAttribute_92 rfl rfl ?_
        refine Vw.goto (pc := 95) (tgt := 234) K dX5_readAttribute_95 (by decide) ?_
        exact Vw.vretE (pc := 234) K (Option.some.inj h) E (by decide) (by decide) dX5_readAttribute_234
    · have h := wneg c23 h
      refine Vw.aload_n (pc := 72) (x := x0) K dX5_readAttribute_72 rfl ?_
      obtain ⟨A59, e58, h⟩ := wbd h
      refine Vw.cV0 (pc := 73) (c' := 0) (n' := 0) K (s_X5_readAge K.tr e58) cal_X5_readAge cls3 u_4_67 g16 rfl ⟨by decide, by decide⟩ ⟨by decide, by decide⟩ rfl (Nat.le_of_ble_eq_true rfl) dX5_readAttribute_73 rfl rfl ?_
      refine Vw.goto (pc := 76) (tgt := 234) K dX5_readAttribute_76 (by decide) ?_
      exact Vw.vretE (pc := 234) K (Option.some.inj h) E (by decide) (by decide) dX5_readAttribute_234
  · have h := wneg c20 h
    refine Vw.aload_n (pc := 53) (x := x0) K dX5_readAttribute_53 rfl ?_
    obtain ⟨A61, e60, h⟩ := wbd h
    refine Vw.cV0 (pc := 54) (c' := 0) (n' := 0) K (s_X5_readExpires K.tr e60) cal_X5_readExpires cls3 u_4_29 g16 rfl ⟨by decide, by decide⟩ ⟨by decide, by decide⟩ rfl (Nat.le_of_ble_eq_true rfl) dX5_readAttribute_54 rfl rfl ?_
    refine Vw.goto (pc := 57) (tgt := 234) K dX5_readAttribute_57 (by decide) ?_
    exact Vw.vretE (pc := 234) K (Option.some.inj h) E (by decide) (by decide) dX5_readAttribute_234
theorem cal_X5_readAttribute : wCalV RX5 yX5_readAttribute (.code yX5_readAttribute cX5_readAttribute 5 none) 3 := ⟨by decide +kernel, u_4_17, us_1_9, u_1_4, u_4_18⟩
def k_X5_read_71 (rec29 : Hp → Int32 → Int32 → Option (Hp)) (A : Hp) (x0 : Nat) (x1 : Nat) (x3 : Int32) (x4 : Int32)  : Option (Hp) := rec29 A x3 (x4 + (1 : Int32))
set_option maxRecDepth 100000 in
theorem s_X5_read_71 {κ : KT} {B : Hp} {A : Hp} {x0 : Nat} {x1 : Nat} {x3 : Int32} {x4 : Int32}  {rec29 : Hp → Int32 → Int32 → Option (Hp)} (K : Cx κ cX5_read 5 RX5 8 180 0 0) (E : Ed κ none "read" (.inl none) B 0 0) (hr29 : ∀ (A : Hp) (x3 : Int32) (x4 : Int32), rec29 A x3 x4 = some B → Vw κ A 0 0 29 [(0, .inr (.inr x0)), (1, .inr (.inr x1)), (3, .inl x3), (4, .inl x4)] []) (h : k_X5_read_71 rec29 A x0 x1 x3 x4  = some B) : Vw κ A 0 0 71 [(0, .inr (.inr x0)), (1, .inr (.inr x1)), (3, .inl x3), (4, .inl x4)] [] := by
  unfold k_X5_read_71 at h
  refine Vw.iinc (pc := 71) (x := x4) (v := (1 : Int32)) K dX5_read_71 rfl (by decide) (by decide) ?_
  refine Vw.goto (pc := 74) (tgt := 29) K dX5_read_74 (by decide) ?_
  exact Vw.loc rfl (hr29 _ _ _ h)
def k_X5_read_58 (rec29 : Hp → Int32 → Int32 → Option (Hp)) (A : Hp) (x0 : Nat) (x1 : Nat) (x3 : Int32) (x4 : Int32)  : Option (Hp) := if (hsh A x0).1 = 4 then ((f_X5_readAttribute A x0 x1 x3 x4).bind fun A3 => k_X5_read_71 rec29 A3 x0 x1 (x4 + (1 : Int32)) x4) else none
set_option maxRecDepth 100000 in
theorem s_X5_read_58 {κ : KT} {B : Hp} {A : Hp} {x0 : Nat} {x1 : Nat} {x3 : Int32} {x4 : Int32}  {rec29 : Hp → Int32 → Int32 → Option (Hp)} (K : Cx κ cX5_read 5 RX5 8 180 0 0) (E : Ed κ none "read" (.inl none) B 0 0) (hr29 : ∀ (A : Hp) (x3 : Int32) (x4 : Int32), rec29 A x3 x4 = some B → Vw κ A 0 0 29 [(0, .inr (.inr x0)), (1, .inr (.inr x1)), (3, .inl x3), (4, .inl x4)] []) (h : k_X5_read_58 rec29 A x0 x1 x3 x4  = some B) : Vw κ A 0 0 58 [(0, .inr (.inr x0)), (1, .inr (.inr x1)), (3, .inl x3), (4, .inl x4)] [] := by
  unfold k_X5_read_58 at h
  refine Vw.aload_n (pc := 58) (x := x0) K dX5_read_58 rfl ?_
  refine Vw.aload_n (pc := 59) (x := x1) K dX5_read_59 rfl ?_
  refine Vw.iload_n (pc := 60) (x := x3) K dX5_read_60 rfl ?_
  refine Vw.iload (pc := 61) (x := x4) K dX5_read_61 rfl ?_
  obtain ⟨g1, h⟩ := wgd h
  obtain ⟨A3, e2, h⟩ := wbd h
  refine Vw.cV0 (pc := 63) (c' := 0) (n' := 0) K (s_X5_readAttribute K.tr e2) cal_X5_readAttribute cls3 u_4_15 g1 rfl ⟨by decide, by decide⟩ ⟨by decide, by decide⟩ rfl (Nat.le_of_ble_eq_true rfl) dX5_read_63 rfl rfl ?_
  refine Vw.iload (pc := 66) (x := x4) K dX5_read_66 rfl ?_
  refine Vw.iconst (pc := 68) (v := (1 : Int32)) K (by decide) dX5_read_68 ?_
  refine Vw.iadd (pc := 69) K dX5_read_69 ?_
  refine Vw.istore_n (pc := 70) K dX5_read_70 (by decide) ?_
  exact Vw.loc rfl (s_X5_read_71 K E hr29 h)
def k_X5_read_29s  (x0 : Nat) (x1 : Nat)  (rec29 : Hp → Int32 → Int32 → Option (Hp)) (A : Hp) (x3 : Int32) (x4 : Int32) : Option (Hp) := if (hsh A x1).1 = 5 then (if (hgI A 257 x1 0) < x4 then some A else (if x4 = (hgI A 257 x1 0) then k_X5_read_58 rec29 A x0 x1 x3 x4 else ((f_X6_at A x1 x4).bind fun v8 => (if v8 = (59 : Int32) then k_X5_read_58 rec29 A x0 x1 x3 x4 else k_X5_read_71 rec29 A x0 x1 x3 x4)))) else none
def k_X5_read_29  (x0 : Nat) (x1 : Nat)  : Nat → Hp → Int32 → Int32 → Option (Hp)
  | 0 => fun _ _ _ => none
  | fu + 1 => k_X5_read_29s x0 x1  (k_X5_read_29 x0 x1  fu)
set_option maxRecDepth 100000 in
theorem s_X5_read_29 {κ : KT} {B : Hp}  {x0 : Nat} {x1 : Nat}  (K : Cx κ cX5_read 5 RX5 8 180 0 0) (E : Ed κ none "read" (.inl none) B 0 0)  : ∀ (fu : Nat) (A : Hp) (x3 : Int32) (x4 : Int32),  k_X5_read_29 x0 x1  fu A x3 x4 = some B → Vw κ A 0 0 29 [(0, .inr (.inr x0)), (1, .inr (.inr x1)), (3, .inl x3), (4, .inl x4)] [] := by
  intro fu
  induction fu with
  | zero => intro A x3 x4 h; cases h
  | succ fu hr29 =>
    intro A x3 x4 h
    have h : k_X5_read_29s x0 x1  (k_X5_read_29 x0 x1  fu) A x3 x4 = some B := h
    unfold k_X5_read_29s at h
    refine Vw.iload (pc := 29) (x := x4) K dX5_read_29 rfl ?_
    refine Vw.aload_n (pc := 31) (x := x1) K dX5_read_31 rfl ?_
    obtain ⟨g4, h⟩ := wgd h
    refine Vw.getI (pc := 32) (k := 1) (f := 257) K cls4 rfl rfl u_1_45 g4 dX5_read_32 ?_
    refine Vw.icmp_gt (pc := 35) (tgt := 77) K dX5_read_35 (by decide) (fun c5 => ?_) (fun c5 => ?_)
    · have h := wpos c5 h
      exact Vw.vretE (pc := 77) K (Option.some.inj h) E (by decide) (by decide) dX5_read_77
    · have h := wneg c5 h
      refine Vw.iload (pc := 38) (x := x4) K dX5_read_38 rfl ?_
      refine Vw.aload_n (pc := 40) (x := x1) K dX5_read_40 rfl ?_
      refine Vw.getI (pc := 41) (k := 1) (f := 257) K cls4 rfl rfl u_1_45 g4 dX5_read_41 ?_
      refine Vw.icmp_eq (pc := 44) (tgt := 58) K dX5_read_44 (by decide) (fun c6 => ?_) (fun c6 => ?_)
      · have h := wpos c6 h
        exact Vw.loc rfl (s_X5_read_58 K E hr29 h)
      · have h := wneg c6 h
        refine Vw.aload_n (pc := 47) (x := x1) K dX5_read_47 rfl ?_
        refine Vw.iload (pc := 48) (x := x4) K dX5_read_48 rfl ?_
        obtain ⟨v8, e7, h⟩ := wbd h
        refine Vw.cV1 (pc := 50) (v := .inl v8) (c' := 0) (n' := 0) K (s_X6_at K.tr e7) cal_X6_at cls4 u_4_14 g4 rfl ⟨by decide, by decide⟩ ⟨by decide, by decide⟩ rfl (Nat.le_of_ble_eq_true rfl) dX5_read_50 rfl rfl ?_
        refine Vw.bipush (pc := 53) (v := (59 : Int32)) K (by decide) dX5_read_53 ?_
        refine Vw.icmp_ne (pc := 55) (tgt := 71) K dX5_read_55 (by decide) (fun c9 => ?_) (fun c9 => ?_)
        · have h := wneg c9 h
          exact Vw.loc rfl (s_X5_read_71 K E hr29 h)
        · have h := wpos c9 h
          exact Vw.loc rfl (s_X5_read_58 K E hr29 h)
def f_X5_read (A : Hp) (x0 : Nat) (x1 : Nat) : Option (Hp) := if (hsh A x0).1 = 4 then ((f_X5_forget A x0).bind fun A12 => if (hsh A12 x1).1 = 5 then ((f_X6_find A12 x1 (59 : Int32) (0 : Int32) (hgI A12 257 x1 0)).bind fun v15 => if (hsh A12 x0).1 = 4 then ((f_X5_readPair A12 x0 x1 v15).bind fun A18 => k_X5_read_29 x0 x1 FU A18 (v15 + (1 : Int32)) (v15 + (1 : Int32))) else none) else none) else none
set_option maxRecDepth 100000 in
theorem s_X5_read {l : Launch} {g : GT} (hl : l.stackTraces = false) {A : Hp} {x0 : Nat} {x1 : Nat} {B : Hp} (h : f_X5_read A x0 x1 = some B) : MetV l g yX5_read (.code yX5_read cX5_read 5 none) [.inr (.inr x0), .inr (.inr x1)] A (.inl none) B 8 180 0 0 := by
  refine MetV.ofV hl (by decide +kernel) (Nat.le_of_ble_eq_true rfl) (fun κ K E => ?_)
  have K : Cx κ cX5_read 5 RX5 8 180 0 0 := K
  have E : Ed κ none "read" (.inl none) B 0 0 := E
  unfold f_X5_read at h
  change Vw κ A 0 0 0 [(0, .inr (.inr x0)), (1, .inr (.inr x1))] []
  refine Vw.aload_n (pc := 0) (x := x0) K dX5_read_0 rfl ?_
  obtain ⟨g10, h⟩ := wgd h
  obtain ⟨A12, e11, h⟩ := wbd h
  refine Vw.cV0 (pc := 1) (c' := 0) (n' := 0) K (s_X5_forget K.tr e11) cal_X5_forget cls3 u_3_239 g10 rfl ⟨by decide, by decide⟩ ⟨by decide, by decide⟩ rfl (Nat.le_of_ble_eq_true rfl) dX5_read_1 rfl rfl ?_
  refine Vw.aload_n (pc := 4) (x := x1) K dX5_read_4 rfl ?_
  refine Vw.bipush (pc := 5) (v := (59 : Int32)) K (by decide) dX5_read_5 ?_
  refine Vw.iconst (pc := 7) (v := (0 : Int32)) K (by decide) dX5_read_7 ?_
  refine Vw.aload_n (pc := 8) (x := x1) K dX5_read_8 rfl ?_
  obtain ⟨g13, h⟩ := wgd h
  refine Vw.getI (pc := 9) (k := 1) (f := 257) K cls4 rfl rfl u_1_45 g13 dX5_read_9 ?_
  obtain ⟨v15, e14, h⟩ := wbd h
  refine Vw.cV1 (pc := 12) (v := .inl v15) (c' := 0) (n' := 0) K (s_X6_find K.tr e14) cal_X6_find cls4 u_4_5 g13 rfl ⟨by decide, by decide⟩ ⟨by decide, by decide⟩ rfl (Nat.le_of_ble_eq_true rfl) dX5_read_12 rfl rfl ?_
  refine Vw.istore_n (pc := 15) K dX5_read_15 (by decide) ?_
  refine Vw.aload_n (pc := 16) (x := x0) K dX5_read_16 rfl ?_
  refine Vw.aload_n (pc := 17) (x := x1) K dX5_read_17 rfl ?_
  refine Vw.iload_n (pc := 18) (x := v15) K dX5_read_18 rfl ?_
  obtain ⟨g16, h⟩ := wgd h
  obtain ⟨A18, e17, h⟩ := wbd h
  refine Vw.cV0 (pc := 19) (c' := 0) (n' := 0) K (s_X5_readPair K.tr e17) cal_X5_readPair cls3 u_4_6 g16 rfl ⟨by decide, by decide⟩ ⟨by decide, by decide⟩ rfl (Nat.le_of_ble_eq_true rfl) dX5_read_19 rfl rfl ?_
  refine Vw.iload_n (pc := 22) (x := v15) K dX5_read_22 rfl ?_
  refine Vw.iconst (pc := 23) (v := (1 : Int32)) K (by decide) dX5_read_23 ?_
  refine Vw.iadd (pc := 24) K dX5_read_24 ?_
  refine Vw.istore_n (pc := 25) K dX5_read_25 (by decide) ?_
  refine Vw.iload_n (pc := 26) (x := (v15 + (1 : Int32))) K dX5_read_26 rfl ?_
  refine Vw.istore (pc := 27) K dX5_read_27 (by decide) ?_
  exact Vw.loc rfl (s_X5_read_29 K E  _ _ _ _ h)
theorem cal_X5_read : wCalV RX5 yX5_read (.code yX5_read cX5_read 5 none) 1 := ⟨by decide +kernel, u_3_236, u_3_237, u_1_4, u_3_238⟩
def f_X5_expiryAt (A : Hp) (x0 : Nat) (x1 : Int64) : Option (Int64) := if (hsh A x0).1 = 4 then (if (hgI A 199 x0 0) = (0 : Int32) then (if (hgL A 201 x0 0) < (0 : Int64) then some (-1 : Int64) else some (if (x1 + (34560000 : Int64)) < (hgL A 201 x0 0) then (x1 + (34560000 : Int64)) else (hgL A 201 x0 0))) else some (x1 + ((if (34560000 : Int32) < (hgI A 200 x0 0) then (34560000 : Int32) else (hgI A 200 x0 0)).toInt64))) else none
set_option maxRecDepth 100000 in
theorem s_X5_expiryAt {l : Launch} {g : GT} (hl : l.stackTraces = false) {A : Hp} {x0 : Nat} {x1 : Int64} {r : Int64} (h : f_X5_expiryAt A x0 x1 = some r) : MetV l g yX5_expiryAt (.code yX5_expiryAt cX5_expiryAt 3 (some .long)) [.inr (.inr x0), .inr (.inl x1)] A (.inl (some (.inr (.inl r)))) A 1 23 0 0 := by
  refine MetV.ofV hl (by decide +kernel) (Nat.le_of_ble_eq_true rfl) (fun κ K E => ?_)
  have K : Cx κ cX5_expiryAt 3 RX5 1 23 0 0 := K
  have E : Ed κ (some .long) "expiryAt" (.inl (some (.inr (.inl r)))) A 0 0 := E
  unfold f_X5_expiryAt at h
  change Vw κ A 0 0 0 [(0, .inr (.inr x0)), (1, .inr (.inl x1))] []
  refine Vw.aload_n (pc := 0) (x := x0) K dX5_expiryAt_0 rfl ?_
  obtain ⟨g1, h⟩ := wgd h
  refine Vw.getI (pc := 1) (k := 7) (f := 199) K cls3 rfl rfl u_1_77 g1 dX5_expiryAt_1 ?_
  refine Vw.if_eq (pc := 4) (tgt := 20) K dX5_expiryAt_4 (by decide) (fun c2 => ?_) (fun c2 => ?_)
  · have h := wpos c2 h
    refine Vw.aload_n (pc := 20) (x := x0) K dX5_expiryAt_20 rfl ?_
    refine Vw.getL (pc := 21) (k := 9) (f := 201) K cls3 rfl rfl u_1_79 g1 dX5_expiryAt_21 ?_
    refine Vw.lconst (pc := 24) (v := (0 : Int64)) K (by decide) dX5_expiryAt_24 ?_
    refine Vw.lcmp_lt (pc := 25) (tgt := 44) K dX5_expiryAt_25 dX5_expiryAt_26 (by decide) (fun c3 => ?_) (fun c3 => ?_)
    · have h := wpos c3 h
      refine Vw.ldc2 (pc := 44) (v := (-1 : Int64)) K u_4_4 dX5_expiryAt_44 ?_
      exact Vw.lretE (pc := 47) K (Option.some.inj h) rfl E (by decide) (by decide) dX5_expiryAt_47
    · have h := wneg c3 h
      refine Vw.aload_n (pc := 29) (x := x0) K dX5_expiryAt_29 rfl ?_
      refine Vw.getL (pc := 30) (k := 9) (f := 201) K cls3 rfl rfl u_1_79 g1 dX5_expiryAt_30 ?_
      refine Vw.lload_n (pc := 33) (x := x1) K dX5_expiryAt_33 rfl ?_
      refine Vw.ldc2 (pc := 34) (v := (34560000 : Int64)) K u_4_138 dX5_expiryAt_34 ?_
      refine Vw.ladd (pc := 37) K dX5_expiryAt_37 ?_
      refine Vw.mminL (pc := 38) K u_4_139 u_4_140 u_1_3 u_4_141 (by decide) (Nat.le_of_ble_eq_true rfl) (by decide) (by decide) dX5_expiryAt_38 ?_
      refine Vw.goto (pc := 41) (tgt := 47) K dX5_expiryAt_41 (by decide) ?_
      exact Vw.lretE (pc := 47) K (Option.some.inj h) rfl E (by decide) (by decide) dX5_expiryAt_47
  · have h := wneg c2 h
    refine Vw.lload_n (pc := 7) (x := x1) K dX5_expiryAt_7 rfl ?_
    refine Vw.aload_n (pc := 8) (x := x0) K dX5_expiryAt_8 rfl ?_
    refine Vw.getI (pc := 9) (k := 8) (f := 200) K cls3 rfl rfl u_1_78 g1 dX5_expiryAt_9 ?_
    refine Vw.ldc (pc := 12) (v := (34560000 : Int32)) K u_4_136 dX5_expiryAt_12 ?_
    refine Vw.mmin (pc := 14) K u_4_137 u_2_167 u_1_3 u_2_168 (by decide) (Nat.le_of_ble_eq_true rfl) (by decide) (by decide) dX5_expiryAt_14 ?_
    refine Vw.i2l (pc := 17) K dX5_expiryAt_17 ?_
    refine Vw.ladd (pc := 18) K dX5_expiryAt_18 ?_
    exact Vw.lretE (pc := 19) K (Option.some.inj h) rfl E (by decide) (by decide) dX5_expiryAt_19
theorem cal_X5_expiryAt : wCalV RX5 yX5_expiryAt (.code yX5_expiryAt cX5_expiryAt 3 (some .long)) 1 := ⟨by decide +kernel, u_4_133, u_4_134, u_1_4, u_4_135⟩
def f_X5_isExpiredAt (A : Hp) (x0 : Nat) (x1 : Int64) : Option (Int32) := if (hsh A x0).1 = 4 then (if (hgI A 199 x0 0) = (0 : Int32) then (if (hgL A 201 x0 0) < (0 : Int64) then some (0 : Int32) else (if x1 < (hgL A 201 x0 0) then some (0 : Int32) else some (1 : Int32))) else (if (0 : Int32) < (hgI A 200 x0 0) then some (0 : Int32) else some (1 : Int32))) else none
set_option maxRecDepth 100000 in
theorem s_X5_isExpiredAt {l : Launch} {g : GT} (hl : l.stackTraces = false) {A : Hp} {x0 : Nat} {x1 : Int64} {r : Int32} (h : f_X5_isExpiredAt A x0 x1 = some r) : MetV l g yX5_isExpiredAt (.code yX5_isExpiredAt cX5_isExpiredAt 3 (some .boolean)) [.inr (.inr x0), .inr (.inl x1)] A (.inl (some (.inl r))) A 0 0 0 0 := by
  refine MetV.ofV hl (by decide +kernel) (Nat.le_of_ble_eq_true rfl) (fun κ K E => ?_)
  have K : Cx κ cX5_isExpiredAt 3 RX5 0 0 0 0 := K
  have E : Ed κ (some .boolean) "isExpiredAt" (.inl (some (.inl r))) A 0 0 := E
  unfold f_X5_isExpiredAt at h
  change Vw κ A 0 0 0 [(0, .inr (.inr x0)), (1, .inr (.inl x1))] []
  refine Vw.aload_n (pc := 0) (x := x0) K dX5_isExpiredAt_0 rfl ?_
  obtain ⟨g1, h⟩ := wgd h
  refine Vw.getI (pc := 1) (k := 7) (f := 199) K cls3 rfl rfl u_1_77 g1 dX5_isExpiredAt_1 ?_
  refine Vw.if_eq (pc := 4) (tgt := 22) K dX5_isExpiredAt_4 (by decide) (fun c2 => ?_) (fun c2 => ?_)
  · have h := wpos c2 h
    refine Vw.aload_n (pc := 22) (x := x0) K dX5_isExpiredAt_22 rfl ?_
    refine Vw.getL (pc := 23) (k := 9) (f := 201) K cls3 rfl rfl u_1_79 g1 dX5_isExpiredAt_23 ?_
    refine Vw.lconst (pc := 26) (v := (0 : Int64)) K (by decide) dX5_isExpiredAt_26 ?_
    refine Vw.lcmp_lt (pc := 27) (tgt := 44) K dX5_isExpiredAt_27 dX5_isExpiredAt_28 (by decide) (fun c3 => ?_) (fun c3 => ?_)
    · have h := wpos c3 h
      refine Vw.iconst (pc := 44) (v := (0 : Int32)) K (by decide) dX5_isExpiredAt_44 ?_
      exact Vw.zretE (pc := 45) K (Or.inl rfl) (Option.some.inj h) rfl E (by decide) (by decide) dX5_isExpiredAt_45
    · have h := wneg c3 h
      refine Vw.aload_n (pc := 31) (x := x0) K dX5_isExpiredAt_31 rfl ?_
      refine Vw.getL (pc := 32) (k := 9) (f := 201) K cls3 rfl rfl u_1_79 g1 dX5_isExpiredAt_32 ?_
      refine Vw.lload_n (pc := 35) (x := x1) K dX5_isExpiredAt_35 rfl ?_
      refine Vw.lcmp_gt (pc := 36) (tgt := 44) K dX5_isExpiredAt_36 dX5_isExpiredAt_37 (by decide) (fun c4 => ?_) (fun c4 => ?_)
      · have h := wpos c4 h
        refine Vw.iconst (pc := 44) (v := (0 : Int32)) K (by decide) dX5_isExpiredAt_44 ?_
        exact Vw.zretE (pc := 45) K (Or.inl rfl) (Option.some.inj h) rfl E (by decide) (by decide) dX5_isExpiredAt_45
      · have h := wneg c4 h
        refine Vw.iconst (pc := 40) (v := (1 : Int32)) K (by decide) dX5_isExpiredAt_40 ?_
        refine Vw.goto (pc := 41) (tgt := 45) K dX5_isExpiredAt_41 (by decide) ?_
        exact Vw.zretE (pc := 45) K (Or.inr rfl) (Option.some.inj h) rfl E (by decide) (by decide) dX5_isExpiredAt_45
  · have h := wneg c2 h
    refine Vw.aload_n (pc := 7) (x := x0) K dX5_isExpiredAt_7 rfl ?_
    refine Vw.getI (pc := 8) (k := 8) (f := 200) K cls3 rfl rfl u_1_78 g1 dX5_isExpiredAt_8 ?_
    refine Vw.if_gt (pc := 11) (tgt := 18) K dX5_isExpiredAt_11 (by decide) (fun c5 => ?_) (fun c5 => ?_)
    · have h := wpos c5 h
      refine Vw.iconst (pc := 18) (v := (0 : Int32)) K (by decide) dX5_isExpiredAt_18 ?_
      refine Vw.goto (pc := 19) (tgt := 45) K dX5_isExpiredAt_19 (by decide) ?_
      exact Vw.zretE (pc := 45) K (Or.inl rfl) (Option.some.inj h) rfl E (by decide) (by decide) dX5_isExpiredAt_45
    · have h := wneg c5 h
      refine Vw.iconst (pc := 14) (v := (1 : Int32)) K (by decide) dX5_isExpiredAt_14 ?_
      refine Vw.goto (pc := 15) (tgt := 45) K dX5_isExpiredAt_15 (by decide) ?_
      exact Vw.zretE (pc := 45) K (Or.inr rfl) (Option.some.inj h) rfl E (by decide) (by decide) dX5_isExpiredAt_45
theorem cal_X5_isExpiredAt : wCalV RX5 yX5_isExpiredAt (.code yX5_isExpiredAt cX5_isExpiredAt 3 (some .boolean)) 1 := ⟨by decide +kernel, u_4_191, u_4_192, u_1_4, u_4_193⟩
