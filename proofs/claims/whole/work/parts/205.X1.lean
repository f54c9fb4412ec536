def f_X1_init (A : Hp) (x0 : Nat) : Option (Hp) := if (hsh A x0).1 = 2 then if (hsh (hmk A 5 0) (hsz A)).1 = 5 then ((f_X6_init (hmk A 5 0) (hsz A) (16 : Int32)).bind fun A4 => if (hsh A4 x0).1 = 2 then if (hsh (hmk (hsR A4 64 x0 0 (hsz A)) 5 0) (hsz (hsR A4 64 x0 0 (hsz A)))).1 = 5 then ((f_X6_init (hmk (hsR A4 64 x0 0 (hsz A)) 5 0) (hsz (hsR A4 64 x0 0 (hsz A))) (32 : Int32)).bind fun A8 => if (hsh A8 x0).1 = 2 then if (hsh (hmk (hsR A8 65 x0 0 (hsz (hsR A4 64 x0 0 (hsz A)))) 5 0) (hsz (hsR A8 65 x0 0 (hsz (hsR A4 64 x0 0 (hsz A)))))).1 = 5 then ((f_X6_init (hmk (hsR A8 65 x0 0 (hsz (hsR A4 64 x0 0 (hsz A)))) 5 0) (hsz (hsR A8 65 x0 0 (hsz (hsR A4 64 x0 0 (hsz A))))) (30 : Int32)).bind fun A12 => if (hsh A12 x0).1 = 2 then if (hsh (hmk (hsR A12 66 x0 0 (hsz (hsR A8 65 x0 0 (hsz (hsR A4 64 x0 0 (hsz A)))))) 5 0) (hsz (hsR A12 66 x0 0 (hsz (hsR A8 65 x0 0 (hsz (hsR A4 64 x0 0 (hsz A)))))))).1 = 5 then ((f_X6_init (hmk (hsR A12 66 x0 0 (hsz (hsR A8 65 x0 0 (hsz (hsR A4 64 x0 0 (hsz A)))))) 5 0) (hsz (hsR A12 66 x0 0 (hsz (hsR A8 65 x0 0 (hsz (hsR A4 64 x0 0 (hsz A))))))) (40 : Int32)).bind fun A16 => if (hsh A16 x0).1 = 2 then some (hsR A16 67 x0 0 (hsz (hsR A12 66 x0 0 (hsz (hsR A8 65 x0 0 (hsz (hsR A4 64 x0 0 (hsz A)))))))) else none) else none else none) else none else none) else none else none) else none else none
set_option maxRecDepth 100000 in
theorem s_X1_init {l : Launch} {g : GT} (hl : l.stackTraces = false) {A : Hp} {x0 : Nat} {B : Hp} (h : f_X1_init A x0 = some B) : MetV l g yX1_init (.code yX1_init cX1_init 1 none) [.inr (.inr x0)] A (.inl none) B 2 44 8 126 := by
  refine MetV.ofV hl (by decide +kernel) (Nat.le_of_ble_eq_true rfl) (fun κ K E => ?_)
  have K : Cx κ cX1_init 1 RX1 2 44 8 126 := K
  have E : Ed κ none "<init>" (.inl none) B 8 126 := E
  unfold f_X1_init at h
  change Vw κ A 0 0 0 [(0, .inr (.inr x0))] []
  refine Vw.aload_n (pc := 0) (x := x0) K dX1_init_0 rfl ?_
  obtain ⟨g1, h⟩ := wgd h
  refine Vw.objInitK (pc := 1) K u_1_129 u_1_30 u_1_31 g1 (by decide) (Nat.le_of_ble_eq_true rfl) dX1_init_1 ?_
  refine Vw.aload_n (pc := 4) (x := x0) K dX1_init_4 rfl ?_
  refine Vw.newc (pc := 5) (c := 0) (n := 0) (c' := 1) (n' := 2) K cls4 clsd4 u_1_130 (by decide) (by decide) dX1_init_5 rfl rfl ?_
  refine Vw.dup (pc := 8) K rfl dX1_init_8 ?_
  refine Vw.bipush (pc := 9) (v := (16 : Int32)) K (by decide) dX1_init_9 ?_
  obtain ⟨g2, h⟩ := wgd h
  obtain ⟨A4, e3, h⟩ := wbd h
  refine Vw.cI0K (pc := 11) (c' := 2) (n' := 18) K (s_X6_init (ms := 16) (by decide) K.tr e3) cal_X6_init u_1_131 g2 rfl ⟨by decide, by decide⟩ ⟨by decide, by decide⟩ rfl (Nat.le_of_ble_eq_true rfl) dX1_init_11 rfl rfl ?_
  obtain ⟨g5, h⟩ := wgd h
  refine Vw.putR (pc := 14) (k := 0) (f := 64) K cls1 rfl rfl u_1_132 g5 (Or.inr ⟨rfl, E.2.2.1, rfl⟩) (wRn _ _) (wRf _ _) dX1_init_14 ?_
  refine Vw.aload_n (pc := 17) (x := x0) K dX1_init_17 rfl ?_
  refine Vw.newc (pc := 18) (c := 2) (n := 18) (c' := 3) (n' := 20) K cls4 clsd4 u_1_130 (by decide) (by decide) dX1_init_18 rfl rfl ?_
  refine Vw.dup (pc := 21) K rfl dX1_init_21 ?_
  refine Vw.bipush (pc := 22) (v := (32 : Int32)) K (by decide) dX1_init_22 ?_
  obtain ⟨g6, h⟩ := wgd h
  obtain ⟨A8, e7, h⟩ := wbd h
  refine Vw.cI0K (pc := 24) (c' := 4) (n' := 52) K (s_X6_init (ms := 32) (by decide) K.tr e7) cal_X6_init u_1_131 g6 rfl ⟨by decide, by decide⟩ ⟨by decide, by decide⟩ rfl (Nat.le_of_ble_eq_true rfl) dX1_init_24 rfl rfl ?_
  obtain ⟨g9, h⟩ := wgd h
  refine Vw.putR (pc := 27) (k := 1) (f := 65) K cls1 rfl rfl u_1_135 g9 (Or.inr ⟨rfl, E.2.2.1, rfl⟩) (wRn _ _) (wRf _ _) dX1_init_27 ?_
  refine Vw.aload_n (pc := 30) (x := x0) K dX1_init_30 rfl ?_
  refine Vw.newc (pc := 31) (c := 4) (n := 52) (c' := 5) (n' := 54) K cls4 clsd4 u_1_130 (by decide) (by decide) dX1_init_31 rfl rfl ?_
  refine Vw.dup (pc := 34) K rfl dX1_init_34 ?_
  refine Vw.bipush (pc := 35) (v := (30 : Int32)) K (by decide) dX1_init_35 ?_
  obtain ⟨g10, h⟩ := wgd h
  obtain ⟨A12, e11, h⟩ := wbd h
  refine Vw.cI0K (pc := 37) (c' := 6) (n' := 84) K (s_X6_init (ms := 30) (by decide) K.tr e11) cal_X6_init u_1_131 g10 rfl ⟨by decide, by decide⟩ ⟨by decide, by decide⟩ rfl (Nat.le_of_ble_eq_true rfl) dX1_init_37 rfl rfl ?_
  obtain ⟨g13, h⟩ := wgd h
  refine Vw.putR (pc := 40) (k := 2) (f := 66) K cls1 rfl rfl u_1_138 g13 (Or.inr ⟨rfl, E.2.2.1, rfl⟩) (wRn _ _) (wRf _ _) dX1_init_40 ?_
  refine Vw.aload_n (pc := 43) (x := x0) K dX1_init_43 rfl ?_
  refine Vw.newc (pc := 44) (c := 6) (n := 84) (c' := 7) (n' := 86) K cls4 clsd4 u_1_130 (by decide) (by decide) dX1_init_44 rfl rfl ?_
  refine Vw.dup (pc := 47) K rfl dX1_init_47 ?_
  refine Vw.bipush (pc := 48) (v := (40 : Int32)) K (by decide) dX1_init_48 ?_
  obtain ⟨g14, h⟩ := wgd h
  obtain ⟨A16, e15, h⟩ := wbd h
  refine Vw.cI0K (pc := 50) (c' := 8) (n' := 126) K (s_X6_init (ms := 40) (by decide) K.tr e15) cal_X6_init u_1_131 g14 rfl ⟨by decide, by decide⟩ ⟨by decide, by decide⟩ rfl (Nat.le_of_ble_eq_true rfl) dX1_init_50 rfl rfl ?_
  obtain ⟨g17, h⟩ := wgd h
  refine Vw.putR (pc := 53) (k := 3) (f := 67) K cls1 rfl rfl u_1_141 g17 (Or.inr ⟨rfl, E.2.2.1, rfl⟩) (wRn _ _) (wRf _ _) dX1_init_53 ?_
  exact Vw.vretE (pc := 56) K (Option.some.inj h) E (by decide) (by decide) dX1_init_56
theorem cal_X1_init : wCalI yX1_init (.code yX1_init cX1_init 1 none) 0 := ⟨by decide +kernel, u_1_127, u_1_6, u_1_128, rfl⟩
def k_X1_compareInList_71  (A : Hp)  (t0 : Int32) : Option (Int32) := some t0
set_option maxRecDepth 100000 in
theorem s_X1_compareInList_71 {κ : KT} {r : Int32} {A : Hp}  {t0 : Int32}  (K : Cx κ cX1_compareInList 3 RX1 3 78 0 0) (E : Ed κ (some .int) "compareInList" (.inl (some (.inl r))) A 0 0)  (h : k_X1_compareInList_71  A  t0 = some r) : Vw κ A 0 0 71 [] [.inl t0] := by
  unfold k_X1_compareInList_71 at h
  refine Vw.istore_n (pc := 71) K dX1_compareInList_71 (by decide) ?_
  refine Vw.iload_n (pc := 72) (x := t0) K dX1_compareInList_72 rfl ?_
  exact Vw.iretE (pc := 73) K (Option.some.inj h) rfl E (by decide) (by decide) dX1_compareInList_73
def k_X1_compareInList_44  (A : Hp) (x0 : Nat) (x1 : Nat) (x2 : Int32)  : Option (Int32) := (if x2 = (0 : Int32) then if (hsh A x0).1 = 2 then if (hsh A x1).1 = 2 then (if (hgI A 72 x0 0) = (hgI A 72 x1 0) then some x2 else (if (hgI A 72 x0 0) = (0 : Int32) then k_X1_compareInList_71 A (-1 : Int32) else k_X1_compareInList_71 A (1 : Int32))) else none else none else some x2)
set_option maxRecDepth 100000 in
theorem s_X1_compareInList_44 {κ : KT} {r : Int32} {A : Hp} {x0 : Nat} {x1 : Nat} {x2 : Int32}   (K : Cx κ cX1_compareInList 3 RX1 3 78 0 0) (E : Ed κ (some .int) "compareInList" (.inl (some (.inl r))) A 0 0)  (h : k_X1_compareInList_44  A x0 x1 x2  = some r) : Vw κ A 0 0 44 [(0, .inr (.inr x0)), (1, .inr (.inr x1)), (2, .inl x2)] [] := by
  unfold k_X1_compareInList_44 at h
  refine Vw.iload_n (pc := 44) (x := x2) K dX1_compareInList_44 rfl ?_
  refine Vw.if_ne (pc := 45) (tgt := 72) K dX1_compareInList_45 (by decide) (fun c1 => ?_) (fun c1 => ?_)
  · have h := wneg c1 h
    refine Vw.iload_n (pc := 72) (x := x2) K dX1_compareInList_72 rfl ?_
    exact Vw.iretE (pc := 73) K (Option.some.inj h) rfl E (by decide) (by decide) dX1_compareInList_73
  · have h := wpos c1 h
    refine Vw.aload_n (pc := 48) (x := x0) K dX1_compareInList_48 rfl ?_
    obtain ⟨g2, h⟩ := wgd h
    refine Vw.getI (pc := 49) (k := 8) (f := 72) K cls1 rfl rfl u_1_156 g2 dX1_compareInList_49 ?_
    refine Vw.aload_n (pc := 52) (x := x1) K dX1_compareInList_52 rfl ?_
    obtain ⟨g3, h⟩ := wgd h
    refine Vw.getI (pc := 53) (k := 8) (f := 72) K cls1 rfl rfl u_1_156 g3 dX1_compareInList_53 ?_
    refine Vw.icmp_eq (pc := 56) (tgt := 72) K dX1_compareInList_56 (by decide) (fun c4 => ?_) (fun c4 => ?_)
    · have h := wpos c4 h
      refine Vw.iload_n (pc := 72) (x := x2) K dX1_compareInList_72 rfl ?_
      exact Vw.iretE (pc := 73) K (Option.some.inj h) rfl E (by decide) (by decide) dX1_compareInList_73
    · have h := wneg c4 h
      refine Vw.aload_n (pc := 59) (x := x0) K dX1_compareInList_59 rfl ?_
      refine Vw.getI (pc := 60) (k := 8) (f := 72) K cls1 rfl rfl u_1_156 g2 dX1_compareInList_60 ?_
      refine Vw.if_eq (pc := 63) (tgt := 70) K dX1_compareInList_63 (by decide) (fun c5 => ?_) (fun c5 => ?_)
      · have h := wpos c5 h
        refine Vw.iconst (pc := 70) (v := (-1 : Int32)) K (by decide) dX1_compareInList_70 ?_
        exact Vw.loc rfl (s_X1_compareInList_71 K E  h)
      · have h := wneg c5 h
        refine Vw.iconst (pc := 66) (v := (1 : Int32)) K (by decide) dX1_compareInList_66 ?_
        refine Vw.goto (pc := 67) (tgt := 71) K dX1_compareInList_67 (by decide) ?_
        exact Vw.loc rfl (s_X1_compareInList_71 K E  h)
def k_X1_compareInList_28  (A : Hp) (x0 : Nat) (x1 : Nat) (x2 : Int32)  : Option (Int32) := (if x2 = (0 : Int32) then if (hsh A x0).1 = 2 then if (hsh A x1).1 = 2 then if (hsh A (hgR A 64 x0 0)).1 = 5 then ((f_X6_compare A (hgR A 64 x0 0) (hgR A 64 x1 0)).bind fun v11 => k_X1_compareInList_44 A x0 x1 v11) else none else none else none else k_X1_compareInList_44 A x0 x1 x2)
set_option maxRecDepth 100000 in
theorem s_X1_compareInList_28 {κ : KT} {r : Int32} {A : Hp} {x0 : Nat} {x1 : Nat} {x2 : Int32}   (K : Cx κ cX1_compareInList 3 RX1 3 78 0 0) (E : Ed κ (some .int) "compareInList" (.inl (some (.inl r))) A 0 0)  (h : k_X1_compareInList_28  A x0 x1 x2  = some r) : Vw κ A 0 0 28 [(0, .inr (.inr x0)), (1, .inr (.inr x1)), (2, .inl x2)] [] := by
  unfold k_X1_compareInList_28 at h
  refine Vw.iload_n (pc := 28) (x := x2) K dX1_compareInList_28 rfl ?_
  refine Vw.if_ne (pc := 29) (tgt := 44) K dX1_compareInList_29 (by decide) (fun c6 => ?_) (fun c6 => ?_)
  · have h := wneg c6 h
    exact Vw.loc rfl (s_X1_compareInList_44 K E  h)
  · have h := wpos c6 h
    refine Vw.aload_n (pc := 32) (x := x0) K dX1_compareInList_32 rfl ?_
    obtain ⟨g7, h⟩ := wgd h
    refine Vw.getR (pc := 33) (k := 0) (f := 64) K cls1 rfl rfl u_1_132 g7 dX1_compareInList_33 ?_
    refine Vw.aload_n (pc := 36) (x := x1) K dX1_compareInList_36 rfl ?_
    obtain ⟨g8, h⟩ := wgd h
    refine Vw.getR (pc := 37) (k := 0) (f := 64) K cls1 rfl rfl u_1_132 g8 dX1_compareInList_37 ?_
    obtain ⟨g9, h⟩ := wgd h
    obtain ⟨v11, e10, h⟩ := wbd h
    refine Vw.cV1 (pc := 40) (v := .inl v11) (c' := 0) (n' := 0) K (s_X6_compare K.tr e10) cal_X6_compare cls4 u_4_156 g9 rfl ⟨by decide, by decide⟩ ⟨by decide, by decide⟩ rfl (Nat.le_of_ble_eq_true rfl) dX1_compareInList_40 rfl rfl ?_
    refine Vw.istore_n (pc := 43) K dX1_compareInList_43 (by decide) ?_
    exact Vw.loc rfl (s_X1_compareInList_44 K E  h)
def f_X1_compareInList (A : Hp) (x0 : Nat) (x1 : Nat) : Option (Int32) := if (hsh A x0).1 = 2 then if (hsh A x1).1 = 2 then ((f_X3_compare A (hgR A 66 x0 0) (hgR A 66 x1 0)).bind fun v15 => (if v15 = (0 : Int32) then if (hsh A (hgR A 67 x0 0)).1 = 5 then ((f_X6_compare A (hgR A 67 x0 0) (hgR A 67 x1 0)).bind fun v19 => k_X1_compareInList_28 A x0 x1 v19) else none else k_X1_compareInList_28 A x0 x1 v15)) else none else none
set_option maxRecDepth 100000 in
theorem s_X1_compareInList {l : Launch} {g : GT} (hl : l.stackTraces = false) {A : Hp} {x0 : Nat} {x1 : Nat} {r : Int32} (h : f_X1_compareInList A x0 x1 = some r) : MetV l g yX1_compareInList (.code yX1_compareInList cX1_compareInList 3 (some .int)) [.inr (.inr x0), .inr (.inr x1)] A (.inl (some (.inl r))) A 3 78 0 0 := by
  refine MetV.ofV hl (by decide +kernel) (Nat.le_of_ble_eq_true rfl) (fun κ K E => ?_)
  have K : Cx κ cX1_compareInList 3 RX1 3 78 0 0 := K
  have E : Ed κ (some .int) "compareInList" (.inl (some (.inl r))) A 0 0 := E
  unfold f_X1_compareInList at h
  change Vw κ A 0 0 0 [(0, .inr (.inr x0)), (1, .inr (.inr x1))] []
  refine Vw.aload_n (pc := 0) (x := x0) K dX1_compareInList_0 rfl ?_
  obtain ⟨g12, h⟩ := wgd h
  refine Vw.getR (pc := 1) (k := 2) (f := 66) K cls1 rfl rfl u_1_138 g12 dX1_compareInList_1 ?_
  refine Vw.aload_n (pc := 4) (x := x1) K dX1_compareInList_4 rfl ?_
  obtain ⟨g13, h⟩ := wgd h
  refine Vw.getR (pc := 5) (k := 2) (f := 66) K cls1 rfl rfl u_1_138 g13 dX1_compareInList_5 ?_
  obtain ⟨v15, e14, h⟩ := wbd h
  refine Vw.cS1 (pc := 8) (v := .inl v15) (c' := 0) (n' := 0) K (s_X3_compare K.tr e14) cal_X3_compare u_4_150 rfl ⟨by decide, by decide⟩ ⟨by decide, by decide⟩ rfl (Nat.le_of_ble_eq_true rfl) dX1_compareInList_8 rfl rfl ?_
  refine Vw.istore_n (pc := 11) K dX1_compareInList_11 (by decide) ?_
  refine Vw.iload_n (pc := 12) (x := v15) K dX1_compareInList_12 rfl ?_
  refine Vw.if_ne (pc := 13) (tgt := 28) K dX1_compareInList_13 (by decide) (fun c16 => ?_) (fun c16 => ?_)
  · have h := wneg c16 h
    exact Vw.loc rfl (s_X1_compareInList_28 K E  h)
  · have h := wpos c16 h
    refine Vw.aload_n (pc := 16) (x := x0) K dX1_compareInList_16 rfl ?_
    refine Vw.getR (pc := 17) (k := 3) (f := 67) K cls1 rfl rfl u_1_141 g12 dX1_compareInList_17 ?_
    refine Vw.aload_n (pc := 20) (x := x1) K dX1_compareInList_20 rfl ?_
    refine Vw.getR (pc := 21) (k := 3) (f := 67) K cls1 rfl rfl u_1_141 g13 dX1_compareInList_21 ?_
    obtain ⟨g17, h⟩ := wgd h
    obtain ⟨v19, e18, h⟩ := wbd h
    refine Vw.cV1 (pc := 24) (v := .inl v19) (c' := 0) (n' := 0) K (s_X6_compare K.tr e18) cal_X6_compare cls4 u_4_156 g17 rfl ⟨by decide, by decide⟩ ⟨by decide, by decide⟩ rfl (Nat.le_of_ble_eq_true rfl) dX1_compareInList_24 rfl rfl ?_
    refine Vw.istore_n (pc := 27) K dX1_compareInList_27 (by decide) ?_
    exact Vw.loc rfl (s_X1_compareInList_28 K E  h)
theorem cal_X1_compareInList : wCalV RX1 yX1_compareInList (.code yX1_compareInList cX1_compareInList 3 (some .int)) 1 := ⟨by decide +kernel, u_4_147, u_4_148, u_1_6, u_4_149⟩
def k_X1_guardsAgainst_49  (A : Hp) (x0 : Nat) (x1 : Nat)  : Option (Int32) := if (hsh A x1).1 = 2 then if (hsh A x0).1 = 2 then if (hsh A (hgR A 67 x1 0)).1 = 5 then ((f_X6_pathMatches A (hgR A 67 x1 0) (hgR A 67 x0 0)).bind fun v5 => (if v5 = (0 : Int32) then some (0 : Int32) else some (1 : Int32))) else none else none else none
set_option maxRecDepth 100000 in
theorem s_X1_guardsAgainst_49 {κ : KT} {r : Int32} {A : Hp} {x0 : Nat} {x1 : Nat}   (K : Cx κ cX1_guardsAgainst 2 RX1 3 72 0 0) (E : Ed κ (some .boolean) "guardsAgainst" (.inl (some (.inl r))) A 0 0)  (h : k_X1_guardsAgainst_49  A x0 x1  = some r) : Vw κ A 0 0 49 [(0, .inr (.inr x0)), (1, .inr (.inr x1))] [] := by
  unfold k_X1_guardsAgainst_49 at h
  refine Vw.aload_n (pc := 49) (x := x1) K dX1_guardsAgainst_49 rfl ?_
  obtain ⟨g1, h⟩ := wgd h
  refine Vw.getR (pc := 50) (k := 3) (f := 67) K cls1 rfl rfl u_1_141 g1 dX1_guardsAgainst_50 ?_
  refine Vw.aload_n (pc := 53) (x := x0) K dX1_guardsAgainst_53 rfl ?_
  obtain ⟨g2, h⟩ := wgd h
  refine Vw.getR (pc := 54) (k := 3) (f := 67) K cls1 rfl rfl u_1_141 g2 dX1_guardsAgainst_54 ?_
  obtain ⟨g3, h⟩ := wgd h
  obtain ⟨v5, e4, h⟩ := wbd h
  refine Vw.cV1 (pc := 57) (v := .inl v5) (c' := 0) (n' := 0) K (s_X6_pathMatches K.tr e4) cal_X6_pathMatches cls4 u_4_178 g3 rfl ⟨by decide, by decide⟩ ⟨by decide, by decide⟩ rfl (Nat.le_of_ble_eq_true rfl) dX1_guardsAgainst_57 rfl rfl ?_
  refine Vw.if_eq (pc := 60) (tgt := 67) K dX1_guardsAgainst_60 (by decide) (fun c6 => ?_) (fun c6 => ?_)
  · have h := wpos c6 h
    refine Vw.iconst (pc := 67) (v := (0 : Int32)) K (by decide) dX1_guardsAgainst_67 ?_
    exact Vw.zretE (pc := 68) K (Or.inl rfl) (Option.some.inj h) rfl E (by decide) (by decide) dX1_guardsAgainst_68
  · have h := wneg c6 h
    refine Vw.iconst (pc := 63) (v := (1 : Int32)) K (by decide) dX1_guardsAgainst_63 ?_
    refine Vw.goto (pc := 64) (tgt := 68) K dX1_guardsAgainst_64 (by decide) ?_
    exact Vw.zretE (pc := 68) K (Or.inr rfl) (Option.some.inj h) rfl E (by decide) (by decide) dX1_guardsAgainst_68
def f_X1_guardsAgainst (A : Hp) (x0 : Nat) (x1 : Nat) : Option (Int32) := if (hsh A x0).1 = 2 then (if (hgI A 73 x0 0) = (0 : Int32) then some (0 : Int32) else if (hsh A x1).1 = 2 then if (hsh A (hgR A 64 x0 0)).1 = 5 then ((f_X6_same A (hgR A 64 x0 0) (hgR A 64 x1 0)).bind fun v12 => (if v12 = (0 : Int32) then some (0 : Int32) else if (hsh A (hgR A 66 x0 0)).1 = 5 then ((f_X6_domainMatches A (hgR A 66 x0 0) (hgR A 66 x1 0)).bind fun v16 => (if v16 = (0 : Int32) then if (hsh A (hgR A 66 x1 0)).1 = 5 then ((f_X6_domainMatches A (hgR A 66 x1 0) (hgR A 66 x0 0)).bind fun v20 => (if v20 = (0 : Int32) then some (0 : Int32) else k_X1_guardsAgainst_49 A x0 x1)) else none else k_X1_guardsAgainst_49 A x0 x1)) else none)) else none else none) else none
set_option maxRecDepth 100000 in
theorem s_X1_guardsAgainst {l : Launch} {g : GT} (hl : l.stackTraces = false) {A : Hp} {x0 : Nat} {x1 : Nat} {r : Int32} (h : f_X1_guardsAgainst A x0 x1 = some r) : MetV l g yX1_guardsAgainst (.code yX1_guardsAgainst cX1_guardsAgainst 2 (some .boolean)) [.inr (.inr x0), .inr (.inr x1)] A (.inl (some (.inl r))) A 3 72 0 0 := by
  refine MetV.ofV hl (by decide +kernel) (Nat.le_of_ble_eq_true rfl) (fun κ K E => ?_)
  have K : Cx κ cX1_guardsAgainst 2 RX1 3 72 0 0 := K
  have E : Ed κ (some .boolean) "guardsAgainst" (.inl (some (.inl r))) A 0 0 := E
  unfold f_X1_guardsAgainst at h
  change Vw κ A 0 0 0 [(0, .inr (.inr x0)), (1, .inr (.inr x1))] []
  refine Vw.aload_n (pc := 0) (x := x0) K dX1_guardsAgainst_0 rfl ?_
  obtain ⟨g7, h⟩ := wgd h
  refine Vw.getI (pc := 1) (k := 9) (f := 73) K cls1 rfl rfl u_1_159 g7 dX1_guardsAgainst_1 ?_
  refine Vw.if_eq (pc := 4) (tgt := 67) K dX1_guardsAgainst_4 (by decide) (fun c8 => ?_) (fun c8 => ?_)
  · have h := wpos c8 h
    refine Vw.iconst (pc := 67) (v := (0 : Int32)) K (by decide) dX1_guardsAgainst_67 ?_
    exact Vw.zretE (pc := 68) K (Or.inl rfl) (Option.some.inj h) rfl E (by decide) (by decide) dX1_guardsAgainst_68
  · have h := wneg c8 h
    refine Vw.aload_n (pc := 7) (x := x0) K dX1_guardsAgainst_7 rfl ?_
    refine Vw.getR (pc := 8) (k := 0) (f := 64) K cls1 rfl rfl u_1_132 g7 dX1_guardsAgainst_8 ?_
    refine Vw.aload_n (pc := 11) (x := x1) K dX1_guardsAgainst_11 rfl ?_
    obtain ⟨g9, h⟩ := wgd h
    refine Vw.getR (pc := 12) (k := 0) (f := 64) K cls1 rfl rfl u_1_132 g9 dX1_guardsAgainst_12 ?_
    obtain ⟨g10, h⟩ := wgd h
    obtain ⟨v12, e11, h⟩ := wbd h
    refine Vw.cV1 (pc := 15) (v := .inl v12) (c' := 0) (n' := 0) K (s_X6_same K.tr e11) cal_X6_same cls4 u_4_176 g10 rfl ⟨by decide, by decide⟩ ⟨by decide, by decide⟩ rfl (Nat.le_of_ble_eq_true rfl) dX1_guardsAgainst_15 rfl rfl ?_
    refine Vw.if_eq (pc := 18) (tgt := 67) K dX1_guardsAgainst_18 (by decide) (fun c13 => ?_) (fun c13 => ?_)
    · have h := wpos c13 h
      refine Vw.iconst (pc := 67) (v := (0 : Int32)) K (by decide) dX1_guardsAgainst_67 ?_
      exact Vw.zretE (pc := 68) K (Or.inl rfl) (Option.some.inj h) rfl E (by decide) (by decide) dX1_guardsAgainst_68
    · have h := wneg c13 h
      refine Vw.aload_n (pc := 21) (x := x0) K dX1_guardsAgainst_21 rfl ?_
      refine Vw.getR (pc := 22) (k := 2) (f := 66) K cls1 rfl rfl u_1_138 g7 dX1_guardsAgainst_22 ?_
      refine Vw.aload_n (pc := 25) (x := x1) K dX1_guardsAgainst_25 rfl ?_
      refine Vw.getR (pc := 26) (k := 2) (f := 66) K cls1 rfl rfl u_1_138 g9 dX1_guardsAgainst_26 ?_
      obtain ⟨g14, h⟩ := wgd h
      obtain ⟨v16, e15, h⟩ := wbd h
      refine Vw.cV1 (pc := 29) (v := .inl v16) (c' := 0) (n' := 0) K (s_X6_domainMatches K.tr e15) cal_X6_domainMatches cls4 u_4_177 g14 rfl ⟨by decide, by decide⟩ ⟨by decide, by decide⟩ rfl (Nat.le_of_ble_eq_true rfl) dX1_guardsAgainst_29 rfl rfl ?_
      refine Vw.if_ne (pc := 32) (tgt := 49) K dX1_guardsAgainst_32 (by decide) (fun c17 => ?_) (fun c17 => ?_)
      · have h := wneg c17 h
        exact Vw.loc rfl (s_X1_guardsAgainst_49 K E  h)
      · have h := wpos c17 h
        refine Vw.aload_n (pc := 35) (x := x1) K dX1_guardsAgainst_35 rfl ?_
        refine Vw.getR (pc := 36) (k := 2) (f := 66) K cls1 rfl rfl u_1_138 g9 dX1_guardsAgainst_36 ?_
        refine Vw.aload_n (pc := 39) (x := x0) K dX1_guardsAgainst_39 rfl ?_
        refine Vw.getR (pc := 40) (k := 2) (f := 66) K cls1 rfl rfl u_1_138 g7 dX1_guardsAgainst_40 ?_
        obtain ⟨g18, h⟩ := wgd h
        obtain ⟨v20, e19, h⟩ := wbd h
        refine Vw.cV1 (pc := 43) (v := .inl v20) (c' := 0) (n' := 0) K (s_X6_domainMatches K.tr e19) cal_X6_domainMatches cls4 u_4_177 g18 rfl ⟨by decide, by decide⟩ ⟨by decide, by decide⟩ rfl (Nat.le_of_ble_eq_true rfl) dX1_guardsAgainst_43 rfl rfl ?_
        refine Vw.if_eq (pc := 46) (tgt := 67) K dX1_guardsAgainst_46 (by decide) (fun c21 => ?_) (fun c21 => ?_)
        · have h := wpos c21 h
          refine Vw.iconst (pc := 67) (v := (0 : Int32)) K (by decide) dX1_guardsAgainst_67 ?_
          exact Vw.zretE (pc := 68) K (Or.inl rfl) (Option.some.inj h) rfl E (by decide) (by decide) dX1_guardsAgainst_68
        · have h := wneg c21 h
          exact Vw.loc rfl (s_X1_guardsAgainst_49 K E  h)
theorem cal_X1_guardsAgainst : wCalV RX1 yX1_guardsAgainst (.code yX1_guardsAgainst cX1_guardsAgainst 2 (some .boolean)) 1 := ⟨by decide +kernel, u_4_173, u_4_174, u_1_6, u_4_175⟩
def k_X1_become_92  (A : Hp) (x0 : Nat) (x1 : Nat)  : Option (Hp) := if (hsh A x1).1 = 2 then if (hsh A x0).1 = 2 then if wZ (hgI A 74 x1 0) then some (hsI (hsI (hsI A 74 x0 0 (hgI A 74 x1 0)) 75 x0 0 (hgI (hsI A 74 x0 0 (hgI A 74 x1 0)) 75 x1 0)) 76 x0 0 (hgI (hsI (hsI A 74 x0 0 (hgI A 74 x1 0)) 75 x0 0 (hgI (hsI A 74 x0 0 (hgI A 74 x1 0)) 75 x1 0)) 76 x1 0)) else none else none else none
set_option maxRecDepth 100000 in
theorem s_X1_become_92 {κ : KT} {B : Hp} {A : Hp} {x0 : Nat} {x1 : Nat}   (K : Cx κ cX1_become 2 RX1 3 69 0 0) (E : Ed κ none "become" (.inl none) B 0 0)  (h : k_X1_become_92  A x0 x1  = some B) : Vw κ A 0 0 92 [(0, .inr (.inr x0)), (1, .inr (.inr x1))] [] := by
  unfold k_X1_become_92 at h
  refine Vw.aload_n (pc := 92) (x := x0) K dX1_become_92 rfl ?_
  refine Vw.aload_n (pc := 93) (x := x1) K dX1_become_93 rfl ?_
  obtain ⟨g1, h⟩ := wgd h
  refine Vw.getI (pc := 94) (k := 10) (f := 74) K cls1 rfl rfl u_1_162 g1 dX1_become_94 ?_
  obtain ⟨g2, h⟩ := wgd h
  obtain ⟨g3, h⟩ := wgd h
  refine Vw.putI (pc := 97) (k := 10) (f := 74) K cls1 rfl rfl u_1_162 g2 (Or.inl rfl) (wZ_n g3) (wZ_f g3) dX1_become_97 ?_
  refine Vw.aload_n (pc := 100) (x := x0) K dX1_become_100 rfl ?_
  refine Vw.aload_n (pc := 101) (x := x1) K dX1_become_101 rfl ?_
  refine Vw.getI (pc := 102) (k := 11) (f := 75) K cls1 rfl rfl u_1_165 g1 dX1_become_102 ?_
  refine Vw.putI (pc := 105) (k := 11) (f := 75) K cls1 rfl rfl u_1_165 g2 (Or.inl rfl) rfl rfl dX1_become_105 ?_
  refine Vw.aload_n (pc := 108) (x := x0) K dX1_become_108 rfl ?_
  refine Vw.aload_n (pc := 109) (x := x1) K dX1_become_109 rfl ?_
  refine Vw.getI (pc := 110) (k := 12) (f := 76) K cls1 rfl rfl u_1_168 g1 dX1_become_110 ?_
  refine Vw.putI (pc := 113) (k := 12) (f := 76) K cls1 rfl rfl u_1_168 g2 (Or.inl rfl) rfl rfl dX1_become_113 ?_
  exact Vw.vretE (pc := 116) K (Option.some.inj h) E (by decide) (by decide) dX1_become_116
def f_X1_become (A : Hp) (x0 : Nat) (x1 : Nat) : Option (Hp) := if (hsh A x0).1 = 2 then if (hsh A x1).1 = 2 then if (hsh A (hgR A 64 x0 0)).1 = 5 then ((f_X6_copy A (hgR A 64 x0 0) (hgR A 64 x1 0)).bind fun A8 => if (hsh A8 x0).1 = 2 then if (hsh A8 x1).1 = 2 then if (hsh A8 (hgR A8 65 x0 0)).1 = 5 then ((f_X6_copy A8 (hgR A8 65 x0 0) (hgR A8 65 x1 0)).bind fun A13 => if (hsh A13 x0).1 = 2 then if (hsh A13 x1).1 = 2 then if (hsh A13 (hgR A13 66 x0 0)).1 = 5 then ((f_X6_copy A13 (hgR A13 66 x0 0) (hgR A13 66 x1 0)).bind fun A18 => if (hsh A18 x0).1 = 2 then if (hsh A18 x1).1 = 2 then if (hsh A18 (hgR A18 67 x0 0)).1 = 5 then ((f_X6_copy A18 (hgR A18 67 x0 0) (hgR A18 67 x1 0)).bind fun A23 => if (hsh A23 x1).1 = 2 then if (hsh A23 x0).1 = 2 then if wZ (hgI (hsI (hsL (hsL (hsL A23 68 x0 0 (hgL A23 68 x1 0)) 69 x0 0 (hgL (hsL A23 68 x0 0 (hgL A23 68 x1 0)) 69 x1 0)) 70 x0 0 (hgL (hsL (hsL A23 68 x0 0 (hgL A23 68 x1 0)) 69 x0 0 (hgL (hsL A23 68 x0 0 (hgL A23 68 x1 0)) 69 x1 0)) 70 x1 0)) 71 x0 0 (hgI (hsL (hsL (hsL A23 68 x0 0 (hgL A23 68 x1 0)) 69 x0 0 (hgL (hsL A23 68 x0 0 (hgL A23 68 x1 0)) 69 x1 0)) 70 x0 0 (hgL (hsL (hsL A23 68 x0 0 (hgL A23 68 x1 0)) 69 x0 0 (hgL (hsL A23 68 x0 0 (hgL A23 68 x1 0)) 69 x1 0)) 70 x1 0)) 71 x1 0)) 72 x1 0) then if wZ (hgI (hsI (hsI (hsL (hsL (hsL A23 68 x0 0 (hgL A23 68 x1 0)) 69 x0 0 (hgL (hsL A23 68 x0 0 (hgL A23 68 x1 0)) 69 x1 0)) 70 x0 0 (hgL (hsL (hsL A23 68 x0 0 (hgL A23 68 x1 0)) 69 x0 0 (hgL (hsL A23 68 x0 0 (hgL A23 68 x1 0)) 69 x1 0)) 70 x1 0)) 71 x0 0 (hgI (hsL (hsL (hsL A23 68 x0 0 (hgL A23 68 x1 0)) 69 x0 0 (hgL (hsL A23 68 x0 0 (hgL A23 68 x1 0)) 69 x1 0)) 70 x0 0 (hgL (hsL (hsL A23 68 x0 0 (hgL A23 68 x1 0)) 69 x0 0 (hgL (hsL A23 68 x0 0 (hgL A23 68 x1 0)) 69 x1 0)) 70 x1 0)) 71 x1 0)) 72 x0 0 (hgI (hsI (hsL (hsL (hsL A23 68 x0 0 (hgL A23 68 x1 0)) 69 x0 0 (hgL (hsL A23 68 x0 0 (hgL A23 68 x1 0)) 69 x1 0)) 70 x0 0 (hgL (hsL (hsL A23 68 x0 0 (hgL A23 68 x1 0)) 69 x0 0 (hgL (hsL A23 68 x0 0 (hgL A23 68 x1 0)) 69 x1 0)) 70 x1 0)) 71 x0 0 (hgI (hsL (hsL (hsL A23 68 x0 0 (hgL A23 68 x1 0)) 69 x0 0 (hgL (hsL A23 68 x0 0 (hgL A23 68 x1 0)) 69 x1 0)) 70 x0 0 (hgL (hsL (hsL A23 68 x0 0 (hgL A23 68 x1 0)) 69 x0 0 (hgL (hsL A23 68 x0 0 (hgL A23 68 x1 0)) 69 x1 0)) 70 x1 0)) 71 x1 0)) 72 x1 0)) 73 x1 0) then k_X1_become_92 (hsI (hsI (hsI (hsL (hsL (hsL A23 68 x0 0 (hgL A23 68 x1 0)) 69 x0 0 (hgL (hsL A23 68 x0 0 (hgL A23 68 x1 0)) 69 x1 0)) 70 x0 0 (hgL (hsL (hsL A23 68 x0 0 (hgL A23 68 x1 0)) 69 x0 0 (hgL (hsL A23 68 x0 0 (hgL A23 68 x1 0)) 69 x1 0)) 70 x1 0)) 71 x0 0 (hgI (hsL (hsL (hsL A23 68 x0 0 (hgL A23 68 x1 0)) 69 x0 0 (hgL (hsL A23 68 x0 0 (hgL A23 68 x1 0)) 69 x1 0)) 70 x0 0 (hgL (hsL (hsL A23 68 x0 0 (hgL A23 68 x1 0)) 69 x0 0 (hgL (hsL A23 68 x0 0 (hgL A23 68 x1 0)) 69 x1 0)) 70 x1 0)) 71 x1 0)) 72 x0 0 (hgI (hsI (hsL (hsL (hsL A23 68 x0 0 (hgL A23 68 x1 0)) 69 x0 0 (hgL (hsL A23 68 x0 0 (hgL A23 68 x1 0)) 69 x1 0)) 70 x0 0 (hgL (hsL (hsL A23 68 x0 0 (hgL A23 68 x1 0)) 69 x0 0 (hgL (hsL A23 68 x0 0 (hgL A23 68 x1 0)) 69 x1 0)) 70 x1 0)) 71 x0 0 (hgI (hsL (hsL (hsL A23 68 x0 0 (hgL A23 68 x1 0)) 69 x0 0 (hgL (hsL A23 68 x0 0 (hgL A23 68 x1 0)) 69 x1 0)) 70 x0 0 (hgL (hsL (hsL A23 68 x0 0 (hgL A23 68 x1 0)) 69 x0 0 (hgL (hsL A23 68 x0 0 (hgL A23 68 x1 0)) 69 x1 0)) 70 x1 0)) 71 x1 0)) 72 x1 0)) 73 x0 0 (hgI (hsI (hsI (hsL (hsL (hsL A23 68 x0 0 (hgL A23 68 x1 0)) 69 x0 0 (hgL (hsL A23 68 x0 0 (hgL A23 68 x1 0)) 69 x1 0)) 70 x0 0 (hgL (hsL (hsL A23 68 x0 0 (hgL A23 68 x1 0)) 69 x0 0 (hgL (hsL A23 68 x0 0 (hgL A23 68 x1 0)) 69 x1 0)) 70 x1 0)) 71 x0 0 (hgI (hsL (hsL (hsL A23 68 x0 0 (hgL A23 68 x1 0)) 69 x0 0 (hgL (hsL A23 68 x0 0 (hgL A23 68 x1 0)) 69 x1 0)) 70 x0 0 (hgL (hsL (hsL A23 68 x0 0 (hgL A23 68 x1 0)) 69 x0 0 (hgL (hsL A23 68 x0 0 (hgL A23 68 x1 0)) 69 x1 0)) 70 x1 0)) 71 x1 0)) 72 x0 0 (hgI (hsI (hsL (hsL (hsL A23 68 x0 0 (hgL A23 68 x1 0)) 69 x0 0 (hgL (hsL A23 68 x0 0 (hgL A23 68 x1 0)) 69 x1 0)) 70 x0 0 (hgL (hsL (hsL A23 68 x0 0 (hgL A23 68 x1 0)) 69 x0 0 (hgL (hsL A23 68 x0 0 (hgL A23 68 x1 0)) 69 x1 0)) 70 x1 0)) 71 x0 0 (hgI (hsL (hsL (hsL A23 68 x0 0 (hgL A23 68 x1 0)) 69 x0 0 (hgL (hsL A23 68 x0 0 (hgL A23 68 x1 0)) 69 x1 0)) 70 x0 0 (hgL (hsL (hsL A23 68 x0 0 (hgL A23 68 x1 0)) 69 x0 0 (hgL (hsL A23 68 x0 0 (hgL A23 68 x1 0)) 69 x1 0)) 70 x1 0)) 71 x1 0)) 72 x1 0)) 73 x1 0)) x0 x1 else none else none else none else none) else none else none else none) else none else none else none) else none else none else none) else none else none else none
set_option maxRecDepth 100000 in
theorem s_X1_become {l : Launch} {g : GT} (hl : l.stackTraces = false) {A : Hp} {x0 : Nat} {x1 : Nat} {B : Hp} (h : f_X1_become A x0 x1 = some B) : MetV l g yX1_become (.code yX1_become cX1_become 2 none) [.inr (.inr x0), .inr (.inr x1)] A (.inl none) B 3 69 0 0 := by
  refine MetV.ofV hl (by decide +kernel) (Nat.le_of_ble_eq_true rfl) (fun κ K E => ?_)
  have K : Cx κ cX1_become 2 RX1 3 69 0 0 := K
  have E : Ed κ none "become" (.inl none) B 0 0 := E
  unfold f_X1_become at h
  change Vw κ A 0 0 0 [(0, .inr (.inr x0)), (1, .inr (.inr x1))] []
  refine Vw.aload_n (pc := 0) (x := x0) K dX1_become_0 rfl ?_
  obtain ⟨g4, h⟩ := wgd h
  refine Vw.getR (pc := 1) (k := 0) (f := 64) K cls1 rfl rfl u_1_132 g4 dX1_become_1 ?_
  refine Vw.aload_n (pc := 4) (x := x1) K dX1_become_4 rfl ?_
  obtain ⟨g5, h⟩ := wgd h
  refine Vw.getR (pc := 5) (k := 0) (f := 64) K cls1 rfl rfl u_1_132 g5 dX1_become_5 ?_
  obtain ⟨g6, h⟩ := wgd h
  obtain ⟨A8, e7, h⟩ := wbd h
  refine Vw.cV0 (pc := 8) (c' := 0) (n' := 0) K (s_X6_copy K.tr e7) cal_X6_copy cls4 u_4_210 g6 rfl ⟨by decide, by decide⟩ ⟨by decide, by decide⟩ rfl (Nat.le_of_ble_eq_true rfl) dX1_become_8 rfl rfl ?_
  refine Vw.aload_n (pc := 11) (x := x0) K dX1_become_11 rfl ?_
  obtain ⟨g9, h⟩ := wgd h
  refine Vw.getR (pc := 12) (k := 1) (f := 65) K cls1 rfl rfl u_1_135 g9 dX1_become_12 ?_
  refine Vw.aload_n (pc := 15) (x := x1) K dX1_become_15 rfl ?_
  obtain ⟨g10, h⟩ := wgd h
  refine Vw.getR (pc := 16) (k := 1) (f := 65) K cls1 rfl rfl u_1_135 g10 dX1_become_16 ?_
  obtain ⟨g11, h⟩ := wgd h
  obtain ⟨A13, e12, h⟩ := wbd h
  refine Vw.cV0 (pc := 19) (c' := 0) (n' := 0) K (s_X6_copy K.tr e12) cal_X6_copy cls4 u_4_210 g11 rfl ⟨by decide, by decide⟩ ⟨by decide, by decide⟩ rfl (Nat.le_of_ble_eq_true rfl) dX1_become_19 rfl rfl ?_
  refine Vw.aload_n (pc := 22) (x := x0) K dX1_become_22 rfl ?_
  obtain ⟨g14, h⟩ := wgd h
  refine Vw.getR (pc := 23) (k := 2) (f := 66) K cls1 rfl rfl u_1_138 g14 dX1_become_23 ?_
  refine Vw.aload_n (pc := 26) (x := x1) K dX1_become_26 rfl ?_
  obtain ⟨g15, h⟩ := wgd h
  refine Vw.getR (pc := 27) (k := 2) (f := 66) K cls1 rfl rfl u_1_138 g15 dX1_become_27 ?_
  obtain ⟨g16, h⟩ := wgd h
  obtain ⟨A18, e17, h⟩ := wbd h
  refine Vw.cV0 (pc := 30) (c' := 0) (n' := 0) K (s_X6_copy K.tr e17) cal_X6_copy cls4 u_4_210 g16 rfl ⟨by decide, by decide⟩ ⟨by decide, by decide⟩ rfl (Nat.le_of_ble_eq_true rfl) dX1_become_30 rfl rfl ?_
  refine Vw.aload_n (pc := 33) (x := x0) K dX1_become_33 rfl ?_
  obtain ⟨g19, h⟩ := wgd h
  refine Vw.getR (pc := 34) (k := 3) (f := 67) K cls1 rfl rfl u_1_141 g19 dX1_become_34 ?_
  refine Vw.aload_n (pc := 37) (x := x1) K dX1_become_37 rfl ?_
  obtain ⟨g20, h⟩ := wgd h
  refine Vw.getR (pc := 38) (k := 3) (f := 67) K cls1 rfl rfl u_1_141 g20 dX1_become_38 ?_
  obtain ⟨g21, h⟩ := wgd h
  obtain ⟨A23, e22, h⟩ := wbd h
  refine Vw.cV0 (pc := 41) (c' := 0) (n' := 0) K (s_X6_copy K.tr e22) cal_X6_copy cls4 u_4_210 g21 rfl ⟨by decide, by decide⟩ ⟨by decide, by decide⟩ rfl (Nat.le_of_ble_eq_true rfl) dX1_become_41 rfl rfl ?_
  refine Vw.aload_n (pc := 44) (x := x0) K dX1_become_44 rfl ?_
  refine Vw.aload_n (pc := 45) (x := x1) K dX1_become_45 rfl ?_
  obtain ⟨g24, h⟩ := wgd h
  refine Vw.getL (pc := 46) (k := 4) (f := 68) K cls1 rfl rfl u_1_144 g24 dX1_become_46 ?_
  obtain ⟨g25, h⟩ := wgd h
  refine Vw.putL (pc := 49) (k := 4) (f := 68) K cls1 rfl rfl u_1_144 g25 (Or.inl rfl) rfl rfl dX1_become_49 ?_
  refine Vw.aload_n (pc := 52) (x := x0) K dX1_become_52 rfl ?_
  refine Vw.aload_n (pc := 53) (x := x1) K dX1_become_53 rfl ?_
  refine Vw.getL (pc := 54) (k := 5) (f := 69) K cls1 rfl rfl u_1_147 g24 dX1_become_54 ?_
  refine Vw.putL (pc := 57) (k := 5) (f := 69) K cls1 rfl rfl u_1_147 g25 (Or.inl rfl) rfl rfl dX1_become_57 ?_
  refine Vw.aload_n (pc := 60) (x := x0) K dX1_become_60 rfl ?_
  refine Vw.aload_n (pc := 61) (x := x1) K dX1_become_61 rfl ?_
  refine Vw.getL (pc := 62) (k := 6) (f := 70) K cls1 rfl rfl u_1_150 g24 dX1_become_62 ?_
  refine Vw.putL (pc := 65) (k := 6) (f := 70) K cls1 rfl rfl u_1_150 g25 (Or.inl rfl) rfl rfl dX1_become_65 ?_
  refine Vw.aload_n (pc := 68) (x := x0) K dX1_become_68 rfl ?_
  refine Vw.aload_n (pc := 69) (x := x1) K dX1_become_69 rfl ?_
  refine Vw.getI (pc := 70) (k := 7) (f := 71) K cls1 rfl rfl u_1_153 g24 dX1_become_70 ?_
  refine Vw.putI (pc := 73) (k := 7) (f := 71) K cls1 rfl rfl u_1_153 g25 (Or.inl rfl) rfl rfl dX1_become_73 ?_
  refine Vw.aload_n (pc := 76) (x := x0) K dX1_become_76 rfl ?_
  refine Vw.aload_n (pc := 77) (x := x1) K dX1_become_77 rfl ?_
  refine Vw.getI (pc := 78) (k := 8) (f := 72) K cls1 rfl rfl u_1_156 g24 dX1_become_78 ?_
  obtain ⟨g26, h⟩ := wgd h
  refine Vw.putI (pc := 81) (k := 8) (f := 72) K cls1 rfl rfl u_1_156 g25 (Or.inl rfl) (wZ_n g26) (wZ_f g26) dX1_become_81 ?_
  refine Vw.aload_n (pc := 84) (x := x0) K dX1_become_84 rfl ?_
  refine Vw.aload_n (pc := 85) (x := x1) K dX1_become_85 rfl ?_
  refine Vw.getI (pc := 86) (k := 9) (f := 73) K cls1 rfl rfl u_1_159 g24 dX1_become_86 ?_
  obtain ⟨g27, h⟩ := wgd h
  refine Vw.putI (pc := 89) (k := 9) (f := 73) K cls1 rfl rfl u_1_159 g25 (Or.inl rfl) (wZ_n g27) (wZ_f g27) dX1_become_89 ?_
  exact Vw.loc rfl (s_X1_become_92 K E  h)
theorem cal_X1_become : wCalV RX1 yX1_become (.code yX1_become cX1_become 2 none) 1 := ⟨by decide +kernel, u_4_207, u_4_208, u_1_6, u_4_209⟩
def f_X1_weight (A : Hp) (x0 : Nat) (x1 : Int32) : Option (Int64) := (if x1 = (0 : Int32) then if (hsh A x0).1 = 2 then some (hgL A 70 x0 0) else none else (if x1 = (1 : Int32) then if (hsh A x0).1 = 2 then some (hgL A 69 x0 0) else none else (if x1 = (2 : Int32) then if (hsh A x0).1 = 2 then (if (hgL A 68 x0 0) = (-1 : Int64) then some (9223372036854775807 : Int64) else some (hgL A 68 x0 0)) else none else if (hsh A x0).1 = 2 then if (hsh A (hgR A 64 x0 0)).1 = 5 then if (hsh A (hgR A 65 x0 0)).1 = 5 then some ((-((hgI A 257 (hgR A 64 x0 0) 0) + (hgI A 257 (hgR A 65 x0 0) 0))).toInt64) else none else none else none)))
set_option maxRecDepth 100000 in
theorem s_X1_weight {l : Launch} {g : GT} (hl : l.stackTraces = false) {A : Hp} {x0 : Nat} {x1 : Int32} {r : Int64} (h : f_X1_weight A x0 x1 = some r) : MetV l g yX1_weight (.code yX1_weight cX1_weight 2 (some .long)) [.inr (.inr x0), .inl x1] A (.inl (some (.inr (.inl r)))) A 0 0 0 0 := by
  refine MetV.ofV hl (by decide +kernel) (Nat.le_of_ble_eq_true rfl) (fun κ K E => ?_)
  have K : Cx κ cX1_weight 2 RX1 0 0 0 0 := K
  have E : Ed κ (some .long) "weight" (.inl (some (.inr (.inl r)))) A 0 0 := E
  unfold f_X1_weight at h
  change Vw κ A 0 0 0 [(0, .inr (.inr x0)), (1, .inl x1)] []
  refine Vw.iload_n (pc := 0) (x := x1) K dX1_weight_0 rfl ?_
  refine Vw.if_ne (pc := 1) (tgt := 9) K dX1_weight_1 (by decide) (fun c1 => ?_) (fun c1 => ?_)
  · have h := wneg c1 h
    refine Vw.iload_n (pc := 9) (x := x1) K dX1_weight_9 rfl ?_
    refine Vw.iconst (pc := 10) (v := (1 : Int32)) K (by decide) dX1_weight_10 ?_
    refine Vw.icmp_ne (pc := 11) (tgt := 19) K dX1_weight_11 (by decide) (fun c2 => ?_) (fun c2 => ?_)
    · have h := wneg c2 h
      refine Vw.iload_n (pc := 19) (x := x1) K dX1_weight_19 rfl ?_
      refine Vw.iconst (pc := 20) (v := (2 : Int32)) K (by decide) dX1_weight_20 ?_
      refine Vw.icmp_ne (pc := 21) (tgt := 46) K dX1_weight_21 (by decide) (fun c3 => ?_) (fun c3 => ?_)
      · have h := wneg c3 h
        refine Vw.aload_n (pc := 46) (x := x0) K dX1_weight_46 rfl ?_
        obtain ⟨g4, h⟩ := wgd h
        refine Vw.getR (pc := 47) (k := 0) (f := 64) K cls1 rfl rfl u_1_132 g4 dX1_weight_47 ?_
        obtain ⟨g5, h⟩ := wgd h
        refine Vw.getI (pc := 50) (k := 1) (f := 257) K cls4 rfl rfl u_1_49 g5 dX1_weight_50 ?_
        refine Vw.aload_n (pc := 53) (x := x0) K dX1_weight_53 rfl ?_
        refine Vw.getR (pc := 54) (k := 1) (f := 65) K cls1 rfl rfl u_1_135 g4 dX1_weight_54 ?_
        obtain ⟨g6, h⟩ := wgd h
        refine Vw.getI (pc := 57) (k := 1) (f := 257) K cls4 rfl rfl u_1_49 g6 dX1_weight_57 ?_
        refine Vw.iadd (pc := 60) K dX1_weight_60 ?_
        refine Vw.ineg (pc := 61) K dX1_weight_61 ?_
        refine Vw.i2l (pc := 62) K dX1_weight_62 ?_
        exact Vw.lretE (pc := 63) K (Option.some.inj h) rfl E (by decide) (by decide) dX1_weight_63
      · have h := wpos c3 h
        refine Vw.aload_n (pc := 24) (x := x0) K dX1_weight_24 rfl ?_
        obtain ⟨g7, h⟩ := wgd h
        refine Vw.getL (pc := 25) (k := 4) (f := 68) K cls1 rfl rfl u_1_144 g7 dX1_weight_25 ?_
        refine Vw.ldc2 (pc := 28) (v := (-1 : Int64)) K u_3_1 dX1_weight_28 ?_
        refine Vw.lcmp_ne (pc := 31) (tgt := 41) K dX1_weight_31 dX1_weight_32 (by decide) (fun c8 => ?_) (fun c8 => ?_)
        · have h := wneg c8 h
          refine Vw.aload_n (pc := 41) (x := x0) K dX1_weight_41 rfl ?_
          refine Vw.getL (pc := 42) (k := 4) (f := 68) K cls1 rfl rfl u_1_144 g7 dX1_weight_42 ?_
          exact Vw.lretE (pc := 45) K (Option.some.inj h) rfl E (by decide) (by decide) dX1_weight_45
        · have h := wpos c8 h
          refine Vw.ldc2 (pc := 35) (v := (9223372036854775807 : Int64)) K u_3_2 dX1_weight_35 ?_
          refine Vw.goto (pc := 38) (tgt := 45) K dX1_weight_38 (by decide) ?_
          exact Vw.lretE (pc := 45) K (Option.some.inj h) rfl E (by decide) (by decide) dX1_weight_45
    · have h := wpos c2 h
      refine Vw.aload_n (pc := 14) (x := x0) K dX1_weight_14 rfl ?_
      obtain ⟨g9, h⟩ := wgd h
      refine Vw.getL (pc := 15) (k := 5) (f := 69) K cls1 rfl rfl u_1_147 g9 dX1_weight_15 ?_
      exact Vw.lretE (pc := 18) K (Option.some.inj h) rfl E (by decide) (by decide) dX1_weight_18
  · have h := wpos c1 h
    refine Vw.aload_n (pc := 4) (x := x0) K dX1_weight_4 rfl ?_
    obtain ⟨g10, h⟩ := wgd h
    refine Vw.getL (pc := 5) (k := 6) (f := 70) K cls1 rfl rfl u_1_150 g10 dX1_weight_5 ?_
    exact Vw.lretE (pc := 8) K (Option.some.inj h) rfl E (by decide) (by decide) dX1_weight_8
theorem cal_X1_weight : wCalV RX1 yX1_weight (.code yX1_weight cX1_weight 2 (some .long)) 1 := ⟨by decide +kernel, u_2_239, us_1_3, u_1_6, u_3_0⟩
def f_X1_isVictimBefore (A : Hp) (x0 : Nat) (x1 : Nat) (x2 : Int32) : Option (Int32) := if (hsh A x0).1 = 2 then if (hsh A x1).1 = 2 then (if (hgI A 76 x0 0) = (hgI A 76 x1 0) then (if (hgI A 73 x0 0) = (hgI A 73 x1 0) then ((f_X1_weight A x0 x2).bind fun v6 => ((f_X1_weight A x1 x2).bind fun v8 => ((f_J13_compare_74951 A v6 v8).bind fun v10 => (if v10 = (0 : Int32) then (if (hgI A 71 x1 0) ≤ (hgI A 71 x0 0) then some (0 : Int32) else some (1 : Int32)) else (if (0 : Int32) ≤ v10 then some (0 : Int32) else some (1 : Int32)))))) else if wZ (hgI A 73 x1 0) then some (hgI A 73 x1 0) else none) else (if (hgI A 76 x1 0) ≤ (hgI A 76 x0 0) then some (0 : Int32) else some (1 : Int32))) else none else none
set_option maxRecDepth 100000 in
theorem s_X1_isVictimBefore {l : Launch} {g : GT} (hl : l.stackTraces = false) {A : Hp} {x0 : Nat} {x1 : Nat} {x2 : Int32} {r : Int32} (h : f_X1_isVictimBefore A x0 x1 x2 = some r) : MetV l g yX1_isVictimBefore (.code yX1_isVictimBefore cX1_isVictimBefore 4 (some .boolean)) [.inr (.inr x0), .inr (.inr x1), .inl x2] A (.inl (some (.inl r))) A 1 23 0 0 := by
  refine MetV.ofV hl (by decide +kernel) (Nat.le_of_ble_eq_true rfl) (fun κ K E => ?_)
  have K : Cx κ cX1_isVictimBefore 4 RX1 1 23 0 0 := K
  have E : Ed κ (some .boolean) "isVictimBefore" (.inl (some (.inl r))) A 0 0 := E
  unfold f_X1_isVictimBefore at h
  change Vw κ A 0 0 0 [(0, .inr (.inr x0)), (1, .inr (.inr x1)), (2, .inl x2)] []
  refine Vw.aload_n (pc := 0) (x := x0) K dX1_isVictimBefore_0 rfl ?_
  obtain ⟨g1, h⟩ := wgd h
  refine Vw.getI (pc := 1) (k := 12) (f := 76) K cls1 rfl rfl u_1_168 g1 dX1_isVictimBefore_1 ?_
  refine Vw.aload_n (pc := 4) (x := x1) K dX1_isVictimBefore_4 rfl ?_
  obtain ⟨g2, h⟩ := wgd h
  refine Vw.getI (pc := 5) (k := 12) (f := 76) K cls1 rfl rfl u_1_168 g2 dX1_isVictimBefore_5 ?_
  refine Vw.icmp_eq (pc := 8) (tgt := 28) K dX1_isVictimBefore_8 (by decide) (fun c3 => ?_) (fun c3 => ?_)
  · have h := wpos c3 h
    refine Vw.aload_n (pc := 28) (x := x0) K dX1_isVictimBefore_28 rfl ?_
    refine Vw.getI (pc := 29) (k := 9) (f := 73) K cls1 rfl rfl u_1_159 g1 dX1_isVictimBefore_29 ?_
    refine Vw.aload_n (pc := 32) (x := x1) K dX1_isVictimBefore_32 rfl ?_
    refine Vw.getI (pc := 33) (k := 9) (f := 73) K cls1 rfl rfl u_1_159 g2 dX1_isVictimBefore_33 ?_
    refine Vw.icmp_eq (pc := 36) (tgt := 44) K dX1_isVictimBefore_36 (by decide) (fun c4 => ?_) (fun c4 => ?_)
    · have h := wpos c4 h
      refine Vw.aload_n (pc := 44) (x := x0) K dX1_isVictimBefore_44 rfl ?_
      refine Vw.iload_n (pc := 45) (x := x2) K dX1_isVictimBefore_45 rfl ?_
      obtain ⟨v6, e5, h⟩ := wbd h
      refine Vw.cV1 (pc := 46) (v := .inr (.inl v6)) (c' := 0) (n' := 0) K (s_X1_weight K.tr e5) cal_X1_weight cls1 u_2_237 g1 rfl ⟨by decide, by decide⟩ ⟨by decide, by decide⟩ rfl (Nat.le_of_ble_eq_true rfl) dX1_isVictimBefore_46 rfl rfl ?_
      refine Vw.aload_n (pc := 49) (x := x1) K dX1_isVictimBefore_49 rfl ?_
      refine Vw.iload_n (pc := 50) (x := x2) K dX1_isVictimBefore_50 rfl ?_
      obtain ⟨v8, e7, h⟩ := wbd h
      refine Vw.cV1 (pc := 51) (v := .inr (.inl v8)) (c' := 0) (n' := 0) K (s_X1_weight K.tr e7) cal_X1_weight cls1 u_2_237 g2 rfl ⟨by decide, by decide⟩ ⟨by decide, by decide⟩ rfl (Nat.le_of_ble_eq_true rfl) dX1_isVictimBefore_51 rfl rfl ?_
      obtain ⟨v10, e9, h⟩ := wbd h
      refine Vw.cS1 (pc := 54) (v := .inl v10) (c' := 0) (n' := 0) K (s_J13_compare_74951 K.tr e9) cal_J13_compare_74951 u_3_3 rfl ⟨by decide, by decide⟩ ⟨by decide, by decide⟩ rfl (Nat.le_of_ble_eq_true rfl) dX1_isVictimBefore_54 rfl rfl ?_
      refine Vw.istore_n (pc := 57) K dX1_isVictimBefore_57 (by decide) ?_
      refine Vw.iload_n (pc := 58) (x := v10) K dX1_isVictimBefore_58 rfl ?_
      refine Vw.if_eq (pc := 59) (tgt := 74) K dX1_isVictimBefore_59 (by decide) (fun c11 => ?_) (fun c11 => ?_)
      · have h := wpos c11 h
        refine Vw.aload_n (pc := 74) (x := x0) K dX1_isVictimBefore_74 rfl ?_
        refine Vw.getI (pc := 75) (k := 7) (f := 71) K cls1 rfl rfl u_1_153 g1 dX1_isVictimBefore_75 ?_
        refine Vw.aload_n (pc := 78) (x := x1) K dX1_isVictimBefore_78 rfl ?_
        refine Vw.getI (pc := 79) (k := 7) (f := 71) K cls1 rfl rfl u_1_153 g2 dX1_isVictimBefore_79 ?_
        refine Vw.icmp_ge (pc := 82) (tgt := 89) K dX1_isVictimBefore_82 (by decide) (fun c12 => ?_) (fun c12 => ?_)
        · have h := wpos c12 h
          refine Vw.iconst (pc := 89) (v := (0 : Int32)) K (by decide) dX1_isVictimBefore_89 ?_
          exact Vw.zretE (pc := 90) K (Or.inl rfl) (Option.some.inj h) rfl E (by decide) (by decide) dX1_isVictimBefore_90
        · have h := wneg c12 h
          refine Vw.iconst (pc := 85) (v := (1 : Int32)) K (by decide) dX1_isVictimBefore_85 ?_
          refine Vw.goto (pc := 86) (tgt := 90) K dX1_isVictimBefore_86 (by decide) ?_
          exact Vw.zretE (pc := 90) K (Or.inr rfl) (Option.some.inj h) rfl E (by decide) (by decide) dX1_isVictimBefore_90
      · have h := wneg c11 h
        refine Vw.iload_n (pc := 62) (x := v10) K dX1_isVictimBefore_62 rfl ?_
        refine Vw.if_ge (pc := 63) (tgt := 70) K dX1_isVictimBefore_63 (by decide) (fun c13 => ?_) (fun c13 => ?_)
        · have h := wpos c13 h
          refine Vw.iconst (pc := 70) (v := (0 : Int32)) K (by decide) dX1_isVictimBefore_70 ?_
          refine Vw.goto (pc := 71) (tgt := 90) K dX1_isVictimBefore_71 (by decide) ?_
          exact Vw.zretE (pc := 90) K (Or.inl rfl) (Option.some.inj h) rfl E (by decide) (by decide) dX1_isVictimBefore_90
        · have h := wneg c13 h
          refine Vw.iconst (pc := 66) (v := (1 : Int32)) K (by decide) dX1_isVictimBefore_66 ?_
          refine Vw.goto (pc := 67) (tgt := 90) K dX1_isVictimBefore_67 (by decide) ?_
          exact Vw.zretE (pc := 90) K (Or.inr rfl) (Option.some.inj h) rfl E (by decide) (by decide) dX1_isVictimBefore_90
    · have h := wneg c4 h
      refine Vw.aload_n (pc := 39) (x := x1) K dX1_isVictimBefore_39 rfl ?_
      refine Vw.getI (pc := 40) (k := 9) (f := 73) K cls1 rfl rfl u_1_159 g2 dX1_isVictimBefore_40 ?_
      obtain ⟨g14, h⟩ := wgd h
      exact Vw.zretE (pc := 43) K g14 (Option.some.inj h) rfl E (by decide) (by decide) dX1_isVictimBefore_43
  · have h := wneg c3 h
    refine Vw.aload_n (pc := 11) (x := x0) K dX1_isVictimBefore_11 rfl ?_
    refine Vw.getI (pc := 12) (k := 12) (f := 76) K cls1 rfl rfl u_1_168 g1 dX1_isVictimBefore_12 ?_
    refine Vw.aload_n (pc := 15) (x := x1) K dX1_isVictimBefore_15 rfl ?_
    refine Vw.getI (pc := 16) (k := 12) (f := 76) K cls1 rfl rfl u_1_168 g2 dX1_isVictimBefore_16 ?_
    refine Vw.icmp_ge (pc := 19) (tgt := 26) K dX1_isVictimBefore_19 (by decide) (fun c15 => ?_) (fun c15 => ?_)
    · have h := wpos c15 h
      refine Vw.iconst (pc := 26) (v := (0 : Int32)) K (by decide) dX1_isVictimBefore_26 ?_
      exact Vw.zretE (pc := 27) K (Or.inl rfl) (Option.some.inj h) rfl E (by decide) (by decide) dX1_isVictimBefore_27
    · have h := wneg c15 h
      refine Vw.iconst (pc := 22) (v := (1 : Int32)) K (by decide) dX1_isVictimBefore_22 ?_
      refine Vw.goto (pc := 23) (tgt := 27) K dX1_isVictimBefore_23 (by decide) ?_
      exact Vw.zretE (pc := 27) K (Or.inr rfl) (Option.some.inj h) rfl E (by decide) (by decide) dX1_isVictimBefore_27
theorem cal_X1_isVictimBefore : wCalV RX1 yX1_isVictimBefore (.code yX1_isVictimBefore cX1_isVictimBefore 4 (some .boolean)) 2 := ⟨by decide +kernel, u_2_234, u_2_235, u_1_6, u_2_236⟩
def f_X1_isSentBefore (A : Hp) (x0 : Nat) (x1 : Nat) : Option (Int32) := if (hsh A x0).1 = 2 then if (hsh A (hgR A 67 x0 0)).1 = 5 then if (hsh A x1).1 = 2 then if (hsh A (hgR A 67 x1 0)).1 = 5 then (if (hgI A 257 (hgR A 67 x0 0) 0) = (hgI A 257 (hgR A 67 x1 0) 0) then (if (hgI A 71 x1 0) ≤ (hgI A 71 x0 0) then some (0 : Int32) else some (1 : Int32)) else (if (hgI A 257 (hgR A 67 x0 0) 0) ≤ (hgI A 257 (hgR A 67 x1 0) 0) then some (0 : Int32) else some (1 : Int32))) else none else none else none else none
set_option maxRecDepth 100000 in
theorem s_X1_isSentBefore {l : Launch} {g : GT} (hl : l.stackTraces = false) {A : Hp} {x0 : Nat} {x1 : Nat} {r : Int32} (h : f_X1_isSentBefore A x0 x1 = some r) : MetV l g yX1_isSentBefore (.code yX1_isSentBefore cX1_isSentBefore 2 (some .boolean)) [.inr (.inr x0), .inr (.inr x1)] A (.inl (some (.inl r))) A 0 0 0 0 := by
  refine MetV.ofV hl (by decide +kernel) (Nat.le_of_ble_eq_true rfl) (fun κ K E => ?_)
  have K : Cx κ cX1_isSentBefore 2 RX1 0 0 0 0 := K
  have E : Ed κ (some .boolean) "isSentBefore" (.inl (some (.inl r))) A 0 0 := E
  unfold f_X1_isSentBefore at h
  change Vw κ A 0 0 0 [(0, .inr (.inr x0)), (1, .inr (.inr x1))] []
  refine Vw.aload_n (pc := 0) (x := x0) K dX1_isSentBefore_0 rfl ?_
  obtain ⟨g1, h⟩ := wgd h
  refine Vw.getR (pc := 1) (k := 3) (f := 67) K cls1 rfl rfl u_1_141 g1 dX1_isSentBefore_1 ?_
  obtain ⟨g2, h⟩ := wgd h
  refine Vw.getI (pc := 4) (k := 1) (f := 257) K cls4 rfl rfl u_1_49 g2 dX1_isSentBefore_4 ?_
  refine Vw.aload_n (pc := 7) (x := x1) K dX1_isSentBefore_7 rfl ?_
  obtain ⟨g3, h⟩ := wgd h
  refine Vw.getR (pc := 8) (k := 3) (f := 67) K cls1 rfl rfl u_1_141 g3 dX1_isSentBefore_8 ?_
  obtain ⟨g4, h⟩ := wgd h
  refine Vw.getI (pc := 11) (k := 1) (f := 257) K cls4 rfl rfl u_1_49 g4 dX1_isSentBefore_11 ?_
  refine Vw.icmp_eq (pc := 14) (tgt := 40) K dX1_isSentBefore_14 (by decide) (fun c5 => ?_) (fun c5 => ?_)
  · have h := wpos c5 h
    refine Vw.aload_n (pc := 40) (x := x0) K dX1_isSentBefore_40 rfl ?_
    refine Vw.getI (pc := 41) (k := 7) (f := 71) K cls1 rfl rfl u_1_153 g1 dX1_isSentBefore_41 ?_
    refine Vw.aload_n (pc := 44) (x := x1) K dX1_isSentBefore_44 rfl ?_
    refine Vw.getI (pc := 45) (k := 7) (f := 71) K cls1 rfl rfl u_1_153 g3 dX1_isSentBefore_45 ?_
    refine Vw.icmp_ge (pc := 48) (tgt := 55) K dX1_isSentBefore_48 (by decide) (fun c6 => ?_) (fun c6 => ?_)
    · have h := wpos c6 h
      refine Vw.iconst (pc := 55) (v := (0 : Int32)) K (by decide) dX1_isSentBefore_55 ?_
      exact Vw.zretE (pc := 56) K (Or.inl rfl) (Option.some.inj h) rfl E (by decide) (by decide) dX1_isSentBefore_56
    · have h := wneg c6 h
      refine Vw.iconst (pc := 51) (v := (1 : Int32)) K (by decide) dX1_isSentBefore_51 ?_
      refine Vw.goto (pc := 52) (tgt := 56) K dX1_isSentBefore_52 (by decide) ?_
      exact Vw.zretE (pc := 56) K (Or.inr rfl) (Option.some.inj h) rfl E (by decide) (by decide) dX1_isSentBefore_56
  · have h := wneg c5 h
    refine Vw.aload_n (pc := 17) (x := x0) K dX1_isSentBefore_17 rfl ?_
    refine Vw.getR (pc := 18) (k := 3) (f := 67) K cls1 rfl rfl u_1_141 g1 dX1_isSentBefore_18 ?_
    refine Vw.getI (pc := 21) (k := 1) (f := 257) K cls4 rfl rfl u_1_49 g2 dX1_isSentBefore_21 ?_
    refine Vw.aload_n (pc := 24) (x := x1) K dX1_isSentBefore_24 rfl ?_
    refine Vw.getR (pc := 25) (k := 3) (f := 67) K cls1 rfl rfl u_1_141 g3 dX1_isSentBefore_25 ?_
    refine Vw.getI (pc := 28) (k := 1) (f := 257) K cls4 rfl rfl u_1_49 g4 dX1_isSentBefore_28 ?_
    refine Vw.icmp_le (pc := 31) (tgt := 38) K dX1_isSentBefore_31 (by decide) (fun c7 => ?_) (fun c7 => ?_)
    · have h := wpos c7 h
      refine Vw.iconst (pc := 38) (v := (0 : Int32)) K (by decide) dX1_isSentBefore_38 ?_
      exact Vw.zretE (pc := 39) K (Or.inl rfl) (Option.some.inj h) rfl E (by decide) (by decide) dX1_isSentBefore_39
    · have h := wneg c7 h
      refine Vw.iconst (pc := 34) (v := (1 : Int32)) K (by decide) dX1_isSentBefore_34 ?_
      refine Vw.goto (pc := 35) (tgt := 39) K dX1_isSentBefore_35 (by decide) ?_
      exact Vw.zretE (pc := 39) K (Or.inr rfl) (Option.some.inj h) rfl E (by decide) (by decide) dX1_isSentBefore_39
theorem cal_X1_isSentBefore : wCalV RX1 yX1_isSentBefore (.code yX1_isSentBefore cX1_isSentBefore 2 (some .boolean)) 1 := ⟨by decide +kernel, u_5_21, u_5_22, u_1_6, u_5_23⟩
def f_X1_mix (A : Hp) (x0 : Nat) (x1 : Int64) : Option (Int64) := if (hsh A x0).1 = 2 then if (hsh A (hgR A 64 x0 0)).1 = 5 then ((f_X6_mix A (hgR A 64 x0 0) x1).bind fun v4 => if (hsh A (hgR A 65 x0 0)).1 = 5 then ((f_X6_mix A (hgR A 65 x0 0) v4).bind fun v7 => if (hsh A (hgR A 66 x0 0)).1 = 5 then ((f_X6_mix A (hgR A 66 x0 0) v7).bind fun v10 => if (hsh A (hgR A 67 x0 0)).1 = 5 then ((f_X6_mix A (hgR A 67 x0 0) v10).bind fun v13 => some (((31 : Int64) * (((31 : Int64) * (((31 : Int64) * (((31 : Int64) * v13) + (hgL A 68 x0 0))) + (hgL A 69 x0 0))) + (hgL A 70 x0 0))) + ((hgI A 71 x0 0).toInt64))) else none) else none) else none) else none else none
set_option maxRecDepth 100000 in
theorem s_X1_mix {l : Launch} {g : GT} (hl : l.stackTraces = false) {A : Hp} {x0 : Nat} {x1 : Int64} {r : Int64} (h : f_X1_mix A x0 x1 = some r) : MetV l g yX1_mix (.code yX1_mix cX1_mix 5 (some .long)) [.inr (.inr x0), .inr (.inl x1)] A (.inl (some (.inr (.inl r)))) A 2 46 0 0 := by
  refine MetV.ofV hl (by decide +kernel) (Nat.le_of_ble_eq_true rfl) (fun κ K E => ?_)
  have K : Cx κ cX1_mix 5 RX1 2 46 0 0 := K
  have E : Ed κ (some .long) "mix" (.inl (some (.inr (.inl r)))) A 0 0 := E
  unfold f_X1_mix at h
  change Vw κ A 0 0 0 [(0, .inr (.inr x0)), (1, .inr (.inl x1))] []
  refine Vw.aload_n (pc := 0) (x := x0) K dX1_mix_0 rfl ?_
  obtain ⟨g1, h⟩ := wgd h
  refine Vw.getR (pc := 1) (k := 3) (f := 67) K cls1 rfl rfl u_1_141 g1 dX1_mix_1 ?_
  refine Vw.aload_n (pc := 4) (x := x0) K dX1_mix_4 rfl ?_
  refine Vw.getR (pc := 5) (k := 2) (f := 66) K cls1 rfl rfl u_1_138 g1 dX1_mix_5 ?_
  refine Vw.aload_n (pc := 8) (x := x0) K dX1_mix_8 rfl ?_
  refine Vw.getR (pc := 9) (k := 1) (f := 65) K cls1 rfl rfl u_1_135 g1 dX1_mix_9 ?_
  refine Vw.aload_n (pc := 12) (x := x0) K dX1_mix_12 rfl ?_
  refine Vw.getR (pc := 13) (k := 0) (f := 64) K cls1 rfl rfl u_1_132 g1 dX1_mix_13 ?_
  refine Vw.lload_n (pc := 16) (x := x1) K dX1_mix_16 rfl ?_
  obtain ⟨g2, h⟩ := wgd h
  obtain ⟨v4, e3, h⟩ := wbd h
  refine Vw.cV1 (pc := 17) (v := .inr (.inl v4)) (c' := 0) (n' := 0) K (s_X6_mix K.tr e3) cal_X6_mix cls4 u_3_19 g2 rfl ⟨by decide, by decide⟩ ⟨by decide, by decide⟩ rfl (Nat.le_of_ble_eq_true rfl) dX1_mix_17 rfl rfl ?_
  obtain ⟨g5, h⟩ := wgd h
  obtain ⟨v7, e6, h⟩ := wbd h
  refine Vw.cV1 (pc := 20) (v := .inr (.inl v7)) (c' := 0) (n' := 0) K (s_X6_mix K.tr e6) cal_X6_mix cls4 u_3_19 g5 rfl ⟨by decide, by decide⟩ ⟨by decide, by decide⟩ rfl (Nat.le_of_ble_eq_true rfl) dX1_mix_20 rfl rfl ?_
  obtain ⟨g8, h⟩ := wgd h
  obtain ⟨v10, e9, h⟩ := wbd h
  refine Vw.cV1 (pc := 23) (v := .inr (.inl v10)) (c' := 0) (n' := 0) K (s_X6_mix K.tr e9) cal_X6_mix cls4 u_3_19 g8 rfl ⟨by decide, by decide⟩ ⟨by decide, by decide⟩ rfl (Nat.le_of_ble_eq_true rfl) dX1_mix_23 rfl rfl ?_
  obtain ⟨g11, h⟩ := wgd h
  obtain ⟨v13, e12, h⟩ := wbd h
  refine Vw.cV1 (pc := 26) (v := .inr (.inl v13)) (c' := 0) (n' := 0) K (s_X6_mix K.tr e12) cal_X6_mix cls4 u_3_19 g11 rfl ⟨by decide, by decide⟩ ⟨by decide, by decide⟩ rfl (Nat.le_of_ble_eq_true rfl) dX1_mix_26 rfl rfl ?_
  refine Vw.lstore_n (pc := 29) K dX1_mix_29 (by decide) ?_
  refine Vw.ldc2 (pc := 30) (v := (31 : Int64)) K u_3_24 dX1_mix_30 ?_
  refine Vw.lload_n (pc := 33) (x := v13) K dX1_mix_33 rfl ?_
  refine Vw.lmul (pc := 34) K dX1_mix_34 ?_
  refine Vw.aload_n (pc := 35) (x := x0) K dX1_mix_35 rfl ?_
  refine Vw.getL (pc := 36) (k := 4) (f := 68) K cls1 rfl rfl u_1_144 g1 dX1_mix_36 ?_
  refine Vw.ladd (pc := 39) K dX1_mix_39 ?_
  refine Vw.lstore_n (pc := 40) K dX1_mix_40 (by decide) ?_
  refine Vw.ldc2 (pc := 41) (v := (31 : Int64)) K u_3_24 dX1_mix_41 ?_
  refine Vw.lload_n (pc := 44) (x := (((31 : Int64) * v13) + (hgL A 68 x0 0))) K dX1_mix_44 rfl ?_
  refine Vw.lmul (pc := 45) K dX1_mix_45 ?_
  refine Vw.aload_n (pc := 46) (x := x0) K dX1_mix_46 rfl ?_
  refine Vw.getL (pc := 47) (k := 5) (f := 69) K cls1 rfl rfl u_1_147 g1 dX1_mix_47 ?_
  refine Vw.ladd (pc := 50) K dX1_mix_50 ?_
  refine Vw.lstore_n (pc := 51) K dX1_mix_51 (by decide) ?_
  refine Vw.ldc2 (pc := 52) (v := (31 : Int64)) K u_3_24 dX1_mix_52 ?_
  refine Vw.lload_n (pc := 55) (x := (((31 : Int64) * (((31 : Int64) * v13) + (hgL A 68 x0 0))) + (hgL A 69 x0 0))) K dX1_mix_55 rfl ?_
  refine Vw.lmul (pc := 56) K dX1_mix_56 ?_
  refine Vw.aload_n (pc := 57) (x := x0) K dX1_mix_57 rfl ?_
  refine Vw.getL (pc := 58) (k := 6) (f := 70) K cls1 rfl rfl u_1_150 g1 dX1_mix_58 ?_
  refine Vw.ladd (pc := 61) K dX1_mix_61 ?_
  refine Vw.lstore_n (pc := 62) K dX1_mix_62 (by decide) ?_
  refine Vw.ldc2 (pc := 63) (v := (31 : Int64)) K u_3_24 dX1_mix_63 ?_
  refine Vw.lload_n (pc := 66) (x := (((31 : Int64) * (((31 : Int64) * (((31 : Int64) * v13) + (hgL A 68 x0 0))) + (hgL A 69 x0 0))) + (hgL A 70 x0 0))) K dX1_mix_66 rfl ?_
  refine Vw.lmul (pc := 67) K dX1_mix_67 ?_
  refine Vw.aload_n (pc := 68) (x := x0) K dX1_mix_68 rfl ?_
  refine Vw.getI (pc := 69) (k := 7) (f := 71) K cls1 rfl rfl u_1_153 g1 dX1_mix_69 ?_
  refine Vw.i2l (pc := 72) K dX1_mix_72 ?_
  refine Vw.ladd (pc := 73) K dX1_mix_73 ?_
  exact Vw.lretE (pc := 74) K (Option.some.inj h) rfl E (by decide) (by decide) dX1_mix_74
theorem cal_X1_mix : wCalV RX1 yX1_mix (.code yX1_mix cX1_mix 5 (some .long)) 1 := ⟨by decide +kernel, u_3_16, u_3_17, u_1_6, u_3_18⟩
