/-! the reference: a cookie goes; which are sent -/
def gon (ms : List CkV) (i : Nat) : List CkV := (ms.set i (cg ms (ms.length - 1))).take (ms.length - 1)
theorem gon_len (ms : List CkV) (i : Nat) : (gon ms i).length = ms.length - 1 := by
  unfold gon; rw [List.length_take, List.length_set]; omega
theorem gon_get {ms : List CkV} {i j : Nat} (hj : j < ms.length - 1) : cg (gon ms i) j = if j = i then cg ms (ms.length - 1) else cg ms j := by
  unfold gon cg
  rw [List.getD_eq_getElem?_getD, List.getElem?_take_of_lt hj, List.getElem?_set]
  by_cases h : i = j
  · rw [if_pos h, if_pos (by omega), if_pos h.symm]; rfl
  · rw [if_neg h, if_neg (fun z => h z.symm), List.getD_eq_getElem?_getD]
section
variable {A : Hp} {M : Nat} {v : JV} {ms : List CkV} {n : Nat}
theorem JM.goes (h : Ms A M) (hJ : JM (mu A M) v ms n) {i : Nat} (hi : i < ms.length) : ∃ B, f_X9_goes A M (nI i) = some B ∧ Eqx (oP M) A B ∧ JM (mu B M) v (gon ms i) n ∧ ∀ k, 8240 ≤ k → mu B M k = mu A M k := by
  obtain ⟨⟨⟨a0, a1, a2, a3⟩, a4, a5, a7, a8⟩, b, c, d1, d2, ⟨f1, f2⟩, hc, hl⟩ := hJ
  have h1 := h.set (i := 5) (x := lN (ms.length - 1))
  have e1 : Eqx (oP M) A (hsL A 1035 (M + 1) 5 (lN (ms.length - 1))) := Eqx.sL rfl
  obtain ⟨B, g1, g2, g3⟩ := h1.copies (f := 2500 + 140 * (ms.length - 1)) (n := 140) (t := 2500 + 140 * i) (by omega) (by omega) (by omega)
  have mB : ∀ k, mu B M k = if 2500 + 140 * i ≤ k ∧ k < 2500 + 140 * i + 140 then mu A M (2500 + 140 * (ms.length - 1) + (k - (2500 + 140 * i))) else if k = 5 then lN (ms.length - 1) else mu A M k := by
    intro k
    rw [g3, mu_set, mu_set]
    split
    · rw [if_neg (by omega)]
    · rfl
  have lo : ∀ k, k < 2500 → k ≠ 5 → mu B M k = mu A M k := fun k q1 q2 => by rw [mB, if_neg (by omega), if_neg q2]
  refine ⟨B, ?_, e1.tr g2, ⟨⟨⟨(lo 0 (by omega) (by omega)).trans a0, (lo 1 (by omega) (by omega)).trans a1, (lo 2 (by omega) (by omega)).trans a2, (lo 3 (by omega) (by omega)).trans a3⟩, (lo 4 (by omega) (by omega)).trans a4, ?_, (lo 7 (by omega) (by omega)).trans a7, (lo 8 (by omega) (by omega)).trans a8⟩, fun j hj => (lo _ (by omega) (by omega)).trans (b j hj), c.congr (lo 6 (by omega) (by omega)) (fun k q1 q2 => lo k (by omega) (by omega)), d1.congr (fun k q1 q2 => lo k (by omega) (by omega)), d2.congr (fun k q1 q2 => lo k (by omega) (by omega)), ⟨f1.congr (fun k q1 q2 => lo k (by omega) (by omega)), f2⟩, fun j hj => ?_, by rw [gon_len]; omega⟩, fun k hk => by rw [mB, if_neg (by omega), if_neg (by omega)]⟩
  · unfold f_X9_goes
    rw [show (5 : Int32) = nI 5 from rfl, h.gd (by omega), h.vl (by omega), a5, h.2.1, show lN ms.length - (1 : Int64) = lN (ms.length - 1) from lN_sub (b := 1) (by omega), if_pos (h.set (i := (nI 5).toNatClampNeg) (x := lN (ms.length - 1))).a11, if_pos ((h.set (i := (nI 5).toNatClampNeg) (x := lN (ms.length - 1))).wx (by omega)), nI_clamp (by omega), show hgL (hsL A 1035 (M + 1) 5 (lN (ms.length - 1))) 1035 (hgR (hsL A 1035 (M + 1) 5 (lN (ms.length - 1))) 448 M 0) 5 = lN (ms.length - 1) from (by rw [h1.2.1, hgL_sL, if_pos ⟨rfl, rfl, rfl⟩]), lN_i, ck_, Option.bind_some, ck_, Option.bind_some, show (140 : Int32) = nI 140 from rfl, g1, Option.bind_some]
  · rw [mB, if_neg (by omega), if_pos rfl, gon_len]
  · rw [gon_len] at hj
    rw [gon_get hj]
    by_cases hq : j = i
    · rw [if_pos hq, hq]
      exact (hc (ms.length - 1) (by omega)).move (fun k hk => by rw [mB, if_pos (by omega), show 2500 + 140 * (ms.length - 1) + (2500 + 140 * i + k - (2500 + 140 * i)) = 2500 + 140 * (ms.length - 1) + k by omega])
    · rw [if_neg hq]
      exact (hc j (by omega)).congr (fun k q1 q2 => by rw [mB, if_neg (by omega), if_neg (by omega)])
theorem jsK_get (v : JV) (i m j : Nat) : jK (jsK v i m) j = if j = i then jK v i + m else jK v j := rfl
theorem JM.cnt (h : Ms A M) (hJ : JM (mu A M) v ms n) {e : Nat} (he : e < 7) (m : Nat) : JM (mu (hsL A 1035 (M + 1) (10 + e) (lN (jK v e + m))) M) (jsK v e m) ms n := by
  obtain ⟨⟨⟨a0, a1, a2, a3⟩, a4, a5, a7, a8⟩, b, c, d1, d2, ⟨f1, f2⟩, hc, hl⟩ := hJ
  have lo : ∀ k, k ≠ 10 + e → mu (hsL A 1035 (M + 1) (10 + e) (lN (jK v e + m))) M k = mu A M k := fun k q => by rw [mu_set, if_neg q]
  refine ⟨⟨⟨(lo 0 (by omega)).trans a0, (lo 1 (by omega)).trans a1, (lo 2 (by omega)).trans a2, (lo 3 (by omega)).trans a3⟩, (lo 4 (by omega)).trans a4, (lo 5 (by omega)).trans a5, (lo 7 (by omega)).trans a7, (lo 8 (by omega)).trans a8⟩, fun j hj => ?_, c.congr (lo 6 (by omega)) (fun k q1 q2 => lo k (by omega)), d1.congr (fun k q1 q2 => lo k (by omega)), d2.congr (fun k q1 q2 => lo k (by omega)), ⟨f1.congr (fun k q1 q2 => lo k (by omega)), f2⟩, fun j hj => (hc j hj).congr (fun k q1 q2 => lo k (by omega)), hl⟩
  rw [mu_set, jsK_get]
  by_cases q : j = e
  · rw [if_pos (by omega), if_pos q]
  · rw [if_neg (by omega), if_neg q]; exact b j hj
theorem JM.happens (h : Ms A M) (hJ : JM (mu A M) v ms n) {e : Nat} (he : e < 7) (x : Int32) : f_X9_happens A M (nI e) x = some (x, hsL A 1035 (M + 1) (10 + e) (lN (jK v e + 1))) := by
  unfold f_X9_happens
  rw [show (10 : Int32) + nI e = nI (10 + e) from nI_add 10 e, h.gd (by omega), h.vl (by omega), show mu A M (10 + e) = _ from hJ.2.1 e he, lN_1, h.2.1, nI_clamp (by omega)]
theorem JM.isOneSite (h : Ms A M) (hJ : JM (mu A M) v ms n) : f_X9_isOneSite A M = some (bI (!(crs v))) := by
  obtain ⟨-, -, hU, hG, hR, -⟩ := hJ
  have l1 := hG.2.2.2
  have l2 := hR.2.2.2
  unfold f_X9_isOneSite k_X9_isOneSite_59 crs
  rw [show (22 : Int32) = nI 22 from rfl, show (102 : Int32) = nI 102 from rfl, h.gd (by omega), if_pos (h.wx (by omega)), h.vl (by omega), h.vl (by omega), show mu A M 22 = _ from hG.1.2.2.1, show mu A M 102 = _ from hR.1.2.2.1, lN_i, lN_i, show (24 : Int32) = nI (20 + 4) from rfl, show (104 : Int32) = nI (100 + 4) from rfl, h.areOneSite hU hG.2.1 hR.2.1 (by omega) (by omega), Option.bind_some, show (20 : Int32) = nI 20 from rfl, show (21 : Int32) = nI 21 from rfl, show (101 : Int32) = nI 101 from rfl, if_pos (h.wx (by omega)), if_pos (h.wx (by omega)), if_pos (h.wx (by omega)), h.vl (by omega), h.vl (by omega), h.vl (by omega), show mu A M 20 = _ from hG.1.1, show mu A M 21 = _ from hG.1.2.1, show mu A M 101 = _ from hR.1.2.1]
  cases (jG v).1
  · rw [if_pos (by rfl)]; rfl
  · rw [if_neg (by decide), Bool.true_and]
    cases sameSt (jU v) (jG v).2.2.1 (jR v).2.2.1
    · rw [if_pos (by rfl), Bool.not_false, Bool.or_true]; rfl
    · rw [if_neg (by decide), Bool.not_true, Bool.or_false]
      by_cases q : (jG v).2.1 = (jR v).2.1
      · rw [if_pos (lB_eq.mpr q), decide_eq_false (fun z => z q)]; rfl
      · rw [if_neg (fun z => q (lB_eq.mp z)), decide_eq_true q]; rfl
theorem JM.isSent (h : Ms A M) (hJ : JM (mu A M) v ms n) {a : Nat} {c : CkV} (hc : CkM (mu A M) a c) (ha : a + 140 ≤ 9000) (ho : okv c) (nav sc : Bool) : f_X9_isSent A M (nI a) (bI nav) (bI sc) = some (bI (gos v c (crs v) nav sc)) := by
  have hos := hJ.isOneSite h
  obtain ⟨-, -, hU, hG, hR, -⟩ := hJ
  have l2 := hR.2.2.2
  have lc := hc.2.2.2.2
  obtain ⟨-, hP, -, hL, -⟩ := ho
  have hl : f_X9_hostLong A M = some (nI (jR v).2.2.1.length) := by
    unfold f_X9_hostLong
    rw [show (102 : Int32) = nI 102 from rfl, h.gd (by omega), h.vl (by omega), show mu A M 102 = _ from hR.1.2.2.1, lN_i]
  have k175 : ∀ x y z w : Bool, k_X9_isSent_175 A M (nI a) (bI x) (bI y) (bI z) (bI w) = some (bI (x && (y && (z && (w && pm (jR v).2.2.2 (cP c)))))) := by
    intro x y z w
    unfold k_X9_isSent_175
    rw [show (103 : Int32) = nI 103 from rfl, show nI a + (3 : Int32) = nI (a + 3) from nI_add a 3, show nI a + (92 : Int32) = nI (a + 92) from nI_add a 92, h.gd (by omega), if_pos (h.wx (by omega)), h.vl (by omega), h.vl (by omega), show mu A M 103 = _ from hR.1.2.2.2, show mu A M (a + 3) = _ from hc.1.2.2.2, lN_i, lN_i, show (134 : Int32) = nI (100 + 34) from rfl, h.pathMatches hR.2.2.1 hc.2.2.2.1.2.2.2 (by omega) (by omega) hP, Option.bind_some]
    cases x
    · rfl
    cases y
    · rfl
    cases z
    · rfl
    cases w
    · rfl
    cases pm (jR v).2.2.2 (cP c) <;> rfl
  have k129 : ∀ x y z : Bool, k_X9_isSent_129 A M (nI a) (bI nav) (bI x) (bI y) (bI z) = some (bI (x && (y && (z && ((!(crs v) || decide (cL c = 0) || (decide (cL c = 1) && nav)) && pm (jR v).2.2.2 (cP c)))))) := by
    intro x y z
    unfold k_X9_isSent_129 k_X9_isSent_170 k_X9_isSent_174
    rw [show nI a + (11 : Int32) = nI (a + 11) from nI_add a 11, h.gd (by omega), h.vl (by omega), show mu A M (a + 11) = _ from hc.2.2.1.2.2.2.1, hos, Option.bind_some]
    by_cases q0 : cL c = 0
    · rw [if_pos (show lN (cL c) = (0 : Int64) by rw [q0]; rfl), decide_eq_true q0, Bool.or_true, Bool.true_or]
      exact k175 x y z true
    · rw [if_neg (show ¬ lN (cL c) = (0 : Int64) from fun w => q0 ((lN_eq (b := 0) (by omega) (by omega)).mp w)), decide_eq_false q0, Bool.or_false]
      cases crs v
      · rw [Bool.not_false, if_neg (by decide), Bool.true_or]
        exact k175 x y z true
      · rw [Bool.not_true, if_pos (by rfl), Bool.false_or]
        by_cases q1 : cL c = 1
        · rw [if_pos (show lN (cL c) = (1 : Int64) by rw [q1]; rfl), decide_eq_true q1, Bool.true_and]
          cases nav
          · rw [if_pos (by rfl)]; exact k175 x y z false
          · rw [if_neg (by decide)]; exact k175 x y z true
        · rw [if_neg (show ¬ lN (cL c) = (1 : Int64) from fun w => q1 ((lN_eq (b := 1) (by omega) (by omega)).mp w)), decide_eq_false q1, Bool.false_and]
          exact k175 x y z false
  have k104 : ∀ x y : Bool, k_X9_isSent_104 A M (nI a) (bI nav) (bI sc) (bI x) (bI y) = some (bI (x && (y && (!(cO c && sc) && ((!(crs v) || decide (cL c = 0) || (decide (cL c = 1) && nav)) && pm (jR v).2.2.2 (cP c)))))) := by
    intro x y
    unfold k_X9_isSent_104 k_X9_isSent_124
    rw [show nI a + (10 : Int32) = nI (a + 10) from nI_add a 10, h.gd (by omega), h.vl (by omega), show mu A M (a + 10) = _ from hc.2.2.1.2.2.1]
    cases cO c
    · rw [if_pos (by rfl)]; exact k129 x y true
    · rw [if_neg (by decide)]
      cases sc
      · rw [if_pos (by rfl)]; exact k129 x y true
      · rw [if_neg (by decide)]; exact k129 x y false
  have k71 : ∀ x : Bool, k_X9_isSent_71 A M (nI a) (bI nav) (bI sc) (bI x) = some (bI (x && (!(cX c && !(jR v).2.1) && (!(cO c && sc) && ((!(crs v) || decide (cL c = 0) || (decide (cL c = 1) && nav)) && pm (jR v).2.2.2 (cP c)))))) := by
    intro x
    unfold k_X9_isSent_71 k_X9_isSent_99
    rw [show nI a + (9 : Int32) = nI (a + 9) from nI_add a 9, h.gd (by omega), h.vl (by omega), show mu A M (a + 9) = _ from hc.2.2.1.2.1, show (101 : Int32) = nI 101 from rfl, if_pos (h.wx (by omega)), h.vl (by omega), show mu A M 101 = _ from hR.1.2.1]
    cases cX c
    · rw [if_pos (by rfl)]; exact k104 x true
    · rw [if_neg (by decide)]
      cases (jR v).2.1
      · rw [if_neg (by decide)]; exact k104 x false
      · rw [if_pos (by rfl)]; exact k104 x true
  unfold f_X9_isSent gos
  rw [if_pos h.1, hl, Option.bind_some, if_pos h.a11, show nI a + (2 : Int32) = nI (a + 2) from nI_add a 2, show nI a + (62 : Int32) = nI (a + 62) from nI_add a 62, show nI a + (8 : Int32) = nI (a + 8) from nI_add a 8, if_pos (h.wx (by omega)), h.vl (by omega), show mu A M (a + 2) = _ from hc.1.2.2.1, lN_i, show (104 : Int32) = nI (100 + 4) from rfl, h.areLike hR.2.1 hc.2.2.2.1.2.2.1 (by omega) (by omega), Option.bind_some, if_pos (h.wx (by omega)), h.vl (by omega), show mu A M (a + 8) = _ from hc.2.2.1.1, Option.bind_some, h.matches hR.2.1 hc.2.2.2.1.2.2.1 (by omega) (by omega), Option.bind_some, k71, k71]
  have sw : ∀ x y z w p : Bool, (x && (y && (z && (w && p)))) = (x && (p && (y && (z && w)))) := by decide
  cases cH c
  · rw [if_neg (by decide), if_neg (by decide), sw]
  · rw [if_pos (by rfl), if_pos rfl, sw]
end
