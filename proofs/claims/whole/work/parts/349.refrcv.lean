/-! the reference: receiving -/
def RfE (A B : Hp) (M : Nat) : Prop := Eqx (fun q => q = M ∨ q = M + 1) A B ∧ ∀ f, hgR B f M 0 = hgR A f M 0
section
variable {A B C : Hp} {M : Nat}
theorem RfE.rf : RfE A A M := ⟨Eqx.rf, fun _ => rfl⟩
theorem RfE.tr (h : RfE A B M) (k : RfE B C M) : RfE A C M := ⟨h.1.tr k.1, fun f => (k.2 f).trans (h.2 f)⟩
theorem RcE.fe (h : RcE A B M) : RfE A B M := ⟨h.1, h.2.1⟩
theorem Eqx.fe (e : Eqx (oP M) A B) : RfE A B M := ⟨e.mo (fun q z => Or.inr z), fun f => e.R (show ¬ M = M + 1 by omega) f 0⟩
theorem RfE.sI {f : Nat} {x : Int32} : RfE A (hsI A f M 0 x) M := ⟨Eqx.sI (Or.inl rfl), fun _ => rfl⟩
theorem RfE.sL {i : Nat} {x : Int64} : RfE A (hsL A 1035 (M + 1) i x) M := ⟨Eqx.sL (Or.inr rfl), fun _ => rfl⟩
theorem Ms.fe (h : Ms A M) (e : RfE A B M) : Ms B M := ⟨by rw [e.1.2.1]; exact h.1, by rw [e.2]; exact h.2.1, by rw [e.1.2.1]; exact h.2.2⟩
theorem Mw.fe (h : Mw A M) (e : RfE A B M) : Mw B M := fun k hk => by
  obtain ⟨h1, h2, h3⟩ := h k hk
  exact ⟨by rw [e.2]; exact h1, by rw [e.1.2.1]; exact h2, fun i hi => by rw [e.1.I (by omega)]; exact h3 i hi⟩
end
theorem JM.put {μ ν : Nat → Int64} {v : JV} {ms ms' : List CkV} {n i : Nat} {f : CkV} (hJ : JM μ v ms n) (hc : CkM μ 8600 f) (hi : i ≤ 40) (hl : ms'.length ≤ 41) (hν : ∀ k, ν k = if k = 5 then lN ms'.length else if 2500 + 140 * i ≤ k ∧ k < 2500 + 140 * i + 140 then μ (8600 + (k - (2500 + 140 * i))) else μ k) (hg : ∀ j, j < ms'.length → (j = i ∧ cg ms' j = f) ∨ (j ≠ i ∧ j < ms.length ∧ cg ms' j = cg ms j)) : JM ν v ms' n := by
  obtain ⟨⟨⟨a0, a1, a2, a3⟩, a4, a5, a7, a8⟩, b, c, d1, d2, ⟨f1, f2⟩, hc0, hl0⟩ := hJ
  have lo : ∀ k, k ≠ 5 → k < 2500 → ν k = μ k := fun k q1 q2 => by rw [hν, if_neg q1, if_neg (by omega)]
  refine ⟨⟨⟨(lo 0 (by omega) (by omega)).trans a0, (lo 1 (by omega) (by omega)).trans a1, (lo 2 (by omega) (by omega)).trans a2, (lo 3 (by omega) (by omega)).trans a3⟩, (lo 4 (by omega) (by omega)).trans a4, by rw [hν, if_pos rfl], (lo 7 (by omega) (by omega)).trans a7, (lo 8 (by omega) (by omega)).trans a8⟩, fun j hj => (lo _ (by omega) (by omega)).trans (b j hj), c.congr (lo 6 (by omega) (by omega)) (fun k q1 q2 => lo k (by omega) (by omega)), d1.congr (fun k q1 q2 => lo k (by omega) (by omega)), d2.congr (fun k q1 q2 => lo k (by omega) (by omega)), ⟨f1.congr (fun k q1 q2 => lo k (by omega) (by omega)), f2⟩, fun j hj => ?_, hl⟩
  rcases hg j hj with ⟨z1, z2⟩ | ⟨z1, z2, z3⟩
  · rw [z2, z1]
    exact hc.move (fun k hk => by rw [hν, if_neg (by omega), if_pos (by omega), show 8600 + (2500 + 140 * i + k - (2500 + 140 * i)) = 8600 + k by omega])
  · rw [z3]
    exact (hc0 j z2).congr (fun k q1 q2 => by rw [hν, if_neg (by omega), if_neg (by omega)])
theorem JM.one {μ ν : Nat → Int64} {v w : JV} {ms : List CkV} {n n' p : Nat} (hJ : JM μ v ms n) (hp : p = 1 ∨ p = 7) (hν : ∀ k, k ≠ p → ν k = μ k) (h1 : ν 1 = lN n') (h7 : ν 7 = lN (jX w)) (hw : w = jsX v (jX w)) : JM ν w ms n' := by
  obtain ⟨⟨⟨a0, a1, a2, a3⟩, a4, a5, a7, a8⟩, b, c, d1, d2, ⟨f1, f2⟩, hc0, hl0⟩ := hJ
  rw [hw]
  refine ⟨⟨⟨(hν 0 (by omega)).trans a0, h1, (hν 2 (by omega)).trans a2, (hν 3 (by omega)).trans a3⟩, (hν 4 (by omega)).trans a4, (hν 5 (by omega)).trans a5, h7, (hν 8 (by omega)).trans a8⟩, fun j hj => (hν _ (by omega)).trans (b j hj), c.congr (hν 6 (by omega)) (fun k q1 q2 => hν k (by omega)), d1.congr (fun k q1 q2 => hν k (by omega)), d2.congr (fun k q1 q2 => hν k (by omega)), ⟨f1.congr (fun k q1 q2 => hν k (by omega)), f2⟩, fun j hj => (hc0 j hj).congr (fun k q1 q2 => hν k (by omega)), hl0⟩
section
variable {A : Hp} {M : Nat} {v : JV} {ms : List CkV} {n : Nat} {f : CkV}
theorem JM.setX (hJ : JM (mu A M) v ms n) (x : Nat) : JM (mu (hsL A 1035 (M + 1) 7 (lN x)) M) (jsX v x) ms n :=
  hJ.one (p := 7) (Or.inr rfl) (fun k hk => by rw [mu_set, if_neg hk]) (by rw [mu_set, if_neg (by omega)]; exact hJ.1.1.2.1) (by rw [mu_set, if_pos rfl]; rfl) rfl
theorem jsX_self (v : JV) : jsX v (jX v) = v := rfl
theorem JM.setN (hJ : JM (mu A M) v ms n) (n' : Nat) : JM (mu (hsL A 1035 (M + 1) 1 (lN n')) M) v ms n' :=
  hJ.one (p := 1) (Or.inl rfl) (fun k hk => by rw [mu_set, if_neg hk]) (by rw [mu_set, if_pos rfl]) (by rw [mu_set, if_neg (by omega)]; exact hJ.1.2.2.2.1) rfl
def FlC (A : Hp) (M : Nat) (f : CkV) : Prop := mu A M 8609 = lB (cX f) ∧ mu A M 8610 = lB (cO f) ∧ mu A M 8611 = lN (cL f) ∧ mu A M 8612 = lN (cR f)
/-- the evicting and the counting at the end -/
theorem JM.rc252 {o : Bool} {x4 : Int32} {t2 t3 z : Int64} {s : Nat} (h : Ms A M) (hz : t2 + t3 = z) (hJ : JM (mu (hsL A 1035 (M + 1) 5 z) M) v ms n) (ho : okm ms) (hp : jP v ≤ 3) (h0 : 1 ≤ jL v 0 ∧ jL v 0 < 1000) (h1 : 1 ≤ jL v 1 ∧ jL v 1 < 1000) (hf : KyM (mu (hsL A 1035 (M + 1) 5 z) M) 8600 f) (hs : mu (hsL A 1035 (M + 1) 5 z) M 8607 = lN s) (hs2 : s < 100000) (hx : (0 : Int32) ≤ x4 ↔ o = true) : ∃ B, k_X9_receive_252 A M x4 (M + 1) 5 t2 t3 = some (nI (if o then 2 else 1), B) ∧ Eqx (oP M) A B ∧ JM (mu B M) (jsK (jsK v 4 (evM v ms f s).2) (if o then 1 else 0) 1) (evM v ms f s).1 n := by
  have e1 : Eqx (oP M) A (hsL A 1035 (M + 1) 5 z) := Eqx.sL rfl
  have h' : Ms (hsL A 1035 (M + 1) 5 z) M := h.set
  unfold k_X9_receive_252
  rw [h.2.2, if_pos rfl, show (5 : Int32) = nI 5 from rfl, if_pos ((nI_wix (by omega)).mpr (show 5 < 9000 by omega)), nI_clamp (by omega), hz]
  generalize hsL A 1035 (M + 1) 5 z = A' at *
  obtain ⟨B, b1, b2, b3, b4⟩ := hJ.evicts h' hs2 ho hp h0 h1 hf
  have hB : Ms B M := h'.eq b2 (show ¬ M = M + 1 by omega)
  rw [show (8607 : Int32) = nI 8607 from rfl, h'.gd (by omega), h'.vl (by omega), hs, b1, Option.bind_some]
  cases o with
  | true =>
    rw [if_pos (hx.mpr rfl), if_pos hB.1, show f_X9_happens B M (1 : Int32) (2 : Int32) = _ from JM.happens hB b3 (e := 1) (by omega) 2, Option.bind_some]
    exact ⟨_, rfl, (e1.tr b2).tr (Eqx.sL rfl), b3.cnt hB (e := 1) (by omega) 1⟩
  | false =>
    rw [if_neg (fun z => Bool.false_ne_true (hx.mp z)), if_pos hB.1, show f_X9_happens B M (0 : Int32) (1 : Int32) = _ from JM.happens hB b3 (e := 0) (by omega) 1, Option.bind_some]
    exact ⟨_, rfl, (e1.tr b2).tr (Eqx.sL rfl), b3.cnt hB (e := 0) (by omega) 1⟩
theorem KyM.ck {μ : Nat → Int64} (h : KyM μ 8600 f) (h1 : μ 8604 = cE f ∧ μ 8605 = cC f ∧ μ 8606 = cA f ∧ μ 8607 = lN (cS f)) (h2 : μ 8609 = lB (cX f) ∧ μ 8610 = lB (cO f) ∧ μ 8611 = lN (cL f) ∧ μ 8612 = lN (cR f)) : CkM μ 8600 f := ⟨h.1, h1, ⟨h.2.1, h2⟩, h.2.2.1, h.2.2.2⟩
/-- a cookie is created -/
theorem JM.rcNew (h : Ms A M) (hJ : JM (mu A M) v ms n) (hk : KyM (mu A M) 8600 f) (hfl : FlC A M f) (hE : mu A M 8604 = cE f) (hA : mu A M 8606 = cA f) (hS : cS f = n) (hl : ms.length ≤ 40) (ho : okm (ms ++ [f])) (hp : jP v ≤ 3) (h0 : 1 ≤ jL v 0 ∧ jL v 0 < 1000) (h1 : 1 ≤ jL v 1 ∧ jL v 1 < 1000) (hn : n < 100000) : ∃ B, k_X9_receive_150 A M (-1) (M + 1) 8605 (cC f) = some (nI 1, B) ∧ Eqx (oP M) A B ∧ JM (mu B M) (jsK (jsK v 4 (evM v (ms ++ [f]) f n).2) 0 1) (evM v (ms ++ [f]) f n).1 (n + 1) := by
  have hm : ¬ (0 : Int32) ≤ -1 := by decide
  -- created
  have e1 : Eqx (oP M) A (hsL A 1035 (M + 1) 8605 (cC f)) := Eqx.sL rfl
  have g1 : Ms (hsL A 1035 (M + 1) 8605 (cC f)) M := h.set
  have m1 : ∀ k, mu (hsL A 1035 (M + 1) 8605 (cC f)) M k = if k = 8605 then cC f else mu A M k := fun k => by rw [mu_set]
  unfold k_X9_receive_150
  rw [h.2.2, if_pos rfl, show (8605 : Int32) = nI 8605 from rfl, if_pos ((nI_wix (by omega)).mpr (show 8605 < 9000 by omega)), nI_clamp (by omega)]
  generalize hsL A 1035 (M + 1) 8605 (cC f) = A1 at *
  rw [if_pos g1.1, if_neg hm, if_pos g1.a11, if_pos (show wix (1 : Int32) _ from g1.wx (i := 1) (by omega)), show hgL A1 1035 (hgR A1 448 M 0) (1 : Int32).toNatClampNeg = lN n from (g1.vl (i := 1) (by omega)).trans (by rw [m1, if_neg (by omega)]; exact hJ.1.1.2.1), g1.2.1]
  -- serial
  have e2 : Eqx (oP M) A1 (hsL A1 1035 (M + 1) 8607 (lN n)) := Eqx.sL rfl
  have g2 : Ms (hsL A1 1035 (M + 1) 8607 (lN n)) M := g1.set
  have m2 : ∀ k, mu (hsL A1 1035 (M + 1) 8607 (lN n)) M k = if k = 8607 then lN n else mu A1 M k := fun k => by rw [mu_set]
  unfold k_X9_receive_185
  rw [g1.2.2, if_pos rfl, show (8607 : Int32) = nI 8607 from rfl, if_pos ((nI_wix (by omega)).mpr (show 8607 < 9000 by omega)), nI_clamp (by omega)]
  generalize hsL A1 1035 (M + 1) 8607 (lN n) = A2 at *
  rw [if_pos g2.1, if_pos g2.a11, if_pos (show wix (1 : Int32) _ from g2.wx (i := 1) (by omega)), if_neg hm, show hgL A2 1035 (hgR A2 448 M 0) (1 : Int32).toNatClampNeg = lN n from (g2.vl (i := 1) (by omega)).trans (by rw [m2, if_neg (by omega), m1, if_neg (by omega)]; exact hJ.1.1.2.1), g2.2.1]
  have m12 : ∀ k, mu A2 M k = if k = 8607 then lN n else if k = 8605 then cC f else mu A M k := fun k => by rw [m2, m1]
  have hJ2 : JM (mu A2 M) v ms n := hJ.congr (fun k hk => by rw [m12, if_neg (by omega), if_neg (by omega)])
  -- the next serial number
  have e3 : Eqx (oP M) A2 (hsL A2 1035 (M + 1) 1 (lN (n + 1))) := Eqx.sL rfl
  have g3 : Ms (hsL A2 1035 (M + 1) 1 (lN (n + 1))) M := g2.set
  have hJ3 : JM (mu (hsL A2 1035 (M + 1) 1 (lN (n + 1))) M) v ms (n + 1) := hJ2.setN (n + 1)
  have m3 : ∀ k, 8600 ≤ k → mu (hsL A2 1035 (M + 1) 1 (lN (n + 1))) M k = mu A2 M k := fun k hk => by rw [mu_set, if_neg (by omega)]
  unfold k_X9_receive_203
  rw [g2.2.2, if_pos rfl, if_pos (show wix (1 : Int32) ((11, 9000) : Nat × Nat).2 from (nI_wix (i := 1) (by omega)).mpr (show 1 < 9000 by omega)), show (1 : Int32).toNatClampNeg = 1 by decide, if_neg hm, lN_1]
  generalize hsL A2 1035 (M + 1) 1 (lN (n + 1)) = A3 at *
  have m13 : ∀ k, 8600 ≤ k → mu A3 M k = if k = 8607 then lN n else if k = 8605 then cC f else mu A M k := fun k hk => by rw [m3 k hk, m12]
  have hk3 : KyM (mu A3 M) 8600 f := hk.congr (fun k q1 q2 q3 => by rw [m13 k (by omega), if_neg (by omega), if_neg (by omega)])
  have hc3 : CkM (mu A3 M) 8600 f := hk3.ck ⟨by rw [m13 _ (by omega), if_neg (by omega), if_neg (by omega)]; exact hE, by rw [m13 _ (by omega), if_neg (by omega), if_pos rfl], by rw [m13 _ (by omega), if_neg (by omega), if_neg (by omega)]; exact hA, by rw [m13 _ (by omega), if_pos rfl, hS]⟩ ⟨by rw [m13 _ (by omega), if_neg (by omega), if_neg (by omega)]; exact hfl.1, by rw [m13 _ (by omega), if_neg (by omega), if_neg (by omega)]; exact hfl.2.1, by rw [m13 _ (by omega), if_neg (by omega), if_neg (by omega)]; exact hfl.2.2.1, by rw [m13 _ (by omega), if_neg (by omega), if_neg (by omega)]; exact hfl.2.2.2⟩
  rw [show (5 : Int32) = nI 5 from rfl, g3.gd (by omega), g3.vl (by omega), show mu A3 M 5 = lN ms.length from hJ3.1.2.2.1, lN_i]
  -- the copy
  obtain ⟨A4, q1, q2, q3⟩ := g3.copies (f := 8600) (n := 140) (t := 2500 + 140 * ms.length) (by omega) (by omega) (by omega)
  have g4 : Ms A4 M := g3.eq q2 (show ¬ M = M + 1 by omega)
  unfold k_X9_receive_229
  rw [ck_, Option.bind_some, if_pos g3.1, show (8600 : Int32) = nI 8600 from rfl, show (140 : Int32) = nI 140 from rfl, q1, Option.bind_some, show (5 : Int32) = nI 5 from rfl, g4.gd (by omega), if_neg hm, g4.vl (by omega), show mu A4 M 5 = lN ms.length from (by rw [q3, if_neg (by omega)]; exact hJ3.1.2.2.1), g4.2.1]
  have hν : ∀ k, mu (hsL A4 1035 (M + 1) 5 (lN (ms.length + 1))) M k = if k = 5 then lN (ms ++ [f]).length else if 2500 + 140 * ms.length ≤ k ∧ k < 2500 + 140 * ms.length + 140 then mu A3 M (8600 + (k - (2500 + 140 * ms.length))) else mu A3 M k := fun k => by rw [mu_set, q3, List.length_append]; rfl
  have hJ5 : JM (mu (hsL A4 1035 (M + 1) 5 (lN (ms.length + 1))) M) v (ms ++ [f]) (n + 1) := hJ3.put hc3 (i := ms.length) (by omega) (by rw [List.length_append]; show ms.length + 1 ≤ 41; omega) hν (fun j hj => by
    rw [List.length_append] at hj
    have hj : j < ms.length + 1 := hj
    by_cases z : j = ms.length
    · refine Or.inl ⟨z, ?_⟩
      rw [z]; simp [cg]
    · refine Or.inr ⟨z, by omega, ?_⟩
      simp only [cg, List.getD_eq_getElem?_getD]
      rw [List.getElem?_append_left (by omega)])
  have up : ∀ k, 8600 ≤ k → mu (hsL A4 1035 (M + 1) 5 (lN (ms.length + 1))) M k = mu A3 M k := fun k hk => by rw [hν, if_neg (by omega), if_neg (by omega)]
  obtain ⟨B, b1, b2, b3⟩ := JM.rc252 (o := false) (x4 := -1) (t2 := lN ms.length) (t3 := 1) (z := lN (ms.length + 1)) (s := n) g4 (lN_1 _) hJ5 ho hp h0 h1 (hk3.congr (fun k z1 z2 z3 => up k (by omega))) (by rw [up _ (by omega), m13 _ (by omega), if_pos rfl]) hn ⟨fun z => absurd z hm, fun z => by cases z⟩
  exact ⟨B, b1, (((e1.tr e2).tr e3).tr q2).tr b2, b3⟩
/-- a cookie is replaced -/
theorem JM.rcOld {i : Nat} (h : Ms A M) (hJ : JM (mu A M) v ms n) (hk : KyM (mu A M) 8600 f) (hfl : FlC A M f) (hE : mu A M 8604 = cE f) (hA : mu A M 8606 = cA f) (hi : i < ms.length) (hC : cC f = cC (cg ms i)) (hS : cS f = cS (cg ms i)) (ho : okm (ms.set i f)) (hp : jP v ≤ 3) (h0 : 1 ≤ jL v 0 ∧ jL v 0 < 1000) (h1 : 1 ≤ jL v 1 ∧ jL v 1 < 1000) (hn : cS f < 100000) : ∃ B, k_X9_receive_150 A M (nI i) (M + 1) 8605 (cC f) = some (nI 2, B) ∧ Eqx (oP M) A B ∧ JM (mu B M) (jsK (jsK v 4 (evM v (ms.set i f) f (cS f)).2) 1 1) (evM v (ms.set i f) f (cS f)).1 n := by
  have hml := hJ.2.2.2.2.2.2.2
  have hm : (0 : Int32) ≤ nI i := nI_pos' (by omega)
  have hci := hJ.2.2.2.2.2.2.1 i hi
  -- created
  have e1 : Eqx (oP M) A (hsL A 1035 (M + 1) 8605 (cC f)) := Eqx.sL rfl
  have g1 : Ms (hsL A 1035 (M + 1) 8605 (cC f)) M := h.set
  have m1 : ∀ k, mu (hsL A 1035 (M + 1) 8605 (cC f)) M k = if k = 8605 then cC f else mu A M k := fun k => by rw [mu_set]
  unfold k_X9_receive_150
  rw [h.2.2, if_pos rfl, show (8605 : Int32) = nI 8605 from rfl, if_pos ((nI_wix (by omega)).mpr (show 8605 < 9000 by omega)), nI_clamp (by omega)]
  generalize hsL A 1035 (M + 1) 8605 (cC f) = A1 at *
  rw [if_pos g1.1, if_pos hm, ck_, Option.bind_some, show nI (2500 + 140 * i) + (7 : Int32) = nI (2500 + 140 * i + 7) from nI_add _ 7, if_pos g1.a11, if_pos (g1.wx (by omega)), g1.vl (by omega), show mu A1 M (2500 + 140 * i + 7) = lN (cS f) from (by rw [m1, if_neg (by omega), hS]; exact hci.2.1.2.2.2), g1.2.1]
  -- serial
  have e2 : Eqx (oP M) A1 (hsL A1 1035 (M + 1) 8607 (lN (cS f))) := Eqx.sL rfl
  have g2 : Ms (hsL A1 1035 (M + 1) 8607 (lN (cS f))) M := g1.set
  have m2 : ∀ k, mu (hsL A1 1035 (M + 1) 8607 (lN (cS f))) M k = if k = 8607 then lN (cS f) else mu A1 M k := fun k => by rw [mu_set]
  unfold k_X9_receive_185
  rw [g1.2.2, if_pos rfl, show (8607 : Int32) = nI 8607 from rfl, if_pos ((nI_wix (by omega)).mpr (show 8607 < 9000 by omega)), nI_clamp (by omega)]
  generalize hsL A1 1035 (M + 1) 8607 (lN (cS f)) = A2 at *
  rw [if_pos g2.1, if_pos g2.a11, if_pos (show wix (1 : Int32) _ from g2.wx (i := 1) (by omega)), if_pos hm, show hgL A2 1035 (hgR A2 448 M 0) (1 : Int32).toNatClampNeg = lN n from (g2.vl (i := 1) (by omega)).trans (by rw [m2, if_neg (by omega), m1, if_neg (by omega)]; exact hJ.1.1.2.1), g2.2.1]
  have m12 : ∀ k, mu A2 M k = if k = 8607 then lN (cS f) else if k = 8605 then cC f else mu A M k := fun k => by rw [m2, m1]
  have hJ2 : JM (mu A2 M) v ms n := hJ.congr (fun k hk => by rw [m12, if_neg (by omega), if_neg (by omega)])
  have e3 : Eqx (oP M) A2 (hsL A2 1035 (M + 1) 1 (lN n)) := Eqx.sL rfl
  have g3 : Ms (hsL A2 1035 (M + 1) 1 (lN n)) M := g2.set
  have hJ3 : JM (mu (hsL A2 1035 (M + 1) 1 (lN n)) M) v ms n := hJ2.setN n
  have m3 : ∀ k, 8600 ≤ k → mu (hsL A2 1035 (M + 1) 1 (lN n)) M k = mu A2 M k := fun k hk => by rw [mu_set, if_neg (by omega)]
  unfold k_X9_receive_203
  rw [g2.2.2, if_pos rfl, if_pos (show wix (1 : Int32) ((11, 9000) : Nat × Nat).2 from (nI_wix (i := 1) (by omega)).mpr (show 1 < 9000 by omega)), show (1 : Int32).toNatClampNeg = 1 by decide, if_pos hm, show lN n + (0 : Int64) = lN n from lN_add n 0]
  generalize hsL A2 1035 (M + 1) 1 (lN n) = A3 at *
  have m13 : ∀ k, 8600 ≤ k → mu A3 M k = if k = 8607 then lN (cS f) else if k = 8605 then cC f else mu A M k := fun k hk => by rw [m3 k hk, m12]
  have hk3 : KyM (mu A3 M) 8600 f := hk.congr (fun k q1 q2 q3 => by rw [m13 k (by omega), if_neg (by omega), if_neg (by omega)])
  have hc3 : CkM (mu A3 M) 8600 f := hk3.ck ⟨by rw [m13 _ (by omega), if_neg (by omega), if_neg (by omega)]; exact hE, by rw [m13 _ (by omega), if_neg (by omega), if_pos rfl], by rw [m13 _ (by omega), if_neg (by omega), if_neg (by omega)]; exact hA, by rw [m13 _ (by omega), if_pos rfl]⟩ ⟨by rw [m13 _ (by omega), if_neg (by omega), if_neg (by omega)]; exact hfl.1, by rw [m13 _ (by omega), if_neg (by omega), if_neg (by omega)]; exact hfl.2.1, by rw [m13 _ (by omega), if_neg (by omega), if_neg (by omega)]; exact hfl.2.2.1, by rw [m13 _ (by omega), if_neg (by omega), if_neg (by omega)]; exact hfl.2.2.2⟩
  -- the copy
  obtain ⟨A4, q1, q2, q3⟩ := g3.copies (f := 8600) (n := 140) (t := 2500 + 140 * i) (by omega) (by omega) (by omega)
  have g4 : Ms A4 M := g3.eq q2 (show ¬ M = M + 1 by omega)
  unfold k_X9_receive_229
  rw [ck_, Option.bind_some, if_pos g3.1, show (8600 : Int32) = nI 8600 from rfl, show (140 : Int32) = nI 140 from rfl, q1, Option.bind_some, show (5 : Int32) = nI 5 from rfl, g4.gd (by omega), if_pos hm, g4.vl (by omega), show mu A4 M 5 = lN ms.length from (by rw [q3, if_neg (by omega)]; exact hJ3.1.2.2.1), g4.2.1]
  have hν : ∀ k, mu (hsL A4 1035 (M + 1) 5 (lN ms.length)) M k = if k = 5 then lN (ms.set i f).length else if 2500 + 140 * i ≤ k ∧ k < 2500 + 140 * i + 140 then mu A3 M (8600 + (k - (2500 + 140 * i))) else mu A3 M k := fun k => by rw [mu_set, q3, List.length_set]
  have hJ5 : JM (mu (hsL A4 1035 (M + 1) 5 (lN ms.length)) M) v (ms.set i f) n := hJ3.put hc3 (i := i) (by omega) (by rw [List.length_set]; exact hml) hν (fun j hj => by
    rw [List.length_set] at hj
    by_cases z : j = i
    · refine Or.inl ⟨z, ?_⟩
      rw [z]; simp [cg, hi]
    · refine Or.inr ⟨z, by omega, ?_⟩
      simp only [cg, List.getD_eq_getElem?_getD]
      rw [List.getElem?_set_ne (fun y => z y.symm)])
  have up : ∀ k, 8600 ≤ k → mu (hsL A4 1035 (M + 1) 5 (lN ms.length)) M k = mu A3 M k := fun k hk => by rw [hν, if_neg (by omega), if_neg (by omega)]
  obtain ⟨B, b1, b2, b3⟩ := JM.rc252 (o := true) (x4 := nI i) (t2 := lN ms.length) (t3 := 0) (z := lN ms.length) (s := cS f) g4 (lN_add _ 0) hJ5 ho hp h0 h1 (hk3.congr (fun k z1 z2 z3 => up k (by omega))) (by rw [up _ (by omega), m13 _ (by omega), if_pos rfl]) hn ⟨fun _ => rfl, fun _ => hm⟩
  exact ⟨B, b1, (((e1.tr e2).tr e3).tr q2).tr b2, b3⟩
end
