/-! cells that stay, in a heap that may grow -/
def Ew (P : Nat → Prop) (A B : Hp) : Prop := ∀ a, ¬ P a → (∀ f j, hgI B f a j = hgI A f a j) ∧ (∀ f j, hgL B f a j = hgL A f a j) ∧ (∀ f j, hgR B f a j = hgR A f a j) ∧ hsh B a = hsh A a
section
variable {P Q : Nat → Prop} {A B C : Hp}
theorem Ew.rf : Ew P A A := fun _ _ => ⟨fun _ _ => rfl, fun _ _ => rfl, fun _ _ => rfl, rfl⟩
theorem Ew.tr (h : Ew P A B) (k : Ew P B C) : Ew P A C := fun a ha => ⟨fun f j => ((k a ha).1 f j).trans ((h a ha).1 f j), fun f j => ((k a ha).2.1 f j).trans ((h a ha).2.1 f j), fun f j => ((k a ha).2.2.1 f j).trans ((h a ha).2.2.1 f j), (k a ha).2.2.2.trans (h a ha).2.2.2⟩
theorem Ew.mo (h : Ew P A B) (hq : ∀ a, P a → Q a) : Ew Q A B := fun a ha => h a (fun q => ha (hq a q))
theorem Eqx.ew (h : Eqx P A B) : Ew P A B := fun a ha => ⟨(h.1 a ha).1, (h.1 a ha).2.1, (h.1 a ha).2.2, h.2.1 a⟩
theorem Ew.mk (A : Hp) (k n : Nat) : Ew (fun q => q = hsz A) A (hmk A k n) := fun a ha => ⟨fun f j => by rw [hgI_mk, if_neg ha], fun f j => by rw [hgL_mk, if_neg ha], fun f j => by rw [hgR_mk, if_neg ha], by rw [hsh_mk, if_neg ha]⟩
theorem Ew.I (h : Ew P A B) {a : Nat} (ha : ¬ P a) (f j : Nat) : hgI B f a j = hgI A f a j := (h a ha).1 f j
theorem Ew.L (h : Ew P A B) {a : Nat} (ha : ¬ P a) (f j : Nat) : hgL B f a j = hgL A f a j := (h a ha).2.1 f j
theorem Ew.R (h : Ew P A B) {a : Nat} (ha : ¬ P a) (f j : Nat) : hgR B f a j = hgR A f a j := (h a ha).2.2.1 f j
theorem Ew.S (h : Ew P A B) {a : Nat} (ha : ¬ P a) : hsh B a = hsh A a := (h a ha).2.2.2
theorem Rw.ew {r cap : Nat} {s : List Int32} (h : Rw A r cap s) (e : Ew P A B) (h1 : ¬ P r) (h2 : ¬ P (r + 1)) : Rw B r cap s := by
  obtain ⟨⟨a1, a2, a3, a4⟩, a5, a6, a7, a8⟩ := h
  exact ⟨⟨by rw [e.S h1]; exact a1, by rw [e.R h1]; exact a2, by rw [e.S h2]; exact a3, a4⟩, by rw [e.I h1]; exact a5, a6, a7, fun i hi => by rw [e.I h2]; exact a8 i hi⟩
theorem Sx.ew {a : Nat} {us : SL} (h : Sx A a us) (e : Ew P A B) (hP : ∀ q, sxP a q → ¬ P q) : Sx B a us := by
  obtain ⟨⟨a1, a2, a3⟩, a4, a5, a6, a7, a8⟩ := h
  have p : ∀ q, a ≤ q → q < a + 14 → ¬ P q := fun q h1 h2 => hP q ⟨h1, h2⟩
  exact ⟨⟨by rw [e.S (p a (by omega) (by omega))]; exact a1, by rw [e.R (p a (by omega) (by omega))]; exact a2, by rw [e.S (p _ (by omega) (by omega))]; exact a3⟩, fun i hi => by rw [e.R (p _ (by omega) (by omega))]; exact a4 i hi, by rw [e.I (p a (by omega) (by omega))]; exact a5, a6, fun i hi => (a7 i hi).ew e (p _ (by omega) (by omega)) (p _ (by omega) (by omega)), fun i hi => by obtain ⟨s, hs⟩ := a8 i hi; exact ⟨s, hs.ew e (p _ (by omega) (by omega)) (p _ (by omega) (by omega))⟩⟩
theorem Ad.ew {a : Nat} {v : AdV} (h : Ad A a v) (e : Ew P A B) (hP : ∀ q, adP a q → ¬ P q) : Ad B a v := by
  obtain ⟨⟨a1, a2, a3⟩, a4, a5, a6, a7⟩ := h
  have p : ∀ q, a ≤ q → q < a + 5 → ¬ P q := fun q h1 h2 => hP q ⟨h1, h2⟩
  exact ⟨⟨by rw [e.S (p a (by omega) (by omega))]; exact a1, by rw [e.R (p a (by omega) (by omega))]; exact a2, by rw [e.R (p a (by omega) (by omega))]; exact a3⟩, by rw [e.I (p a (by omega) (by omega))]; exact a4, by rw [e.I (p a (by omega) (by omega))]; exact a5, a6.ew e (p _ (by omega) (by omega)) (p _ (by omega) (by omega)), a7.ew e (p _ (by omega) (by omega)) (p _ (by omega) (by omega))⟩
theorem Rd.ew {a : Nat} {v : RdV} (h : Rd A a v) (e : Ew P A B) (hP : ∀ q, rdP a q → ¬ P q) : Rd B a v := by
  obtain ⟨⟨a0, a1, a2, a3, a4, a5, a6⟩, ⟨⟨b0, b1, b2, b3⟩, b4, b5, b6, b7⟩, ⟨c1, c2, c3, c4⟩, x, y, d1, d2⟩ := h
  have p : ∀ q, a ≤ q → q < a + 13 → ¬ P q := fun q h1 h2 => hP q ⟨h1, h2⟩
  have h0 := p a (by omega) (by omega)
  exact ⟨⟨by rw [e.S h0]; exact a0, by rw [e.R h0]; exact a1, by rw [e.R h0]; exact a2, by rw [e.R h0]; exact a3, by rw [e.R h0]; exact a4, by rw [e.R h0]; exact a5, by rw [e.R h0]; exact a6⟩,
    ⟨⟨by rw [e.I h0]; exact b0, by rw [e.I h0]; exact b1, by rw [e.I h0]; exact b2, by rw [e.L h0]; exact b3⟩, by rw [e.I h0]; exact b4, by rw [e.I h0]; exact b5, by rw [e.I h0]; exact b6, by rw [e.I h0]; exact b7⟩,
    ⟨c1.ew e (p _ (by omega) (by omega)) (p _ (by omega) (by omega)), c2.ew e (p _ (by omega) (by omega)) (p _ (by omega) (by omega)), c3.ew e (p _ (by omega) (by omega)) (p _ (by omega) (by omega)), c4.ew e (p _ (by omega) (by omega)) (p _ (by omega) (by omega))⟩, x, y, d1.ew e (p _ (by omega) (by omega)) (p _ (by omega) (by omega)), d2.ew e (p _ (by omega) (by omega)) (p _ (by omega) (by omega))⟩
theorem Ck.ew {c : Nat} {v : CkV} (h : Ck A c v) (e : Ew P A B) (hP : ∀ q, ckP c q → ¬ P q) : Ck B c v := by
  obtain ⟨⟨a0, a1, a2, a3, a4⟩, ⟨⟨b0, b1, b2⟩, b3, b4, b5, b6, b7, b8⟩, c1, c2, c3, c4⟩ := h
  have p : ∀ q, c ≤ q → q < c + 9 → ¬ P q := fun q h1 h2 => hP q ⟨h1, h2⟩
  have h0 := p c (by omega) (by omega)
  exact ⟨⟨by rw [e.S h0]; exact a0, by rw [e.R h0]; exact a1, by rw [e.R h0]; exact a2, by rw [e.R h0]; exact a3, by rw [e.R h0]; exact a4⟩,
    ⟨⟨by rw [e.L h0]; exact b0, by rw [e.L h0]; exact b1, by rw [e.L h0]; exact b2⟩, by rw [e.I h0]; exact b3, by rw [e.I h0]; exact b4, by rw [e.I h0]; exact b5, by rw [e.I h0]; exact b6, by rw [e.I h0]; exact b7, by rw [e.I h0]; exact b8⟩,
    c1.ew e (p _ (by omega) (by omega)) (p _ (by omega) (by omega)), c2.ew e (p _ (by omega) (by omega)) (p _ (by omega) (by omega)), c3.ew e (p _ (by omega) (by omega)) (p _ (by omega) (by omega)), c4.ew e (p _ (by omega) (by omega)) (p _ (by omega) (by omega))⟩
theorem JS.ew {J : Nat} (h : JS A J) (e : Ew P A B) (hP : ∀ q, jrP J q → ¬ P q) : JS B J := by
  obtain ⟨⟨a0, a1, a2, a3, a4, a5, a6, a7, a8, a9⟩, b1, b2, b3, b4⟩ := h
  have p : ∀ q, J ≤ q → q < J + 409 → ¬ P q := fun q z1 z2 => hP q ⟨z1, z2⟩
  have h0 := p J (by omega) (by omega)
  exact ⟨⟨by rw [e.S h0]; exact a0, by rw [e.R h0]; exact a1, by rw [e.R h0]; exact a2, by rw [e.R h0]; exact a3, by rw [e.R h0]; exact a4, by rw [e.R h0]; exact a5, by rw [e.R h0]; exact a6, by rw [e.R h0]; exact a7, by rw [e.R h0]; exact a8, by rw [e.R h0]; exact a9⟩, by rw [e.S (p _ (by omega) (by omega))]; exact b1, by rw [e.S (p _ (by omega) (by omega))]; exact b2, by rw [e.S (p _ (by omega) (by omega))]; exact b3, by rw [e.S (p _ (by omega) (by omega))]; exact b4⟩
theorem JC.ew {J : Nat} {ad : Nat → Nat} {cs : List CkV} (h : JC A J ad cs) (e : Ew P A B) (hP : ∀ q, J ≤ q → q < J + 371 → ¬ P q) : JC B J ad cs := by
  obtain ⟨a1, a2, a3, a4, a5, a6, a7⟩ := h
  have pc : ∀ i, i < 41 → ∀ q, ckP (ad i) q → ¬ P q := fun i hi q hq => by
    obtain ⟨p, hp, e9⟩ := a2 i hi
    have := hq.1
    have := hq.2
    exact hP q (by omega) (by omega)
  exact ⟨fun i hi => by rw [e.R (hP _ (by omega) (by omega))]; exact a1 i hi, a2, a3, by rw [e.I (hP _ (by omega) (by omega))]; exact a4, a5, fun i hi => (a6 i hi).ew e (pc i (by omega)), fun i hi => by obtain ⟨v, hv⟩ := a7 i hi; exact ⟨v, hv.ew e (pc i hi)⟩⟩
theorem JQ.ew {J : Nat} {v : JV} (h : JQ A J v) (e : Ew P A B) (hP : ∀ q, J + 381 ≤ q → q < J + 409 → ¬ P q) : JQ B J v := by
  obtain ⟨a1, a2, a3, a4, a5, a6⟩ := h
  exact ⟨a1.ew e (fun q z => hP q z.1 (by have := z.2; omega)), a2.ew e (fun q z => hP q (by have := z.1; omega) (by have := z.2; omega)), a3.ew e (fun q z => hP q (by have := z.1; omega) (by have := z.2; omega)), a4.ew e (hP _ (by omega) (by omega)) (hP _ (by omega) (by omega)), fun i hi => by rw [e.I (hP _ (by omega) (by omega))]; exact a5 i hi, fun i hi => by rw [e.I (hP _ (by omega) (by omega))]; exact a6 i hi⟩
theorem Jr.ew {J : Nat} {v : JV} {f : CkV} (h : Jr A J v f) (e : Ew P A B) (hP : ∀ q, jrP J q → ¬ P q) : Jr B J v f := by
  obtain ⟨h1, h2, h3, ⟨ad, h4⟩, h5⟩ := h
  have p : ∀ q, J ≤ q → q < J + 409 → ¬ P q := fun q z1 z2 => hP q ⟨z1, z2⟩
  have h0 := p J (by omega) (by omega)
  exact ⟨h1.ew e hP, ⟨by rw [e.I h0]; exact h2.1, by rw [e.I h0]; exact h2.2.1, by rw [e.L h0]; exact h2.2.2⟩, h3.ew e (fun q z1 z2 => p q (by omega) z2), ⟨ad, h4.ew e (fun q z1 z2 => p q z1 (by omega))⟩, h5.ew e (fun q z => p q (by have := z.1; omega) (by have := z.2; omega))⟩
theorem Ms.ew {M : Nat} (h : Ms A M) (e : Ew P A B) (h1 : ¬ P M) (h2 : ¬ P (M + 1)) : Ms B M := ⟨by rw [e.S h1]; exact h.1, by rw [e.R h1]; exact h.2.1, by rw [e.S h2]; exact h.2.2⟩
theorem Mw.ew {M : Nat} (h : Mw A M) (e : Ew P A B) (h1 : ¬ P M) (hq : ∀ k, k < 19 → ¬ P (M + 4 + k)) : Mw B M := fun k hk => by
  obtain ⟨q1, q2, q3⟩ := h k hk
  exact ⟨by rw [e.R h1]; exact q1, by rw [e.S (hq k hk)]; exact q2, fun i hi => by rw [e.I (hq k hk)]; exact q3 i hi⟩
theorem mu_ew {M : Nat} (e : Ew P A B) (h1 : ¬ P (M + 1)) : ∀ k, mu B M k = mu A M k := fun k => e.L h1 1035 k
theorem Tx.ew {M : Nat} {t : List Int32} (x : Tx A M t) (e : Ew P A B) (h1 : ¬ P M) (h2 : ¬ P (M + 1)) : Tx B M t :=
  ⟨by rw [e.I h1]; exact x.1, x.2.1, x.2.2.1.congr (fun k _ _ => mu_ew e h2 k), x.2.2.2⟩
end
