/-! the reader of the class -/
theorem Rw.takeTrimmed0 {A : Hp} {r t cap cap' a b : Nat} {s s' : List Int32} (hr : Rw A r cap s') (ht : Rw A t cap' s) (hne : t ≠ r) (hab : b < a) (ha : a < 15000) (hs : s.length < 16000) : ∃ B, f_X6_takeTrimmed A r t (nI a) (nI b) = some B ∧ Rw B r cap [] ∧ Rw B t cap' s ∧ Eqx (rP r) A B := by
  obtain ⟨B, e1, e2, e3, e4⟩ := hr.take ht hne hs (a := a) (b := b) (by omega) (by omega) (by omega)
  rw [sub_nil s (by omega)] at e2
  refine ⟨B, ?_, e2, e3, e4⟩
  unfold f_X6_takeTrimmed
  obtain ⟨f, hf⟩ := fu_pos (n := 0) (by omega)
  rw [hf]
  show k_X6_takeTrimmed_6s r t _ _ _ _ = _
  unfold k_X6_takeTrimmed_6s
  rw [if_pos (nI_le (by omega) (by omega)), hf]
  show k_X6_takeTrimmed_30s r t _ _ _ _ = _
  unfold k_X6_takeTrimmed_30s k_X6_takeTrimmed_56
  rw [if_pos (nI_le (by omega) (by omega)), if_pos hr.1.1, e1]
  rfl
/-- name, value, domain, path; sign, age, date; secure, httpOnly, siteRule, rank -/
abbrev RdV : Type := (List Int32 × List Int32 × List Int32 × List Int32) × (Bool × Option Int32 × Option Nat) × (Bool × Bool × Nat × Nat)
def Rd0 (A : Hp) (a : Nat) : Prop := (hsh A a).1 = 4 ∧ hgR A 192 a 0 = a + 1 ∧ hgR A 193 a 0 = a + 3 ∧ hgR A 194 a 0 = a + 5 ∧ hgR A 195 a 0 = a + 7 ∧ hgR A 196 a 0 = a + 9 ∧ hgR A 197 a 0 = a + 11
def RdF (A : Hp) (a : Nat) (v : RdV) : Prop := (hgI A 198 a 0 = bI v.2.1.1 ∧ hgI A 199 a 0 = bI v.2.1.2.1.isSome ∧ hgI A 200 a 0 = v.2.1.2.1.getD 0 ∧ hgL A 201 a 0 = oL v.2.1.2.2) ∧ hgI A 202 a 0 = bI v.2.2.1 ∧ hgI A 203 a 0 = bI v.2.2.2.1 ∧ hgI A 204 a 0 = nI v.2.2.2.2.1 ∧ hgI A 205 a 0 = nI v.2.2.2.2.2
def RdR (A : Hp) (a : Nat) (v : RdV) : Prop := Rw A (a + 1) 160 v.1.1 ∧ Rw A (a + 3) 160 v.1.2.1 ∧ Rw A (a + 5) 160 v.1.2.2.1 ∧ Rw A (a + 7) 40 v.1.2.2.2
def RdX (A : Hp) (a : Nat) (x y : List Int32) : Prop := Rw A (a + 9) 160 x ∧ Rw A (a + 11) 160 y
def Rd (A : Hp) (a : Nat) (v : RdV) : Prop := Rd0 A a ∧ RdF A a v ∧ RdR A a v ∧ ∃ x y, RdX A a x y
def rdP (a : Nat) : Nat → Prop := fun q => a ≤ q ∧ q < a + 13
theorem Rd0.eq {A B : Hp} {P : Nat → Prop} {a : Nat} (h : Rd0 A a) (e : Eqx P A B) (hP : ¬ P a) : Rd0 B a := by
  obtain ⟨a0, a1, a2, a3, a4, a5, a6⟩ := h
  exact ⟨by rw [e.2.1]; exact a0, by rw [e.R hP]; exact a1, by rw [e.R hP]; exact a2, by rw [e.R hP]; exact a3, by rw [e.R hP]; exact a4, by rw [e.R hP]; exact a5, by rw [e.R hP]; exact a6⟩
theorem RdF.eq {A B : Hp} {P : Nat → Prop} {a : Nat} {v : RdV} (h : RdF A a v) (e : Eqx P A B) (hP : ¬ P a) : RdF B a v := by
  obtain ⟨⟨a0, a1, a2, a3⟩, a4, a5, a6, a7⟩ := h
  exact ⟨⟨by rw [e.I hP]; exact a0, by rw [e.I hP]; exact a1, by rw [e.I hP]; exact a2, by rw [e.L hP]; exact a3⟩, by rw [e.I hP]; exact a4, by rw [e.I hP]; exact a5, by rw [e.I hP]; exact a6, by rw [e.I hP]; exact a7⟩
theorem RdR.eq {A B : Hp} {P : Nat → Prop} {a : Nat} {v : RdV} (h : RdR A a v) (e : Eqx P A B) (hP : ∀ q, a + 1 ≤ q → q < a + 9 → ¬ P q) : RdR B a v :=
  ⟨h.1.eq e (hP _ (by omega) (by omega)) (hP _ (by omega) (by omega)), h.2.1.eq e (hP _ (by omega) (by omega)) (hP _ (by omega) (by omega)), h.2.2.1.eq e (hP _ (by omega) (by omega)) (hP _ (by omega) (by omega)), h.2.2.2.eq e (hP _ (by omega) (by omega)) (hP _ (by omega) (by omega))⟩
theorem RdX.eq {A B : Hp} {P : Nat → Prop} {a : Nat} {x y : List Int32} (h : RdX A a x y) (e : Eqx P A B) (hP : ∀ q, a + 9 ≤ q → q < a + 13 → ¬ P q) : RdX B a x y :=
  ⟨h.1.eq e (hP _ (by omega) (by omega)) (hP _ (by omega) (by omega)), h.2.eq e (hP _ (by omega) (by omega)) (hP _ (by omega) (by omega))⟩
theorem Rd.eq {A B : Hp} {P : Nat → Prop} {a : Nat} {v : RdV} (h : Rd A a v) (e : Eqx P A B) (hP : ∀ q, rdP a q → ¬ P q) : Rd B a v := by
  obtain ⟨h0, h1, h2, x, y, h3⟩ := h
  exact ⟨h0.eq e (hP _ ⟨by omega, by omega⟩), h1.eq e (hP _ ⟨by omega, by omega⟩), h2.eq e (fun q q1 q2 => hP _ ⟨by omega, by omega⟩), x, y, h3.eq e (fun q q1 q2 => hP _ ⟨by omega, by omega⟩)⟩
def rdAge (gv : List Int32) : Option Int32 :=
  let neg := decide (g gv 0 = 45)
  let f := if neg then 1 else 0
  if 1 ≤ gv.length - f ∧ gv.length - f ≤ 9 then (num gv f gv.length).map (fun n => if neg then -(nI n) else nI n) else none
def rdDm (gv : List Int32) : Option (List Int32) :=
  let f := if g gv 0 = 46 then 1 else 0
  if f < gv.length then some (low (sub gv f gv.length)) else none
def oneO (gv : List Int32) (a b c o : Nat) : Nat := if gv = wsc a then 0 else if gv = wsc b then 1 else if gv = wsc c then 2 else o
/-- what an attribute at says, with gv given -/
def rdA2 (at' gv : List Int32) (v : RdV) : RdV :=
  if at' = wsc 7 then (v.1, (v.2.1.1, v.2.1.2.1, (rdDate gv).orElse (fun _ => v.2.1.2.2)), v.2.2)
  else if at' = wsc 8 then (v.1, (v.2.1.1, (rdAge gv).orElse (fun _ => v.2.1.2.1), v.2.1.2.2), v.2.2)
  else if at' = wsc 9 then ((v.1.1, v.1.2.1, (rdDm gv).getD v.1.2.2.1, v.1.2.2.2), v.2)
  else if at' = wsc 10 then (if g gv 0 = 47 ∧ gv.length ≤ 40 then ((v.1.1, v.1.2.1, v.1.2.2.1, gv), v.2) else v)
  else if at' = wsc 11 then (v.1, v.2.1, (true, v.2.2.2))
  else if at' = wsc 12 then (v.1, v.2.1, (v.2.2.1, true, v.2.2.2.2))
  else if at' = wsc 13 then (v.1, v.2.1, (v.2.2.1, v.2.2.2.1, oneO (low gv) 14 15 16 v.2.2.2.2.1, v.2.2.2.2.2))
  else if at' = wsc 17 then (v.1, v.2.1, (v.2.2.1, v.2.2.2.1, v.2.2.2.2.1, oneO (low gv) 18 19 20 v.2.2.2.2.2))
  else v
def gvS (t : List Int32) (sg b : Nat) : List Int32 := if sg < b then trm t (sg + 1) b else []
def rdAttr (t : List Int32) (a b : Nat) (v : RdV) : RdV := rdA2 (low (trm t a (fnd t 61 a b))) (gvS t (fnd t 61 a b) b) v
theorem Rw.gvn {A : Hp} {r t cap cap' sg b : Nat} {s s' : List Int32} (hr : Rw A r cap s') (ht : Rw A t cap' s) (hne : t ≠ r) (hab : sg ≤ b) (hb : b ≤ s.length) (hs : s.length < 14000) (hcap : s.length ≤ cap) : ∃ B, f_X6_takeTrimmed A r t (nI sg + 1) (nI b) = some B ∧ Rw B r cap (gvS s sg b) ∧ Rw B t cap' s ∧ Eqx (rP r) A B := by
  rw [nI_1]
  unfold gvS
  by_cases h : sg < b
  · rw [if_pos h]
    exact hr.takeTrimmed ht hne (by omega) hb (by omega) (by omega)
  · rw [if_neg h]
    exact hr.takeTrimmed0 ht hne (by omega) (by omega) (by omega)
theorem Rd.age {A : Hp} {a : Nat} {v : RdV} {x gv : List Int32} (h0 : Rd0 A a) (hf : RdF A a v) (hx : RdX A a x gv) : ∃ B, f_X5_readAge A a = some B ∧ RdF B a (v.1, (v.2.1.1, (rdAge gv).orElse (fun _ => v.2.1.2.1), v.2.1.2.2), v.2.2) ∧ Eqx (fun q => q = a) A B ∧ (∀ f j, hgR B f a j = hgR A f a j) := by
  obtain ⟨c0, c1, c2, c3, c4, c5, c6⟩ := h0
  have hG := hx.2
  have hl := hG.2.2.1
  unfold f_X5_readAge
  rw [if_pos c0, c6, if_pos hG.1.1, show f_X6_at A (a + 11) 0 = some (g gv 0) from hG.at (i := 0) (by omega), Option.bind_some]
  -- digits from f on
  have key : ∀ (neg : Bool) (f : Nat), f ≤ 1 → f ≤ gv.length → (∀ o, rdAge gv = o ↔ (if 1 ≤ gv.length - f ∧ gv.length - f ≤ 9 then (num gv f gv.length).map (fun n => if neg then -(nI n) else nI n) else none) = o) → ∃ B, k_X5_readAge_28 A a (bI neg) (nI f) = some B ∧ RdF B a (v.1, (v.2.1.1, (rdAge gv).orElse (fun _ => v.2.1.2.1), v.2.1.2.2), v.2.2) ∧ Eqx (fun q => q = a) A B ∧ (∀ f j, hgR B f a j = hgR A f a j) := by
    intro neg f f1 f2 hage
    unfold k_X5_readAge_28
    rw [if_pos c0, c6, if_pos hG.1.1, hG.2.1, pk_sub f2]
    have stay : rdAge gv = none → ∃ B, some A = some B ∧ RdF B a (v.1, (v.2.1.1, (rdAge gv).orElse (fun _ => v.2.1.2.1), v.2.1.2.2), v.2.2) ∧ Eqx (fun q => q = a) A B ∧ (∀ f j, hgR B f a j = hgR A f a j) := fun z => by
      rw [z]
      exact ⟨A, rfl, hf, Eqx.rf, fun _ _ => rfl⟩
    by_cases d1 : 1 ≤ gv.length - f
    · rw [if_neg (show ¬ nI (gv.length - f) < 1 from nI_nlt (b := 1) d1 (by omega))]
      by_cases d2 : gv.length - f ≤ 9
      · rw [if_pos (show nI (gv.length - f) ≤ 9 from nI_le (b := 9) d2 (by omega)), hG.number f2 (by omega), Option.bind_some]
        cases hn : num gv f gv.length with
        | none =>
          rw [oI_none, if_pos (by decide)]
          exact stay ((hage none).mpr (by rw [if_pos ⟨d1, d2⟩, hn]; rfl))
        | some n =>
          have hlt : n < 1000000000 := by
            have h9 := numD_lt gv _ _ _ _ hn
            have : (10 : Nat) ^ (gv.length - f) ≤ 10 ^ 9 := Nat.pow_le_pow_right (by omega) d2
            omega
          rw [oI_some, if_neg (nI_pos (by omega))]
          have hres : rdAge gv = some (if neg then -(nI n) else nI n) := (hage _).mpr (by rw [if_pos ⟨d1, d2⟩, hn]; rfl)
          rw [hres]
          unfold k_X5_readAge_91
          have fin : ∀ x : Int32, x = (if neg then -(nI n) else nI n) → ∃ B, (if (hsh (hsI A 199 a 0 1) a).1 = 4 then some (hsI (hsI A 199 a 0 1) 200 a 0 x) else none) = some B ∧ RdF B a (v.1, (v.2.1.1, (some (if neg then -(nI n) else nI n)).orElse (fun _ => v.2.1.2.1), v.2.1.2.2), v.2.2) ∧ Eqx (fun q => q = a) A B ∧ (∀ f j, hgR B f a j = hgR A f a j) := by
            intro x hx
            refine ⟨hsI (hsI A 199 a 0 1) 200 a 0 x, by rw [hsh_sI, if_pos c0], ?_, Eqx.tr (Eqx.sI rfl) (Eqx.sI rfl), fun _ _ => rfl⟩
            obtain ⟨⟨a0, a1, a2, a3⟩, a4, a5, a6, a7⟩ := hf
            simp only [RdF, hgI_sI, hgL_sI]
            refine ⟨⟨a0, by rfl, hx, a3⟩, a4, a5, a6, a7⟩
          cases neg
          · rw [if_pos (by rfl)]
            exact fin _ rfl
          · rw [if_neg (by decide)]
            exact fin _ rfl
      · rw [if_neg (show ¬ nI (gv.length - f) ≤ 9 from nI_ge (a := 9) (by omega) (by omega))]
        exact stay ((hage none).mpr (by rw [if_neg (by omega)]))
    · rw [if_pos (show nI (gv.length - f) < 1 from nI_lt (b := 1) (by omega) (by omega))]
      exact stay ((hage none).mpr (by rw [if_neg (by omega)]))
  unfold k_X5_readAge_18
  by_cases h45 : g gv 0 = 45
  · rw [if_pos h45, if_neg (by decide)]
    have := g_in h45 (by decide)
    exact key true 1 (by omega) (by omega) (fun o => by unfold rdAge; simp only [h45, decide_true, if_true])
  · rw [if_neg h45, if_pos (by rfl)]
    exact key false 0 (by omega) (by omega) (fun o => by unfold rdAge; simp only [h45, decide_false]; rfl)
