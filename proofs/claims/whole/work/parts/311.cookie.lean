/-! cookies of the class -/
/-- name, value, domain, path; expiry, created, accessed; number; hostOnly, secure, httpOnly, siteRule, rank -/
abbrev CkV : Type := (List Int32 × List Int32 × List Int32 × List Int32) × (Int64 × Int64 × Int64) × Nat × (Bool × Bool × Bool × Nat × Nat)
abbrev cN (v : CkV) : List Int32 := v.1.1
abbrev cV (v : CkV) : List Int32 := v.1.2.1
abbrev cD (v : CkV) : List Int32 := v.1.2.2.1
abbrev cP (v : CkV) : List Int32 := v.1.2.2.2
abbrev cE (v : CkV) : Int64 := v.2.1.1
abbrev cC (v : CkV) : Int64 := v.2.1.2.1
abbrev cA (v : CkV) : Int64 := v.2.1.2.2
abbrev cS (v : CkV) : Nat := v.2.2.1
abbrev cH (v : CkV) : Bool := v.2.2.2.1
abbrev cX (v : CkV) : Bool := v.2.2.2.2.1
abbrev cO (v : CkV) : Bool := v.2.2.2.2.2.1
abbrev cL (v : CkV) : Nat := v.2.2.2.2.2.2.1
abbrev cR (v : CkV) : Nat := v.2.2.2.2.2.2.2
def CkS (A : Hp) (c : Nat) : Prop := (hsh A c).1 = 2 ∧ hgR A 64 c 0 = c + 1 ∧ hgR A 65 c 0 = c + 3 ∧ hgR A 66 c 0 = c + 5 ∧ hgR A 67 c 0 = c + 7
def CkF (A : Hp) (c : Nat) (v : CkV) : Prop := (hgL A 68 c 0 = cE v ∧ hgL A 69 c 0 = cC v ∧ hgL A 70 c 0 = cA v) ∧ hgI A 71 c 0 = nI (cS v) ∧ hgI A 72 c 0 = bI (cH v) ∧ hgI A 73 c 0 = bI (cX v) ∧ hgI A 74 c 0 = bI (cO v) ∧ hgI A 75 c 0 = nI (cL v) ∧ hgI A 76 c 0 = nI (cR v)
def CkR (A : Hp) (c : Nat) (v : CkV) : Prop := Rw A (c + 1) 16 (cN v) ∧ Rw A (c + 3) 32 (cV v) ∧ Rw A (c + 5) 30 (cD v) ∧ Rw A (c + 7) 40 (cP v)
def Ck (A : Hp) (c : Nat) (v : CkV) : Prop := CkS A c ∧ CkF A c v ∧ CkR A c v
def ckP (c : Nat) : Nat → Prop := fun q => c ≤ q ∧ q < c + 9
theorem CkS.eq {A B : Hp} {P : Nat → Prop} {c : Nat} (h : CkS A c) (e : Eqx P A B) (hP : ¬ P c) : CkS B c := by
  obtain ⟨a0, a1, a2, a3, a4⟩ := h
  exact ⟨by rw [e.2.1]; exact a0, by rw [e.R hP]; exact a1, by rw [e.R hP]; exact a2, by rw [e.R hP]; exact a3, by rw [e.R hP]; exact a4⟩
theorem CkF.eq {A B : Hp} {P : Nat → Prop} {c : Nat} {v : CkV} (h : CkF A c v) (e : Eqx P A B) (hP : ¬ P c) : CkF B c v := by
  obtain ⟨⟨a0, a1, a2⟩, a3, a4, a5, a6, a7, a8⟩ := h
  exact ⟨⟨by rw [e.L hP]; exact a0, by rw [e.L hP]; exact a1, by rw [e.L hP]; exact a2⟩, by rw [e.I hP]; exact a3, by rw [e.I hP]; exact a4, by rw [e.I hP]; exact a5, by rw [e.I hP]; exact a6, by rw [e.I hP]; exact a7, by rw [e.I hP]; exact a8⟩
theorem CkR.eq {A B : Hp} {P : Nat → Prop} {c : Nat} {v : CkV} (h : CkR A c v) (e : Eqx P A B) (hP : ∀ q, c + 1 ≤ q → q < c + 9 → ¬ P q) : CkR B c v :=
  ⟨h.1.eq e (hP _ (by omega) (by omega)) (hP _ (by omega) (by omega)), h.2.1.eq e (hP _ (by omega) (by omega)) (hP _ (by omega) (by omega)), h.2.2.1.eq e (hP _ (by omega) (by omega)) (hP _ (by omega) (by omega)), h.2.2.2.eq e (hP _ (by omega) (by omega)) (hP _ (by omega) (by omega))⟩
theorem Ck.eq {A B : Hp} {P : Nat → Prop} {c : Nat} {v : CkV} (h : Ck A c v) (e : Eqx P A B) (hP : ∀ q, ckP c q → ¬ P q) : Ck B c v :=
  ⟨h.1.eq e (hP _ ⟨by omega, by omega⟩), h.2.1.eq e (hP _ ⟨by omega, by omega⟩), h.2.2.eq e (fun q q1 q2 => hP _ ⟨by omega, by omega⟩)⟩
theorem Ck.become {A : Hp} {a b : Nat} {v w : CkV} (h : Ck A a v) (k : Ck A b w) (hd : a + 9 ≤ b ∨ b + 9 ≤ a) : ∃ B, f_X1_become A a b = some B ∧ Ck B a w ∧ Ck B b w ∧ Eqx (ckP a) A B := by
  obtain ⟨hS, hF, hR⟩ := h
  have sb : ∀ {A B : Hp} {d : Nat}, Eqx (rP (a + d)) A B → 1 ≤ d → d < 8 → Eqx (fun q => a + 1 ≤ q ∧ q < a + 9) A B := fun e hd h1 => e.mo (fun q hq => by rcases hq with z | z <;> (constructor <;> omega))
  have na : ∀ d, 1 ≤ d → ¬ rP (a + d) a := fun d hd z => by rcases z with z | z <;> omega
  have dj : ∀ q, ckP b q → ¬ (a + 1 ≤ q ∧ q < a + 9) := fun q z w => by have := z.1; have := z.2; omega
  obtain ⟨A1, e1, e2, e3, e4⟩ := hR.1.copy k.2.2.1 (by omega) (by have := k.2.2.1.2.2.1; omega) k.2.2.1.2.2.1
  have k1 := k.eq (sb e4 (by omega) (by omega)) dj
  have s1 := hS.eq e4 (na 1 (by omega))
  have v1 := hR.1.ot hR.2.1 (by omega) e4
  have d1 := hR.1.ot hR.2.2.1 (by omega) e4
  have p1 := hR.1.ot hR.2.2.2 (by omega) e4
  obtain ⟨A2, f1, f2, f3, f4⟩ := v1.copy k1.2.2.2.1 (by omega) (by have := k1.2.2.2.1.2.2.1; omega) k1.2.2.2.1.2.2.1
  have k2 := k1.eq (sb f4 (by omega) (by omega)) dj
  have s2 := s1.eq f4 (na 3 (by omega))
  have n2 := v1.ot e2 (by omega) f4
  have d2 := v1.ot d1 (by omega) f4
  have p2 := v1.ot p1 (by omega) f4
  obtain ⟨A3, g1, g2, g3, g4⟩ := d2.copy k2.2.2.2.2.1 (by omega) (by have := k2.2.2.2.2.1.2.2.1; omega) k2.2.2.2.2.1.2.2.1
  have k3 := k2.eq (sb g4 (by omega) (by omega)) dj
  have s3 := s2.eq g4 (na 5 (by omega))
  have n3 := d2.ot n2 (by omega) g4
  have v3 := d2.ot f2 (by omega) g4
  have p3 := d2.ot p2 (by omega) g4
  obtain ⟨A4, i1, i2, i3, i4⟩ := p3.copy k3.2.2.2.2.2 (by omega) (by have := k3.2.2.2.2.2.2.2.1; omega) k3.2.2.2.2.2.2.2.1
  have k4 := k3.eq (sb i4 (by omega) (by omega)) dj
  have s4 := s3.eq i4 (na 7 (by omega))
  have n4 := p3.ot n3 (by omega) i4
  have v4 := p3.ot v3 (by omega) i4
  have d4 := p3.ot g2 (by omega) i4
  have ee := ((sb e4 (by omega) (by omega)).tr (sb f4 (by omega) (by omega))).tr ((sb g4 (by omega) (by omega)).tr (sb i4 (by omega) (by omega)))
  let B : Hp := hsI (hsI (hsI (hsI (hsI (hsI (hsL (hsL (hsL A4 68 a 0 (cE w)) 69 a 0 (cC w)) 70 a 0 (cA w)) 71 a 0 (nI (cS w))) 72 a 0 (bI (cH w))) 73 a 0 (bI (cX w))) 74 a 0 (bI (cO w))) 75 a 0 (nI (cL w))) 76 a 0 (nI (cR w))
  have eB : Eqx (fun q => q = a) A4 B := (((((((ea_L.tr ea_L).tr ea_L).tr ea_I).tr ea_I).tr ea_I).tr ea_I).tr ea_I).tr ea_I
  have hab : b ≠ a := by omega
  obtain ⟨⟨w0, w1, w2⟩, w3, w4, w5, w6, w7, w8⟩ := id k4.2.1
  refine ⟨B, ?_, ⟨s4, ?_, ⟨n4.eq eB (by omega) (by omega), v4.eq eB (by omega) (by omega), d4.eq eB (by omega) (by omega), i2.eq eB (by omega) (by omega)⟩⟩, k4.eq eB (fun q z z1 => by have := z.1; have := z.2; have z1 : q = a := z1; omega), (ee.mo (fun q hq => by constructor <;> omega)).tr (eB.mo (fun q hq => by rw [hq]; constructor <;> omega))⟩
  · unfold f_X1_become k_X1_become_92
    rw [if_pos hS.1, if_pos k.1.1, hS.2.1, if_pos hR.1.1.1, k.1.2.1, e1, Option.bind_some, if_pos s1.1, if_pos k1.1.1, s1.2.2.1, if_pos v1.1.1, k1.1.2.2.1, f1, Option.bind_some, if_pos s2.1, if_pos k2.1.1, s2.2.2.2.1, if_pos d2.1.1, k2.1.2.2.2.1, g1, Option.bind_some, if_pos s3.1, if_pos k3.1.1, s3.2.2.2.2, if_pos p3.1.1, k3.1.2.2.2.2, i1, Option.bind_some, if_pos k4.1.1, if_pos s4.1]
    simp only [hgL_sL, hgI_sL, hgI_sI, hsh_sI, hsh_sL, hab, and_false, false_and, if_false, w0, w1, w2, w3, w4, w5, w6, w7, w8, bI_Z, if_true, k4.1.1, s4.1]
    rfl
  · refine ⟨⟨?_, ?_, ?_⟩, ?_, ?_, ?_, ?_, ?_, ?_⟩ <;> (simp only [B, hgL_sL, hgL_sI, hgI_sL, hgI_sI]; rfl)
-- what a cookie in the jar keeps to
def okv (v : CkV) : Prop := isDom (cD v) = true ∧ cP v ≠ [] ∧ cS v < 100000 ∧ cL v ≤ 2 ∧ cR v ≤ 2
def ccmp (u v : CkV) : Int32 := if dcmp (cD u) (cD v) ≠ 0 then dcmp (cD u) (cD v) else if scmp (cP u) (cP v) ≠ 0 then scmp (cP u) (cP v) else if scmp (cN u) (cN v) ≠ 0 then scmp (cN u) (cN v) else if cH u = cH v then 0 else if cH u then 1 else -1
theorem Ck.compare {A : Hp} {a b : Nat} {u v : CkV} (h : Ck A a u) (k : Ck A b v) (hu : isDom (cD u) = true) (hv : isDom (cD v) = true) : f_X1_compareInList A a b = some (ccmp u v) := by
  obtain ⟨hS, hF, hR⟩ := h
  obtain ⟨kS, kF, kR⟩ := k
  have l1 := hR.1.2.2.1
  have l2 := hR.2.2.2.2.2.1
  have l3 := kR.1.2.2.1
  have l4 := kR.2.2.2.2.2.1
  have f44 : ∀ x, k_X1_compareInList_44 A a b x = some (if x ≠ 0 then x else if cH u = cH v then 0 else if cH u then 1 else -1) := by
    intro x
    unfold k_X1_compareInList_44 k_X1_compareInList_71
    by_cases hx : x = 0
    · rw [if_pos hx, if_pos hS.1, if_pos kS.1, hF.2.2.1, kF.2.2.1, hx]
      cases cH u <;> cases cH v <;> rfl
    · rw [if_neg hx, if_pos hx]
  have f28 : ∀ x, k_X1_compareInList_28 A a b x = some (if x ≠ 0 then x else if scmp (cN u) (cN v) ≠ 0 then scmp (cN u) (cN v) else if cH u = cH v then 0 else if cH u then 1 else -1) := by
    intro x
    unfold k_X1_compareInList_28
    by_cases hx : x = 0
    · rw [if_pos hx, if_pos hS.1, if_pos kS.1, hS.2.1, if_pos hR.1.1.1, kS.2.1, hR.1.compare kR.1 (by omega) (by omega), Option.bind_some, f44, if_neg (show ¬ (x ≠ 0) from fun z => z hx)]
    · rw [if_neg hx, f44, if_pos hx, if_pos hx]
  unfold f_X1_compareInList ccmp
  rw [if_pos hS.1, if_pos kS.1, hS.2.2.2.1, kS.2.2.2.1, hR.2.2.1.dcompare kR.2.2.1 hu hv, Option.bind_some]
  by_cases hx : dcmp (cD u) (cD v) = 0
  · rw [if_pos hx, hS.2.2.2.2, kS.2.2.2.2, if_pos hR.2.2.2.1.1, hR.2.2.2.compare kR.2.2.2 (by omega) (by omega), Option.bind_some, f28, if_neg (show ¬ (dcmp (cD u) (cD v) ≠ 0) from fun z => z hx)]
  · rw [if_neg hx, f28, if_pos hx, if_pos hx]
def wgt (p : Nat) (v : CkV) : Int64 := if p = 0 then cA v else if p = 1 then cC v else if p = 2 then (if cE v = -1 then 9223372036854775807 else cE v) else (-(nI ((cN v).length + (cV v).length))).toInt64
def vict (p : Nat) (u v : CkV) : Bool := if cR u = cR v then (if cX u = cX v then (if wgt p u = wgt p v then decide (cS u < cS v) else decide (wgt p u < wgt p v)) else cX v) else decide (cR u < cR v)
theorem Ck.weight {A : Hp} {a p : Nat} {u : CkV} (h : Ck A a u) (hp : p ≤ 3) : f_X1_weight A a (nI p) = some (wgt p u) := by
  obtain ⟨hS, hF, hR⟩ := h
  unfold f_X1_weight wgt
  have e : ∀ n m, n < 100 → m < 100 → (nI n = nI m ↔ n = m) := fun n m h1 h2 => nI_eq (by omega) (by omega)
  by_cases h0 : p = 0
  · rw [if_pos (show nI p = 0 by rw [h0]; rfl), if_pos hS.1, if_pos h0, hF.1.2.2]
  · rw [if_neg (show ¬ nI p = 0 from fun z => h0 ((e p 0 (by omega) (by omega)).mp z)), if_neg h0]
    by_cases h1 : p = 1
    · rw [if_pos (show nI p = 1 by rw [h1]; rfl), if_pos hS.1, if_pos h1, hF.1.2.1]
    · rw [if_neg (show ¬ nI p = 1 from fun z => h1 ((e p 1 (by omega) (by omega)).mp z)), if_neg h1]
      by_cases h2 : p = 2
      · rw [if_pos (show nI p = 2 by rw [h2]; rfl), if_pos hS.1, if_pos h2, hF.1.1, ifS]
      · rw [if_neg (show ¬ nI p = 2 from fun z => h2 ((e p 2 (by omega) (by omega)).mp z)), if_neg h2, if_pos hS.1, hS.2.1, if_pos hR.1.1.1, hS.2.2.1, if_pos hR.2.1.1.1, hR.1.2.1, hR.2.1.2.1, nI_add]
theorem Ck.isVictimBefore {A : Hp} {a b p : Nat} {u v : CkV} (h : Ck A a u) (k : Ck A b v) (hp : p ≤ 3) (hu : okv u) (hv : okv v) : f_X1_isVictimBefore A a b (nI p) = some (bI (vict p u v)) := by
  obtain ⟨-, -, u3, -, u5⟩ := hu
  obtain ⟨-, -, v3, -, v5⟩ := hv
  unfold f_X1_isVictimBefore vict
  rw [if_pos h.1.1, if_pos k.1.1, h.2.1.2.2.2.2.2.2, k.2.1.2.2.2.2.2.2, h.2.1.2.2.2.1, k.2.1.2.2.2.1, h.weight hp, Option.bind_some, k.weight hp, Option.bind_some, lcmp_, Option.bind_some, h.2.1.2.1, k.2.1.2.1]
  by_cases h1 : cR u = cR v
  · rw [if_pos (by rw [h1]), if_pos h1]
    by_cases h2 : cX u = cX v
    · rw [if_pos (by rw [h2]), if_pos h2]
      by_cases h3 : wgt p u = wgt p v
      · rw [if_pos h3, if_pos rfl, if_pos h3]
        by_cases h4 : cS u < cS v
        · rw [if_neg (nI_ge h4 (by omega)), decide_eq_true h4]; rfl
        · rw [if_pos (nI_le (by omega) (by omega)), decide_eq_false h4]; rfl
      · rw [if_neg h3, if_neg h3]
        by_cases h4 : wgt p u < wgt p v
        · rw [if_pos h4, if_neg (by decide), if_neg (by decide), decide_eq_true h4]; rfl
        · rw [if_neg h4, if_neg (by decide), if_pos (by decide), decide_eq_false h4]; rfl
    · rw [if_neg (fun z => h2 (by revert z; cases cX u <;> cases cX v <;> decide)), if_neg h2, if_pos (bI_Z _)]
  · rw [if_neg (fun z => h1 ((nI_eq (by omega) (by omega)).mp z)), if_neg h1]
    by_cases h4 : cR u < cR v
    · rw [if_neg (nI_ge h4 (by omega)), decide_eq_true h4]; rfl
    · rw [if_pos (nI_le (by omega) (by omega)), decide_eq_false h4]; rfl
def sntB (u v : CkV) : Bool := if (cP u).length = (cP v).length then decide (cS u < cS v) else decide ((cP v).length < (cP u).length)
theorem Ck.isSentBefore {A : Hp} {a b : Nat} {u v : CkV} (h : Ck A a u) (k : Ck A b v) (hu : okv u) (hv : okv v) : f_X1_isSentBefore A a b = some (bI (sntB u v)) := by
  obtain ⟨-, -, u3, -, u5⟩ := hu
  obtain ⟨-, -, v3, -, v5⟩ := hv
  have l2 := h.2.2.2.2.2.2.2.1
  have l4 := k.2.2.2.2.2.2.2.1
  unfold f_X1_isSentBefore sntB
  rw [if_pos h.1.1, h.1.2.2.2.2, if_pos h.2.2.2.2.2.1.1, if_pos k.1.1, k.1.2.2.2.2, if_pos k.2.2.2.2.2.1.1, h.2.2.2.2.2.2.1, k.2.2.2.2.2.2.1, h.2.1.2.1, k.2.1.2.1]
  by_cases h1 : (cP u).length = (cP v).length
  · rw [if_pos (by rw [h1]), if_pos h1]
    by_cases h4 : cS u < cS v
    · rw [if_neg (nI_ge h4 (by omega)), decide_eq_true h4]; rfl
    · rw [if_pos (nI_le (by omega) (by omega)), decide_eq_false h4]; rfl
  · rw [if_neg (fun z => h1 ((nI_eq (by omega) (by omega)).mp z)), if_neg h1]
    by_cases h4 : (cP v).length < (cP u).length
    · rw [if_neg (nI_ge h4 (by omega)), decide_eq_true h4]; rfl
    · rw [if_pos (nI_le (by omega) (by omega)), decide_eq_false h4]; rfl
def grd (u f : CkV) : Bool := cX u && decide (cN u = cN f) && (dm (cD u) (cD f) || dm (cD f) (cD u)) && pm (cP f) (cP u)
theorem Ck.guards {A : Hp} {a b : Nat} {u v : CkV} (h : Ck A a u) (k : Ck A b v) (hu : okv u) : f_X1_guardsAgainst A a b = some (bI (grd u v)) := by
  obtain ⟨hS, hF, hR⟩ := h
  obtain ⟨kS, kF, kR⟩ := k
  have l1 := hR.1.2.2.1
  have l2 := hR.2.2.1.2.2.1
  have l3 := hR.2.2.2.2.2.1
  have m1 := kR.1.2.2.1
  have m2 := kR.2.2.1.2.2.1
  have m3 := kR.2.2.2.2.2.1
  have f49 : k_X1_guardsAgainst_49 A a b = some (bI (pm (cP v) (cP u))) := by
    unfold k_X1_guardsAgainst_49
    rw [if_pos kS.1, if_pos hS.1, kS.2.2.2.2, if_pos kR.2.2.2.1.1, hS.2.2.2.2, kR.2.2.2.pathMatches hR.2.2.2 (by omega) (by omega) hu.2.1, Option.bind_some]
    cases pm (cP v) (cP u) <;> rfl
  unfold f_X1_guardsAgainst grd
  rw [if_pos hS.1, hF.2.2.2.1, if_pos kS.1, hS.2.1, if_pos hR.1.1.1, kS.2.1, hR.1.same kR.1 (by omega) (by omega), Option.bind_some, hS.2.2.2.1, if_pos hR.2.2.1.1.1, kS.2.2.2.1, hR.2.2.1.domainMatches kR.2.2.1 (by omega) (by omega), Option.bind_some, if_pos kR.2.2.1.1.1, kR.2.2.1.domainMatches hR.2.2.1 (by omega) (by omega), Option.bind_some, f49]
  cases cX u
  · rfl
  · cases decide (cN u = cN v)
    · rfl
    · cases dm (cD u) (cD v)
      · cases dm (cD v) (cD u) <;> rfl
      · rfl
def mixC (v : CkV) (x : Int64) : Int64 := 31 * (31 * (31 * (31 * mixS (cP v) (mixS (cD v) (mixS (cV v) (mixS (cN v) x))) + cE v) + cC v) + cA v) + (nI (cS v)).toInt64
theorem Ck.mix {A : Hp} {a : Nat} {u : CkV} (h : Ck A a u) (x : Int64) : f_X1_mix A a x = some (mixC u x) := by
  obtain ⟨hS, hF, hR⟩ := h
  have l1 := hR.1.2.2.1
  have l2 := hR.2.1.2.2.1
  have l3 := hR.2.2.1.2.2.1
  have l4 := hR.2.2.2.2.2.1
  unfold f_X1_mix mixC
  rw [if_pos hS.1, hS.2.1, if_pos hR.1.1.1, hR.1.mix (by omega), Option.bind_some, hS.2.2.1, if_pos hR.2.1.1.1, hR.2.1.mix (by omega), Option.bind_some, hS.2.2.2.1, if_pos hR.2.2.1.1.1, hR.2.2.1.mix (by omega), Option.bind_some, hS.2.2.2.2, if_pos hR.2.2.2.1.1, hR.2.2.2.mix (by omega), Option.bind_some, hF.1.1, hF.1.2.1, hF.1.2.2, hF.2.1]
