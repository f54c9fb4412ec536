/-! the jar of the class -/
abbrev JV : Type := (List CkV × SL) × (AdV × AdV) × List Int32 × (Nat → Nat) × (Nat → Nat) × Nat × Nat × Int64
abbrev jC (v : JV) : List CkV := v.1.1
abbrev jU (v : JV) : SL := v.1.2
abbrev jG (v : JV) : AdV := v.2.1.1
abbrev jR (v : JV) : AdV := v.2.1.2
abbrev jH (v : JV) : List Int32 := v.2.2.1
abbrev jL (v : JV) : Nat → Nat := v.2.2.2.1
abbrev jK (v : JV) : Nat → Nat := v.2.2.2.2.1
abbrev jP (v : JV) : Nat := v.2.2.2.2.2.1
abbrev jX (v : JV) : Nat := v.2.2.2.2.2.2.1
abbrev jT (v : JV) : Int64 := v.2.2.2.2.2.2.2
def ck0 : CkV := (([], [], [], []), (0, 0, 0), 0, (false, false, false, 0, 0))
abbrev cg (cs : List CkV) (i : Nat) : CkV := cs.getD i ck0
theorem cg_drop {cs : List CkV} {i : Nat} (h : i < cs.length) : cs.drop i = cg cs i :: cs.drop (i + 1) := by
  rw [cg, List.getD_eq_getElem?_getD, List.getElem?_eq_getElem h]
  exact List.drop_eq_getElem_cons h
theorem cg_mem {cs : List CkV} {i : Nat} (h : i < cs.length) : cg cs i ∈ cs := by
  rw [cg, List.getD_eq_getElem?_getD, List.getElem?_eq_getElem h]
  exact List.getElem_mem h
def JS (A : Hp) (J : Nat) : Prop := ((hsh A J).1 = 3 ∧ hgR A 128 J 0 = J + 1 ∧ hgR A 130 J 0 = J + 371 ∧ hgR A 131 J 0 = J + 380 ∧ hgR A 132 J 0 = J + 381 ∧ hgR A 133 J 0 = J + 395 ∧ hgR A 134 J 0 = J + 400 ∧ hgR A 135 J 0 = J + 405 ∧ hgR A 136 J 0 = J + 407 ∧ hgR A 137 J 0 = J + 408) ∧ hsh A (J + 1) = (13, 41) ∧ hsh A (J + 380) = (10, 41) ∧ hsh A (J + 407) = (10, 2) ∧ hsh A (J + 408) = (10, 7)
/-- the cookies: at addresses ad -/
def JC (A : Hp) (J : Nat) (ad : Nat → Nat) (cs : List CkV) : Prop := (∀ i, i < 41 → hgR A 1037 (J + 1) i = ad i) ∧ (∀ i, i < 41 → ∃ p, p < 41 ∧ ad i = J + 2 + 9 * p) ∧ (∀ i j, i < 41 → j < 41 → ad i = ad j → i = j) ∧ hgI A 129 J 0 = nI cs.length ∧ cs.length ≤ 41 ∧ (∀ i, i < cs.length → Ck A (ad i) (cg cs i)) ∧ ∀ i, i < 41 → ∃ v, Ck A (ad i) v
def JF (A : Hp) (J : Nat) (v : JV) : Prop := hgI A 138 J 0 = nI (jP v) ∧ hgI A 139 J 0 = nI (jX v) ∧ hgL A 140 J 0 = jT v
def JQ (A : Hp) (J : Nat) (v : JV) : Prop := Sx A (J + 381) (jU v) ∧ Ad A (J + 395) (jG v) ∧ Ad A (J + 400) (jR v) ∧ Rw A (J + 405) 2091 (jH v) ∧ (∀ i, i < 2 → hgI A 1034 (J + 407) i = nI (jL v i)) ∧ ∀ i, i < 7 → hgI A 1034 (J + 408) i = nI (jK v i)
def Jr (A : Hp) (J : Nat) (v : JV) (f : CkV) : Prop := JS A J ∧ JF A J v ∧ JQ A J v ∧ (∃ ad, JC A J ad (jC v)) ∧ Ck A (J + 371) f
def jrP (J : Nat) : Nat → Prop := fun q => J ≤ q ∧ q < J + 409
theorem JS.eq {A B : Hp} {P : Nat → Prop} {J : Nat} (h : JS A J) (e : Eqx P A B) (hP : ¬ P J) : JS B J := by
  obtain ⟨⟨a0, a1, a2, a3, a4, a5, a6, a7, a8, a9⟩, b1, b2, b3, b4⟩ := h
  exact ⟨⟨by rw [e.2.1]; exact a0, by rw [e.R hP]; exact a1, by rw [e.R hP]; exact a2, by rw [e.R hP]; exact a3, by rw [e.R hP]; exact a4, by rw [e.R hP]; exact a5, by rw [e.R hP]; exact a6, by rw [e.R hP]; exact a7, by rw [e.R hP]; exact a8, by rw [e.R hP]; exact a9⟩, by rw [e.2.1]; exact b1, by rw [e.2.1]; exact b2, by rw [e.2.1]; exact b3, by rw [e.2.1]; exact b4⟩
theorem JC.eq {A B : Hp} {P : Nat → Prop} {J : Nat} {ad : Nat → Nat} {cs : List CkV} (h : JC A J ad cs) (e : Eqx P A B) (hP : ∀ q, J ≤ q → q < J + 371 → ¬ P q) : JC B J ad cs := by
  obtain ⟨a1, a2, a3, a4, a5, a6, a7⟩ := h
  have pc : ∀ i, i < 41 → ∀ q, ckP (ad i) q → ¬ P q := fun i hi q hq => by
    obtain ⟨p, hp, e9⟩ := a2 i hi
    have := hq.1
    have := hq.2
    exact hP q (by omega) (by omega)
  exact ⟨fun i hi => by rw [e.R (hP _ (by omega) (by omega))]; exact a1 i hi, a2, a3, by rw [e.I (hP _ (by omega) (by omega))]; exact a4, a5, fun i hi => (a6 i hi).eq e (pc i (by omega)), fun i hi => by obtain ⟨v, hv⟩ := a7 i hi; exact ⟨v, hv.eq e (pc i hi)⟩⟩
theorem JF.eq {A B : Hp} {P : Nat → Prop} {J : Nat} {v : JV} (h : JF A J v) (e : Eqx P A B) (hP : ¬ P J) : JF B J v :=
  ⟨by rw [e.I hP]; exact h.1, by rw [e.I hP]; exact h.2.1, by rw [e.L hP]; exact h.2.2⟩
theorem JQ.eq {A B : Hp} {P : Nat → Prop} {J : Nat} {v : JV} (h : JQ A J v) (e : Eqx P A B) (hP : ∀ q, J + 381 ≤ q → q < J + 409 → ¬ P q) : JQ B J v := by
  obtain ⟨a1, a2, a3, a4, a5, a6⟩ := h
  exact ⟨a1.eq e (fun q z => hP q z.1 (by have := z.2; omega)), a2.eq e (fun q z => hP q (by have := z.1; omega) (by have := z.2; omega)), a3.eq e (fun q z => hP q (by have := z.1; omega) (by have := z.2; omega)), a4.eq e (hP _ (by omega) (by omega)) (hP _ (by omega) (by omega)), fun i hi => by rw [e.I (hP _ (by omega) (by omega))]; exact a5 i hi, fun i hi => by rw [e.I (hP _ (by omega) (by omega))]; exact a6 i hi⟩
theorem Jr.eq {A B : Hp} {P : Nat → Prop} {J : Nat} {v : JV} {f : CkV} (h : Jr A J v f) (e : Eqx P A B) (hP : ∀ q, jrP J q → ¬ P q) : Jr B J v f := by
  obtain ⟨h1, h2, h3, ⟨ad, h4⟩, h5⟩ := h
  have p : ∀ q, J ≤ q → q < J + 409 → ¬ P q := fun q z1 z2 => hP q ⟨z1, z2⟩
  exact ⟨h1.eq e (p _ (by omega) (by omega)), h2.eq e (p _ (by omega) (by omega)), h3.eq e (fun q z1 z2 => p q (by omega) z2), ⟨ad, h4.eq e (fun q z1 z2 => p q z1 (by omega))⟩, h5.eq e (fun q z => p q (by have := z.1; omega) (by have := z.2; omega))⟩
-- all cookies of the list
def okl (cs : List CkV) : Prop := ∀ c ∈ cs, okv c
section
variable {A : Hp} {J : Nat} {ad : Nat → Nat} {cs : List CkV} {v : JV} {f : CkV}
def plc (f : CkV) : List CkV → Nat
  | [] => 0
  | c :: cs => if ccmp c f < 0 then plc f cs + 1 else 0
theorem plc_le (f : CkV) : ∀ cs, plc f cs ≤ cs.length := by
  intro cs
  induction cs with
  | nil => exact Nat.le_refl _
  | cons c cs ih =>
    show (if ccmp c f < 0 then plc f cs + 1 else 0) ≤ cs.length + 1
    split <;> omega
theorem JC.place (hS : JS A J) (h : JC A J ad cs) (hf : Ck A (J + 371) f) (ho : okl cs) (hd : isDom (cD f) = true) : f_X4_place A J = some (nI (plc f cs)) := by
  obtain ⟨⟨a0, a1, a2, a3, a4, a5, a6, a7, a8, a9⟩, b1, b2, b3, b4⟩ := hS
  obtain ⟨c1, c2, c3, c4, c5, c6, c7⟩ := h
  have L : ∀ e i fu, i + e = cs.length → e < fu → k_X4_place_2 A J fu (nI i) = some (nI (i + plc f (cs.drop i))) := by
    intro e
    induction e with
    | zero =>
      intro i fu h1 h2
      obtain ⟨fu, rfl⟩ : ∃ f, fu = f + 1 := ⟨fu - 1, by omega⟩
      show k_X4_place_2s A J _ _ = _
      unfold k_X4_place_2s
      rw [if_pos a0, c4, if_pos (nI_le (by omega) (by omega)), List.drop_of_length_le (by omega)]
      rfl
    | succ e ih =>
      intro i fu h1 h2
      obtain ⟨fu, rfl⟩ : ∃ f, fu = f + 1 := ⟨fu - 1, by omega⟩
      show k_X4_place_2s A J _ _ = _
      unfold k_X4_place_2s
      have hk := c6 i (by omega)
      rw [if_pos a0, c4, if_neg (nI_ge (by omega) (by omega)), a1, b1, if_pos rfl, if_pos ((nI_wix (by omega)).mpr (show i < 41 by omega)), nI_clamp (by omega), c1 i (by omega), if_pos hk.1.1, a2, hk.compare hf (ho _ (cg_mem (by omega))).1 hd, Option.bind_some, nI_1, ih (i + 1) fu (by omega) (by omega), cg_drop (cs := cs) (i := i) (by omega)]
      show _ = some (nI (i + (if ccmp (cg cs i) f < 0 then plc f (cs.drop (i + 1)) + 1 else 0)))
      by_cases hq : ccmp (cg cs i) f < 0
      · rw [if_neg (Int32.not_le.mpr hq), if_pos hq, show i + 1 + plc f (cs.drop (i + 1)) = i + (plc f (cs.drop (i + 1)) + 1) by omega]
      · rw [if_pos (Int32.not_lt.mp hq), if_neg hq]
        rfl
  unfold f_X4_place
  have := L cs.length 0 FU (by omega) (by unfold FU; omega)
  rw [Nat.zero_add, List.drop_zero] at this
  exact this
theorem JC.isAt (hS : JS A J) (h : JC A J ad cs) (hf : Ck A (J + 371) f) (ho : okl cs) (hd : isDom (cD f) = true) {i : Nat} (hi : i ≤ cs.length) : f_X4_isAt A J (nI i) = some (bI (decide (i < cs.length ∧ ccmp (cg cs i) f = 0))) := by
  obtain ⟨⟨a0, a1, a2, a3, a4, a5, a6, a7, a8, a9⟩, b1, b2, b3, b4⟩ := hS
  obtain ⟨c1, c2, c3, c4, c5, c6, c7⟩ := h
  unfold f_X4_isAt
  rw [if_pos a0, c4]
  by_cases hl : i < cs.length
  · have hk := c6 i hl
    rw [if_neg (nI_ge hl (by omega)), a1, b1, if_pos rfl, if_pos ((nI_wix (by omega)).mpr (show i < 41 by omega)), nI_clamp (by omega), c1 i (by omega), if_pos hk.1.1, a2, hk.compare hf (ho _ (cg_mem hl)).1 hd, Option.bind_some, ifI]
    exact bIc ⟨fun z => ⟨hl, z⟩, fun z => z.2⟩
  · rw [if_pos (nI_le (by omega) (by omega)), decide_eq_false (fun z => hl z.1)]
    rfl
theorem JC.isGuarded (hS : JS A J) (h : JC A J ad cs) (hf : Ck A (J + 371) f) (ho : okl cs) : f_X4_isGuarded A J = some (bI (cs.any (fun c => grd c f))) := by
  obtain ⟨⟨a0, a1, a2, a3, a4, a5, a6, a7, a8, a9⟩, b1, b2, b3, b4⟩ := hS
  obtain ⟨c1, c2, c3, c4, c5, c6, c7⟩ := h
  have L : ∀ e i fu, i + e = cs.length → e < fu → k_X4_isGuarded_2 A J fu (nI i) = some (bI ((cs.drop i).any (fun c => grd c f))) := by
    intro e
    induction e with
    | zero =>
      intro i fu h1 h2
      obtain ⟨fu, rfl⟩ : ∃ f, fu = f + 1 := ⟨fu - 1, by omega⟩
      show k_X4_isGuarded_2s A J _ _ = _
      unfold k_X4_isGuarded_2s
      rw [if_pos a0, c4, if_pos (nI_le (by omega) (by omega)), List.drop_of_length_le (by omega)]
      rfl
    | succ e ih =>
      intro i fu h1 h2
      obtain ⟨fu, rfl⟩ : ∃ f, fu = f + 1 := ⟨fu - 1, by omega⟩
      show k_X4_isGuarded_2s A J _ _ = _
      unfold k_X4_isGuarded_2s
      have hk := c6 i (by omega)
      rw [if_pos a0, c4, if_neg (nI_ge (by omega) (by omega)), a1, b1, if_pos rfl, if_pos ((nI_wix (by omega)).mpr (show i < 41 by omega)), nI_clamp (by omega), c1 i (by omega), if_pos hk.1.1, a2, hk.guards hf (ho _ (cg_mem (by omega))), Option.bind_some, nI_1, ih (i + 1) fu (by omega) (by omega), cg_drop (cs := cs) (i := i) (by omega), List.any_cons]
      cases grd (cg cs i) f <;> rfl
  unfold f_X4_isGuarded
  exact L cs.length 0 FU (by omega) (by unfold FU; omega)
theorem JC.sizeOfSite (hS : JS A J) (h : JC A J ad cs) {us : SL} (hU : Sx A (J + 381) us) {r cap : Nat} {d : List Int32} (hr : Rw A r cap d) (hd : d.length < 16000) : f_X4_sizeOfSite A J r = some (nI (cs.countP (fun c => sameSt us (cD c) d))) := by
  obtain ⟨⟨a0, a1, a2, a3, a4, a5, a6, a7, a8, a9⟩, b1, b2, b3, b4⟩ := hS
  obtain ⟨c1, c2, c3, c4, c5, c6, c7⟩ := h
  have L : ∀ e i n fu, i + e = cs.length → e < fu → k_X4_sizeOfSite_4 A J r fu (nI n) (nI i) = some (nI (n + (cs.drop i).countP (fun c => sameSt us (cD c) d))) := by
    intro e
    induction e with
    | zero =>
      intro i n fu h1 h2
      obtain ⟨fu, rfl⟩ : ∃ f, fu = f + 1 := ⟨fu - 1, by omega⟩
      show k_X4_sizeOfSite_4s A J r _ _ _ = _
      unfold k_X4_sizeOfSite_4s
      rw [if_pos a0, c4, if_pos (nI_le (by omega) (by omega)), List.drop_of_length_le (by omega)]
      rfl
    | succ e ih =>
      intro i n fu h1 h2
      obtain ⟨fu, rfl⟩ : ∃ f, fu = f + 1 := ⟨fu - 1, by omega⟩
      show k_X4_sizeOfSite_4s A J r _ _ _ = _
      unfold k_X4_sizeOfSite_4s k_X4_sizeOfSite_35
      have hk := c6 i (by omega)
      rw [if_pos a0, c4, if_neg (nI_ge (by omega) (by omega)), a1, b1, if_pos rfl, if_pos ((nI_wix (by omega)).mpr (show i < 41 by omega)), nI_clamp (by omega), c1 i (by omega), if_pos hk.1.1, a4, if_pos hU.1.1, hk.1.2.2.2.1, hU.sameSites hk.2.2.2.2.1 hr (by have := hk.2.2.2.2.1.2.2.1; omega) hd, Option.bind_some, nI_1, nI_1, cg_drop (cs := cs) (i := i) (by omega), List.countP_cons]
      cases sameSt us (cD (cg cs i)) d
      · rw [if_pos (by rfl), ih (i + 1) n fu (by omega) (by omega)]
        rfl
      · rw [if_neg (by decide), ih (i + 1) (n + 1) fu (by omega) (by omega), if_pos rfl]
        congr 2
        omega
  unfold f_X4_sizeOfSite
  have := L cs.length 0 0 FU (by omega) (by unfold FU; omega)
  rw [Nat.zero_add] at this
  exact this
/-- one step of the search for the victim -/
def vicS (p : Nat) (cs : List CkV) (ok : CkV → Bool) (o : Option Nat) (i : Nat) : Option Nat := if ok (cg cs i) then (match o with | none => some i | some j => if vict p (cg cs i) (cg cs j) then some i else some j) else o
def vicD (p : Nat) (cs : List CkV) (ok : CkV → Bool) : Nat → Nat → Option Nat → Option Nat
  | 0, _, o => o
  | d + 1, i, o => vicD p cs ok d (i + 1) (vicS p cs ok o i)
def vic (p : Nat) (cs : List CkV) (ok : CkV → Bool) : Option Nat := vicD p cs ok cs.length 0 none
/-- spared: none, or a number -/
def spI (s : Option Nat) : Int32 := oI s
def spB (s : Option Nat) (c : CkV) : Bool := match s with
  | none => true
  | some n => decide (cS c ≠ n)
theorem JC.victimOf (hS : JS A J) (h : JC A J ad cs) (hF : JF A J v) (ho : okl cs) (hp : jP v ≤ 3) {o : Option Nat} {i : Nat} {s : Option Nat} (hi : i < cs.length) (hs : ∀ n, s = some n → n < 100000) (hO : ∀ j, o = some j → j < i) : f_X4_victimOf A J (oI o) (nI i) (spI s) = some (oI (vicS (jP v) cs (spB s) o i)) := by
  obtain ⟨⟨a0, a1, a2, a3, a4, a5, a6, a7, a8, a9⟩, b1, b2, b3, b4⟩ := hS
  obtain ⟨c1, c2, c3, c4, c5, c6, c7⟩ := h
  have hk := c6 i hi
  have hok := ho _ (cg_mem hi)
  unfold f_X4_victimOf k_X4_victimOf_41 vicS
  rw [if_pos a0, a1, b1, if_pos rfl, if_pos ((nI_wix (by omega)).mpr (show i < 41 by omega)), nI_clamp (by omega), c1 i (by omega), if_pos hk.1.1, hk.2.1.2.1]
  have hsp : (nI (cS (cg cs i)) = spI s) ↔ spB s (cg cs i) = false := by
    cases s with
    | none => exact ⟨fun z => absurd z.symm (m1_ne (by have := hok.2.2.1; omega)), fun z => by cases z⟩
    | some n =>
      show nI _ = nI n ↔ decide (cS (cg cs i) ≠ n) = false
      rw [nI_eq (by have := hok.2.2.1; omega) (by have := hs n rfl; omega), decide_eq_false_iff_not, Decidable.not_not]
  cases hb : spB s (cg cs i)
  · rw [if_pos (hsp.mpr hb)]
    rfl
  · rw [if_neg (fun z => by rw [hsp.mp z] at hb; cases hb), if_pos rfl]
    cases o with
    | none => rw [oI_none, if_pos (by decide)]; rfl
    | some j =>
      have hj := hO j rfl
      have hkj := c6 j (by omega)
      rw [oI_some, if_neg (nI_pos (by omega)), if_pos ((nI_wix (by omega)).mpr (show j < 41 by omega)), nI_clamp (by omega), c1 j (by omega), hF.1, hk.isVictimBefore hkj hp hok (ho _ (cg_mem (by omega))), Option.bind_some]
      show _ = some (oI (if vict (jP v) (cg cs i) (cg cs j) = true then some i else some j))
      cases vict (jP v) (cg cs i) (cg cs j) <;> rfl
theorem vicS_lt {p : Nat} {cs : List CkV} {ok : CkV → Bool} {o : Option Nat} {i : Nat} (h : ∀ j, o = some j → j < i) : ∀ j, vicS p cs ok o i = some j → j < i + 1 := by
  intro j hj
  unfold vicS at hj
  split at hj
  · split at hj
    · cases hj; omega
    · rename_i j'
      have := h j' rfl
      split at hj <;> (cases hj; omega)
  · have := h j hj; omega
theorem JC.victimOfAll (hS : JS A J) (h : JC A J ad cs) (hF : JF A J v) (ho : okl cs) (hp : jP v ≤ 3) {s : Option Nat} (hs : ∀ n, s = some n → n < 100000) : f_X4_victimOfAll A J (spI s) = some (oI (vic (jP v) cs (spB s))) := by
  have h' := h
  have hS' := hS
  obtain ⟨⟨a0, -⟩, -⟩ := hS
  obtain ⟨c1, c2, c3, c4, c5, c6, c7⟩ := h
  have L : ∀ e i o fu, i + e = cs.length → e < fu → (∀ j, o = some j → j < i) → k_X4_victimOfAll_4 A J (spI s) fu (oI o) (nI i) = some (oI (vicD (jP v) cs (spB s) e i o)) := by
    intro e
    induction e with
    | zero =>
      intro i o fu h1 h2 h3
      obtain ⟨fu, rfl⟩ : ∃ f, fu = f + 1 := ⟨fu - 1, by omega⟩
      show k_X4_victimOfAll_4s A J _ _ _ _ = _
      unfold k_X4_victimOfAll_4s
      rw [if_pos a0, c4, if_pos (nI_le (by omega) (by omega))]
      rfl
    | succ e ih =>
      intro i o fu h1 h2 h3
      obtain ⟨fu, rfl⟩ : ∃ f, fu = f + 1 := ⟨fu - 1, by omega⟩
      show k_X4_victimOfAll_4s A J _ _ _ _ = _
      unfold k_X4_victimOfAll_4s
      rw [if_pos a0, c4, if_neg (nI_ge (by omega) (by omega)), h'.victimOf hS' hF ho hp (by omega) hs h3, Option.bind_some, nI_1, ih (i + 1) _ fu (by omega) (by omega) (vicS_lt h3)]
      rfl
  unfold f_X4_victimOfAll vic
  exact L cs.length 0 none FU (by omega) (by unfold FU; omega) (fun j hj => by cases hj)
theorem JC.victimOfSite (hS : JS A J) (h : JC A J ad cs) (hF : JF A J v) (ho : okl cs) (hp : jP v ≤ 3) {s : Option Nat} (hs : ∀ n, s = some n → n < 100000) {us : SL} (hU : Sx A (J + 381) us) {r cap : Nat} {d : List Int32} (hr : Rw A r cap d) (hd : d.length < 16000) : f_X4_victimOfSite A J r (spI s) = some (oI (vic (jP v) cs (fun c => spB s c && sameSt us (cD c) d))) := by
  have h' := h
  have hS' := hS
  obtain ⟨⟨a0, a1, a2, a3, a4, a5, a6, a7, a8, a9⟩, b1, b2, b3, b4⟩ := hS
  obtain ⟨c1, c2, c3, c4, c5, c6, c7⟩ := h
  have L : ∀ e i o fu, i + e = cs.length → e < fu → (∀ j, o = some j → j < i) → k_X4_victimOfSite_5 A J r (spI s) fu (oI o) (nI i) = some (oI (vicD (jP v) cs (fun c => spB s c && sameSt us (cD c) d) e i o)) := by
    intro e
    induction e with
    | zero =>
      intro i o fu h1 h2 h3
      obtain ⟨fu, rfl⟩ : ∃ f, fu = f + 1 := ⟨fu - 1, by omega⟩
      show k_X4_victimOfSite_5s A J r _ _ _ _ = _
      unfold k_X4_victimOfSite_5s
      rw [if_pos a0, c4, if_pos (nI_le (by omega) (by omega))]
      rfl
    | succ e ih =>
      intro i o fu h1 h2 h3
      obtain ⟨fu, rfl⟩ : ∃ f, fu = f + 1 := ⟨fu - 1, by omega⟩
      show k_X4_victimOfSite_5s A J r _ _ _ _ = _
      unfold k_X4_victimOfSite_5s k_X4_victimOfSite_44
      have hk := c6 i (by omega)
      rw [if_pos a0, c4, if_neg (nI_ge (by omega) (by omega)), a1, b1, if_pos rfl, if_pos ((nI_wix (by omega)).mpr (show i < 41 by omega)), nI_clamp (by omega), c1 i (by omega), if_pos hk.1.1, a4, if_pos hU.1.1, hk.1.2.2.2.1, hU.sameSites hk.2.2.2.2.1 hr (by have := hk.2.2.2.2.1.2.2.1; omega) hd, Option.bind_some, h'.victimOf hS' hF ho hp (by omega) hs h3, Option.bind_some, nI_1]
      have e9 : vicS (jP v) cs (fun c => spB s c && sameSt us (cD c) d) o i = if sameSt us (cD (cg cs i)) d then vicS (jP v) cs (spB s) o i else o := by
        unfold vicS
        show (if (spB s (cg cs i) && sameSt us (cD (cg cs i)) d) = true then _ else _) = _
        cases sameSt us (cD (cg cs i)) d
        · rw [Bool.and_false]; rfl
        · rw [Bool.and_true]; rfl
      show _ = some (oI (vicD (jP v) cs _ e (i + 1) (vicS (jP v) cs _ o i)))
      rw [e9]
      cases hb : sameSt us (cD (cg cs i)) d
      · rw [if_pos (by rfl), ih (i + 1) o fu (by omega) (by omega) (fun j hj => by have := h3 j hj; omega)]
        rfl
      · rw [if_neg (by decide), ih (i + 1) _ fu (by omega) (by omega) (vicS_lt h3)]
        rfl
  unfold f_X4_victimOfSite vic
  exact L cs.length 0 none FU (by omega) (by unfold FU; omega) (fun j hj => by cases hj)
end
