/-! rows of the class -/
def Eqx (P : Nat → Prop) (A B : Hp) : Prop := (∀ a, ¬ P a → (∀ f j, hgI B f a j = hgI A f a j) ∧ (∀ f j, hgL B f a j = hgL A f a j) ∧ (∀ f j, hgR B f a j = hgR A f a j)) ∧ (∀ a, hsh B a = hsh A a) ∧ hsz B = hsz A
theorem Eqx.rf {P : Nat → Prop} {A : Hp} : Eqx P A A := ⟨fun _ _ => ⟨fun _ _ => rfl, fun _ _ => rfl, fun _ _ => rfl⟩, fun _ => rfl, rfl⟩
theorem Eqx.tr {P : Nat → Prop} {A B C : Hp} (h : Eqx P A B) (k : Eqx P B C) : Eqx P A C :=
  ⟨fun a ha => ⟨fun f j => ((k.1 a ha).1 f j).trans ((h.1 a ha).1 f j), fun f j => ((k.1 a ha).2.1 f j).trans ((h.1 a ha).2.1 f j), fun f j => ((k.1 a ha).2.2 f j).trans ((h.1 a ha).2.2 f j)⟩, fun a => (k.2.1 a).trans (h.2.1 a), k.2.2.trans h.2.2⟩
theorem Eqx.mo {P Q : Nat → Prop} {A B : Hp} (h : Eqx P A B) (hq : ∀ a, P a → Q a) : Eqx Q A B := ⟨fun a ha => h.1 a (fun q => ha (hq a q)), h.2⟩
theorem Eqx.I {P : Nat → Prop} {A B : Hp} (h : Eqx P A B) {a : Nat} (ha : ¬ P a) (f j : Nat) : hgI B f a j = hgI A f a j := (h.1 a ha).1 f j
theorem Eqx.L {P : Nat → Prop} {A B : Hp} (h : Eqx P A B) {a : Nat} (ha : ¬ P a) (f j : Nat) : hgL B f a j = hgL A f a j := (h.1 a ha).2.1 f j
theorem Eqx.R {P : Nat → Prop} {A B : Hp} (h : Eqx P A B) {a : Nat} (ha : ¬ P a) (f j : Nat) : hgR B f a j = hgR A f a j := (h.1 a ha).2.2 f j
theorem Eqx.sI {P : Nat → Prop} {A : Hp} {f a j : Nat} {v : Int32} (h : P a) : Eqx P A (hsI A f a j v) :=
  ⟨fun b hb => ⟨fun f' j' => by rw [hgI_sI, if_neg (fun q => hb (by rw [q.2.1]; exact h))], fun _ _ => rfl, fun _ _ => rfl⟩, fun _ => rfl, rfl⟩
theorem Eqx.sL {P : Nat → Prop} {A : Hp} {f a j : Nat} {v : Int64} (h : P a) : Eqx P A (hsL A f a j v) :=
  ⟨fun b hb => ⟨fun _ _ => rfl, fun f' j' => by rw [hgL_sL, if_neg (fun q => hb (by rw [q.2.1]; exact h))], fun _ _ => rfl⟩, fun _ => rfl, rfl⟩
theorem Eqx.sR {P : Nat → Prop} {A : Hp} {f a j : Nat} {v : Nat} (h : P a) : Eqx P A (hsR A f a j v) :=
  ⟨fun b hb => ⟨fun _ _ => rfl, fun _ _ => rfl, fun f' j' => by rw [hgR_sR, if_neg (fun q => hb (by rw [q.2.1]; exact h))]⟩, fun _ => rfl, rfl⟩
def Rw (A : Hp) (r cap : Nat) (s : List Int32) : Prop := ((hsh A r).1 = 5 ∧ hgR A 256 r 0 = r + 1 ∧ hsh A (r + 1) = (9, cap) ∧ cap ≤ 20000) ∧ hgI A 257 r 0 = nI s.length ∧ s.length ≤ cap ∧ oks s ∧ ∀ i, i < s.length → hgI A 1033 (r + 1) i = g s i
theorem Rw.eq {A B : Hp} {P : Nat → Prop} {r cap : Nat} {s : List Int32} (h : Rw A r cap s) (e : Eqx P A B) (h1 : ¬ P r) (h2 : ¬ P (r + 1)) : Rw B r cap s := by
  obtain ⟨⟨a1, a2, a3, a4⟩, a5, a6, a7, a8⟩ := h
  exact ⟨⟨by rw [e.2.1]; exact a1, by rw [e.R h1]; exact a2, by rw [e.2.1]; exact a3, a4⟩, by rw [e.I h1]; exact a5, a6, a7, fun i hi => by rw [e.I h2]; exact a8 i hi⟩
def rP (r : Nat) : Nat → Prop := fun a => a = r ∨ a = r + 1
theorem Rw.ne {A : Hp} {r t cap cap' : Nat} {s s' : List Int32} (h : Rw A r cap s) (h' : Rw A t cap' s') (hne : t ≠ r) : ¬ rP r t ∧ ¬ rP r (t + 1) := by
  obtain ⟨⟨a1, a2, a3, a4⟩, -⟩ := h
  obtain ⟨⟨b1, b2, b3, b4⟩, -⟩ := h'
  constructor
  · rintro (q | q)
    · exact hne q
    · rw [q, a3] at b1; cases b1
  · rintro (q | q)
    · rw [← q, b3] at a1; cases a1
    · exact hne (Nat.succ.inj q)
theorem Rw.ot {A B : Hp} {r t cap cap' : Nat} {s s' : List Int32} (h : Rw A r cap s) (h' : Rw A t cap' s') (hne : t ≠ r) (e : Eqx (rP r) A B) : Rw B t cap' s' := h'.eq e (h.ne h' hne).1 (h.ne h' hne).2
theorem Rw.at {A : Hp} {r cap : Nat} {s : List Int32} (h : Rw A r cap s) {i : Nat} (hi : i < 2 ^ 31) : f_X6_at A r (nI i) = some (g s i) := by
  obtain ⟨⟨a1, a2, a3, a4⟩, a5, a6, a7, a8⟩ := h
  unfold f_X6_at
  rw [if_neg (nI_pos hi), if_pos a1, a5, a2, a3]
  by_cases hl : i < s.length
  · rw [if_neg (nI_ge hl (by omega)), if_pos rfl, if_neg (nI_ge (show i < cap by omega) (by omega)), if_pos ((nI_wix hi).mpr (show i < cap by omega)), nI_clamp hi, a8 i hl]
  · rw [if_pos (nI_le (by omega) hi), g_ge (by omega)]
theorem Rw.atm {A : Hp} {r : Nat} {x : Int32} (h : x < 0) : f_X6_at A r x = some (-1) := by
  unfold f_X6_at
  rw [if_pos h]
theorem Rw.emptyE {A : Hp} {r cap : Nat} {s : List Int32} (h : Rw A r cap s) : Rw (hsI A 257 r 0 0) r cap [] := by
  obtain ⟨⟨a1, a2, a3, a4⟩, a5, a6, a7, a8⟩ := h
  exact ⟨⟨a1, a2, a3, a4⟩, by rw [hgI_sI, if_pos ⟨rfl, rfl, rfl⟩]; rfl, Nat.zero_le _, (fun c hc => nomatch hc), fun i hi => absurd hi (Nat.not_lt_zero i)⟩
theorem Rw.empty {A : Hp} {r cap : Nat} {s : List Int32} (h : Rw A r cap s) : ∃ B, f_X6_empty A r = some B ∧ Rw B r cap [] ∧ Eqx (rP r) A B := by
  refine ⟨_, ?_, h.emptyE, Eqx.sI (Or.inl rfl)⟩
  unfold f_X6_empty
  rw [if_pos h.1.1]
theorem Rw.add {A : Hp} {r cap : Nat} {s : List Int32} (h : Rw A r cap s) {c : Int32} (hc : okc c) (hl : s.length < cap) : ∃ B, f_X6_add A r c = some B ∧ Rw B r cap (s ++ [c]) ∧ Eqx (rP r) A B := by
  obtain ⟨⟨a1, a2, a3, a4⟩, a5, a6, a7, a8⟩ := h
  refine ⟨_, ?_, ?_, Eqx.tr (Eqx.sI (f := 1033) (a := r + 1) (j := s.length) (v := c) (Or.inr rfl)) (Eqx.sI (f := 257) (a := r) (j := 0) (v := nI (s ++ [c]).length) (Or.inl rfl))⟩
  · unfold f_X6_add
    rw [if_pos a1, a5, if_neg (nI_pos (by omega)), a2, a3, if_pos rfl, if_neg (nI_ge (show s.length < cap from hl) (by omega)), if_pos ((nI_wix (by omega)).mpr hl), nI_clamp (by omega), okc_nar hc, hgI_sI, if_neg (by omega), a5, nI_1, List.length_append]
    rfl
  · refine ⟨⟨a1, a2, a3, a4⟩, by rw [hgI_sI, if_pos ⟨rfl, rfl, rfl⟩], by rw [List.length_append]; exact hl, fun d hd => ?_, fun i hi => ?_⟩
    · rcases List.mem_append.mp hd with q | q
      · exact a7 d q
      · rw [List.mem_singleton] at q; rw [q]; exact hc
    · rw [hgI_sI, if_neg (by omega), hgI_sI]
      rw [List.length_append] at hi
      have hi' : i < s.length + 1 := hi
      by_cases hq : i = s.length
      · rw [if_pos ⟨rfl, rfl, hq⟩, hq]
        simp [g]
      · rw [if_neg (fun q => hq q.2.2), a8 i (by omega)]
        simp only [g, List.getD_eq_getElem?_getD]
        rw [List.getElem?_append_left (by omega)]
/-- a part of a text -/
def sub (s : List Int32) (a b : Nat) : List Int32 := (s.take b).drop a
theorem sub_len (s : List Int32) (a b : Nat) : (sub s a b).length = min b s.length - a := by simp [sub]
theorem sub_g {s : List Int32} {a b i : Nat} (h : i < min b s.length - a) : g (sub s a b) i = g s (a + i) := by
  simp only [g, sub, List.getD_eq_getElem?_getD, List.getElem?_drop]
  rw [List.getElem?_take_of_lt (by omega)]
theorem sub_ok {s : List Int32} {a b : Nat} (h : oks s) : oks (sub s a b) := fun c hc => h c (List.mem_of_mem_take (List.mem_of_mem_drop hc))
theorem sub_all (s : List Int32) : sub s 0 s.length = s := by simp [sub]
theorem sub_nil (s : List Int32) {a b : Nat} (h : b ≤ a) : sub s a b = [] := by
  apply List.eq_nil_of_length_eq_zero
  rw [sub_len]; omega
theorem sub_snoc {s : List Int32} {a b : Nat} (h1 : a ≤ b) (h2 : b < s.length) : sub s a (b + 1) = sub s a b ++ [g s b] := by
  unfold sub
  rw [List.take_add_one, List.drop_append_of_le_length (by rw [List.length_take]; omega), List.getElem?_eq_getElem h2]
  simp [g, h2]
theorem Rw.takeL {r t cap cap' x : Nat} {s : List Int32} (hne : t ≠ r) (hx : x ≤ s.length) (hs : s.length < 16384) (from_ : Nat) (hcap : x - from_ ≤ cap) : ∀ (d i : Nat) (A : Hp) (fu : Nat), i + d = x → from_ ≤ i → d < fu → Rw A r cap (sub s from_ i) → Rw A t cap' s → ∃ B, k_X6_take_22 r t (nI x) fu A (nI i) = some B ∧ Rw B r cap (sub s from_ x) ∧ Rw B t cap' s ∧ Eqx (rP r) A B := by
  intro d
  induction d with
  | zero =>
    intro i A fu h1 h2 h3 hr ht
    obtain ⟨fu, rfl⟩ : ∃ f, fu = f + 1 := ⟨fu - 1, by omega⟩
    have : i = x := by omega
    subst this
    refine ⟨A, ?_, hr, ht, Eqx.rf⟩
    show k_X6_take_22s r t _ _ _ _ = _
    unfold k_X6_take_22s
    rw [if_pos Int32.le_rfl]
  | succ d ih =>
    intro i A fu h1 h2 h3 hr ht
    obtain ⟨fu, rfl⟩ : ∃ f, fu = f + 1 := ⟨fu - 1, by omega⟩
    have hl : (sub s from_ i).length = i - from_ := by rw [sub_len]; omega
    obtain ⟨B, e1, e2, e3⟩ := hr.add (c := g s i) (g_ok ht.2.2.2.1 (by omega)) (by omega)
    rw [← sub_snoc h2 (by omega)] at e2
    obtain ⟨C, f1, f2, f3, f4⟩ := ih (i + 1) B fu (by omega) (by omega) (by omega) e2 (hr.ot ht hne e3)
    refine ⟨C, ?_, f2, f3, e3.tr f4⟩
    show k_X6_take_22s r t _ _ _ _ = _
    unfold k_X6_take_22s
    rw [if_neg (nI_ge (by omega) (by omega)), if_pos ht.1.1, ht.at (by omega), Option.bind_some, if_pos hr.1.1, e1, Option.bind_some, nI_1, f1]
theorem Rw.take {A : Hp} {r t cap cap' a b : Nat} {s s' : List Int32} (hr : Rw A r cap s') (ht : Rw A t cap' s) (hne : t ≠ r) (hs : s.length < 16000) (ha : a < 16000) (hb : b < 16000) (hcap : min b s.length - a ≤ cap) : ∃ B, f_X6_take A r t (nI a) (nI b) = some B ∧ Rw B r cap (sub s a b) ∧ Rw B t cap' s ∧ Eqx (rP r) A B := by
  have hr0 := hr.emptyE
  have e0 : Eqx (rP r) A (hsI A 257 r 0 0) := Eqx.sI (Or.inl rfl)
  have ht0 := hr.ot ht hne e0
  unfold f_X6_take
  rw [if_pos hr.1.1, if_pos ht0.1.1, ht0.2.1, if_neg (nI_pos (show a < 2 ^ 31 by omega))]
  have hm : (if nI s.length < nI b then nI s.length else nI b) = nI (min b s.length) := by
    by_cases h : s.length < b
    · rw [if_pos (nI_lt h (by omega)), Nat.min_eq_right (by omega)]
    · rw [if_neg (nI_nlt (by omega) (by omega)), Nat.min_eq_left (by omega)]
  rw [hm]
  by_cases hab : a ≤ min b s.length
  · obtain ⟨B, e1, e2, e3, e4⟩ := Rw.takeL (r := r) (t := t) (cap := cap) (cap' := cap') (x := min b s.length) (s := s) hne (by omega) (by omega) a hcap (min b s.length - a) a _ FU (by omega) (Nat.le_refl _) (by unfold FU; omega) (by rw [sub_nil s (Nat.le_refl _)]; exact hr0) ht0
    refine ⟨B, e1, ?_, e3, e0.tr e4⟩
    have : sub s a b = sub s a (min b s.length) := by
      unfold sub
      rw [show s.take b = s.take (min b s.length) by
        rcases Nat.le_total b s.length with q | q
        · rw [Nat.min_eq_left q]
        · rw [Nat.min_eq_right q, List.take_of_length_le q, List.take_of_length_le (Nat.le_refl _)]]
    rw [this]
    exact e2
  · obtain ⟨f, hf⟩ := fu_pos (n := 0) (by omega)
    refine ⟨_, ?_, ?_, ht0, e0⟩
    · rw [hf]
      show k_X6_take_22s r t _ _ _ _ = _
      unfold k_X6_take_22s
      rw [if_pos (nI_le (by omega) (by omega))]
    · have : sub s a b = [] := by
        apply List.eq_nil_of_length_eq_zero
        rw [sub_len]; omega
      rw [this]
      exact hr0
theorem Rw.copy {A : Hp} {r t cap cap' : Nat} {s s' : List Int32} (hr : Rw A r cap s') (ht : Rw A t cap' s) (hne : t ≠ r) (hs : s.length < 16000) (hcap : s.length ≤ cap) : ∃ B, f_X6_copy A r t = some B ∧ Rw B r cap s ∧ Rw B t cap' s ∧ Eqx (rP r) A B := by
  obtain ⟨B, e1, e2, e3, e4⟩ := hr.take ht hne hs (a := 0) (b := s.length) (by omega) hs (by omega)
  rw [sub_all] at e2
  refine ⟨B, ?_, e2, e3, e4⟩
  unfold f_X6_copy
  rw [if_pos ht.1.1, if_pos hr.1.1, ht.2.1]
  show (f_X6_take A r t (nI 0) _).bind _ = _
  rw [e1]
  rfl
theorem Rw.appendL {r t cap cap' : Nat} {s s' : List Int32} (hne : t ≠ r) (hs : s.length < 16384) (hcap : s'.length + s.length ≤ cap) : ∀ (d i : Nat) (A : Hp) (fu : Nat), i + d = s.length → d < fu → Rw A r cap (s' ++ s.take i) → Rw A t cap' s → ∃ B, k_X6_append_2 r t fu A (nI i) = some B ∧ Rw B r cap (s' ++ s) ∧ Rw B t cap' s ∧ Eqx (rP r) A B := by
  intro d
  induction d with
  | zero =>
    intro i A fu h1 h3 hr ht
    obtain ⟨fu, rfl⟩ : ∃ f, fu = f + 1 := ⟨fu - 1, by omega⟩
    rw [List.take_of_length_le (by omega)] at hr
    refine ⟨A, ?_, hr, ht, Eqx.rf⟩
    show k_X6_append_2s r t _ _ _ = _
    unfold k_X6_append_2s
    rw [if_pos ht.1.1, ht.2.1, if_pos (nI_le (by omega) (by omega))]
  | succ d ih =>
    intro i A fu h1 h3 hr ht
    obtain ⟨fu, rfl⟩ : ∃ f, fu = f + 1 := ⟨fu - 1, by omega⟩
    obtain ⟨B, e1, e2, e3⟩ := hr.add (c := g s i) (g_ok ht.2.2.2.1 (by omega)) (by rw [List.length_append, List.length_take]; omega)
    rw [List.append_assoc, show s.take i ++ [g s i] = s.take (i + 1) by rw [List.take_add_one, List.getElem?_eq_getElem (show i < s.length by omega), g_lt (by omega)]; rfl] at e2
    obtain ⟨C, f1, f2, f3, f4⟩ := ih (i + 1) B fu (by omega) (by omega) e2 (hr.ot ht hne e3)
    refine ⟨C, ?_, f2, f3, e3.tr f4⟩
    show k_X6_append_2s r t _ _ _ = _
    unfold k_X6_append_2s
    rw [if_pos ht.1.1, ht.2.1, if_neg (nI_ge (by omega) (by omega)), ht.at (by omega), Option.bind_some, if_pos hr.1.1, e1, Option.bind_some, nI_1, f1]
theorem Rw.append {A : Hp} {r t cap cap' : Nat} {s s' : List Int32} (hr : Rw A r cap s') (ht : Rw A t cap' s) (hne : t ≠ r) (hs : s.length < 16000) (hcap : s'.length + s.length ≤ cap) : ∃ B, f_X6_append A r t = some B ∧ Rw B r cap (s' ++ s) ∧ Rw B t cap' s ∧ Eqx (rP r) A B := by
  unfold f_X6_append
  exact Rw.appendL hne (by omega) hcap s.length 0 A FU (by omega) (by unfold FU; omega) (by simpa using hr) ht
theorem ea_I {A : Hp} {f a j : Nat} {v : Int32} : Eqx (fun q => q = a) A (hsI A f a j v) := Eqx.sI rfl
theorem ea_L {A : Hp} {f a j : Nat} {v : Int64} : Eqx (fun q => q = a) A (hsL A f a j v) := Eqx.sL rfl
theorem ea_R {A : Hp} {f a j : Nat} {v : Nat} : Eqx (fun q => q = a) A (hsR A f a j v) := Eqx.sR rfl
