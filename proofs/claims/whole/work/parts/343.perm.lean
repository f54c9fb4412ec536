/-! lists of cookies up to their order -/
theorem cg_set_perm : ∀ (xs : List CkV) (i : Nat) (z : CkV), i < xs.length → (xs.set i z).Perm (z :: xs.eraseIdx i) := by
  intro xs
  induction xs with
  | nil => intro i z h; exact absurd h (Nat.not_lt_zero i)
  | cons x xs ih =>
    intro i z h
    cases i with
    | zero => exact List.Perm.refl _
    | succ i =>
      have h : i < xs.length := Nat.lt_of_succ_lt_succ h
      show (x :: xs.set i z).Perm (z :: x :: xs.eraseIdx i)
      exact ((ih i z h).cons x).trans (List.Perm.swap z x _)
theorem cg_erase_perm : ∀ (xs : List CkV) (i : Nat), i < xs.length → (cg xs i :: xs.eraseIdx i).Perm xs := by
  intro xs
  induction xs with
  | nil => intro i h; exact absurd h (Nat.not_lt_zero i)
  | cons x xs ih =>
    intro i h
    cases i with
    | zero => exact List.Perm.refl _
    | succ i =>
      have h : i < xs.length := Nat.lt_of_succ_lt_succ h
      show (cg xs i :: x :: xs.eraseIdx i).Perm (x :: xs)
      exact (List.Perm.swap x (cg xs i) _).trans ((ih i h).cons x)
theorem perm_erase {L K : List CkV} (h : L.Perm K) {i j : Nat} (hi : i < L.length) (hj : j < K.length) (e : cg L i = cg K j) : (L.eraseIdx i).Perm (K.eraseIdx j) := by
  have h1 := (cg_erase_perm L i hi).trans (h.trans (cg_erase_perm K j hj).symm)
  rw [e] at h1
  exact (List.perm_cons _).mp h1
theorem gon_perm {ms : List CkV} {i : Nat} (hi : i < ms.length) : (gon ms i).Perm (ms.eraseIdx i) := by
  obtain ⟨xs, z, rfl⟩ : ∃ xs z, ms = xs ++ [z] := by
    rcases List.eq_nil_or_concat ms with h | ⟨l, b, h⟩
    · rw [h] at hi; exact absurd hi (Nat.not_lt_zero i)
    · exact ⟨l, b, by rw [h, List.concat_eq_append]⟩
  have hl : (xs ++ [z]).length - 1 = xs.length := by simp
  have hz : cg (xs ++ [z]) xs.length = z := by simp [cg]
  unfold gon
  rw [hl, hz]
  by_cases h : i < xs.length
  · rw [List.set_append_left _ _ h, List.take_append_of_le_length (by rw [List.length_set]; exact Nat.le_refl _), List.take_of_length_le (by rw [List.length_set]; exact Nat.le_refl _), List.eraseIdx_append_of_lt_length h]
    exact (cg_set_perm xs i z h).trans (List.perm_append_singleton z _).symm
  · have hx : i = xs.length := by rw [List.length_append] at hi; have : i < xs.length + 1 := hi; omega
    subst hx
    rw [List.eraseIdx_append_of_length_le (Nat.le_refl _), Nat.sub_self, List.set_append_right _ _ (Nat.le_refl _), Nat.sub_self, List.take_append_of_le_length (Nat.le_refl _), List.take_of_length_le (Nat.le_refl _)]
    show xs.Perm (xs ++ [])
    rw [List.append_nil]
theorem cg_of_mem {L : List CkV} {c : CkV} (h : c ∈ L) : ∃ i, i < L.length ∧ cg L i = c := by
  obtain ⟨i, hi, e⟩ := List.getElem_of_mem h
  exact ⟨i, hi, by rw [← e]; simp [cg, hi]⟩
/-- a strict order -/
def StO (lt : CkV → CkV → Bool) : Prop := (∀ a, lt a a = false) ∧ ∀ a b c, lt a b = true → lt b c = true → lt a c = true
def tot (lt : CkV → CkV → Bool) (L : List CkV) : Prop := ∀ a ∈ L, ∀ b ∈ L, lt a b = false → lt b a = false → a = b
theorem mnD_spec {lt : CkV → CkV → Bool} (hS : StO lt) {L : List CkV} {ok : CkV → Bool} : ∀ d i o, i + d = L.length → (o = none → ∀ j, j < i → ok (cg L j) = false) → (∀ k, o = some k → k < i ∧ ok (cg L k) = true ∧ ∀ j, j < i → ok (cg L j) = true → lt (cg L j) (cg L k) = false) → (mnD lt L ok d i o = none → ∀ j, j < L.length → ok (cg L j) = false) ∧ (∀ k, mnD lt L ok d i o = some k → k < L.length ∧ ok (cg L k) = true ∧ ∀ j, j < L.length → ok (cg L j) = true → lt (cg L j) (cg L k) = false) := by
  intro d
  induction d with
  | zero =>
    intro i o h1 h2 h3
    have : i = L.length := by omega
    subst this
    exact ⟨h2, h3⟩
  | succ d ih =>
    intro i o h1 h2 h3
    show (mnD lt L ok d (i + 1) (mnS lt L ok o i) = none → _) ∧ ∀ k, mnD lt L ok d (i + 1) (mnS lt L ok o i) = some k → _
    refine ih (i + 1) _ (by omega) (fun hn j hj => ?_) (fun k hk => ?_)
    · unfold mnS at hn
      by_cases q : ok (cg L i) = true
      · rw [if_pos q] at hn
        cases o with
        | none => cases hn
        | some m =>
          have hn : (if lt (cg L i) (cg L m) = true then some i else some m) = none := hn
          split at hn <;> cases hn
      · rw [if_neg q] at hn
        by_cases hji : j = i
        · rw [hji]; exact Bool.not_eq_true _ ▸ q
        · exact h2 hn j (by omega)
    · unfold mnS at hk
      by_cases q : ok (cg L i) = true
      · rw [if_pos q] at hk
        cases o with
        | none =>
          have hk : some i = some k := hk
          cases hk
          refine ⟨by omega, q, fun j hj hok => ?_⟩
          by_cases hji : j = i
          · rw [hji]; exact hS.1 _
          · rw [h2 rfl j (by omega)] at hok; cases hok
        | some m =>
          obtain ⟨m1, m2, m3⟩ := h3 m rfl
          have hk : (if lt (cg L i) (cg L m) = true then some i else some m) = some k := hk
          by_cases hl : lt (cg L i) (cg L m) = true
          · rw [if_pos hl] at hk
            cases hk
            refine ⟨by omega, q, fun j hj hok => ?_⟩
            by_cases hji : j = i
            · rw [hji]; exact hS.1 _
            · cases hz : lt (cg L j) (cg L i)
              · rfl
              · have := hS.2 _ _ _ hz hl
                rw [m3 j (by omega) hok] at this; cases this
          · rw [if_neg hl] at hk
            cases hk
            refine ⟨by omega, m2, fun j hj hok => ?_⟩
            by_cases hji : j = i
            · rw [hji]; exact Bool.not_eq_true _ ▸ hl
            · exact m3 j (by omega) hok
      · rw [if_neg q] at hk
        obtain ⟨m1, m2, m3⟩ := h3 k hk
        refine ⟨by omega, m2, fun j hj hok => ?_⟩
        by_cases hji : j = i
        · rw [hji] at hok; exact absurd hok q
        · exact m3 j (by omega) hok
theorem mn_none {lt : CkV → CkV → Bool} (hS : StO lt) {L : List CkV} {ok : CkV → Bool} (h : mn lt L ok = none) : ∀ c ∈ L, ok c = false := fun c hc => by
  obtain ⟨i, hi, e⟩ := cg_of_mem hc
  rw [← e]
  exact (mnD_spec hS L.length 0 none (by omega) (fun _ j hj => absurd hj (Nat.not_lt_zero j)) (fun k hk => by cases hk)).1 h i hi
theorem mn_some {lt : CkV → CkV → Bool} (hS : StO lt) {L : List CkV} {ok : CkV → Bool} {k : Nat} (h : mn lt L ok = some k) : k < L.length ∧ ok (cg L k) = true ∧ ∀ c ∈ L, ok c = true → lt c (cg L k) = false := by
  obtain ⟨h1, h2, h3⟩ := (mnD_spec hS L.length 0 none (by omega) (fun _ j hj => absurd hj (Nat.not_lt_zero j)) (fun k hk => by cases hk)).2 k h
  refine ⟨h1, h2, fun c hc hok => ?_⟩
  obtain ⟨i, hi, e⟩ := cg_of_mem hc
  rw [← e] at hok ⊢
  exact h3 i hi hok
theorem mn_tie {lt : CkV → CkV → Bool} (hS : StO lt) {L K : List CkV} (hp : L.Perm K) (ht : tot lt K) (ok : CkV → Bool) : (mn lt L ok = none ∧ mn lt K ok = none) ∨ ∃ i j, mn lt L ok = some i ∧ mn lt K ok = some j ∧ i < L.length ∧ j < K.length ∧ cg L i = cg K j ∧ ok (cg K j) = true := by
  cases h1 : mn lt L ok with
  | none =>
    cases h2 : mn lt K ok with
    | none => exact Or.inl ⟨rfl, rfl⟩
    | some j =>
      have b := mn_some hS h2
      have := mn_none hS h1 _ (hp.mem_iff.mpr (cg_mem b.1))
      rw [b.2.1] at this; cases this
  | some i =>
    have a := mn_some hS h1
    cases h2 : mn lt K ok with
    | none =>
      have := mn_none hS h2 _ (hp.mem_iff.mp (cg_mem a.1))
      rw [a.2.1] at this; cases this
    | some j =>
      have b := mn_some hS h2
      have e := ht _ (hp.mem_iff.mp (cg_mem a.1)) _ (cg_mem b.1) (b.2.2 _ (hp.mem_iff.mp (cg_mem a.1)) a.2.1) (a.2.2 _ (hp.mem_iff.mpr (cg_mem b.1)) b.2.1)
      exact Or.inr ⟨i, j, rfl, rfl, a.1, b.1, e, b.2.1⟩
-- serial numbers differ
def srl (L : List CkV) : Prop := (L.map (fun c => cS c)).Nodup
theorem srl.perm {L K : List CkV} (h : srl L) (p : L.Perm K) : srl K := (p.map _).nodup h
theorem srl.erase {L : List CkV} (h : srl L) (i : Nat) : srl (L.eraseIdx i) := by
  unfold srl at h ⊢
  exact h.sublist ((List.eraseIdx_sublist L i).map _)
theorem srl.inj {L : List CkV} (h : srl L) : ∀ a ∈ L, ∀ b ∈ L, cS a = cS b → a = b := by
  induction L with
  | nil => intro a ha; cases ha
  | cons c L ih =>
    have h : ((cS c) :: L.map (fun c => cS c)).Nodup := h
    rw [List.nodup_cons] at h
    intro a ha b hb e
    rcases List.mem_cons.mp ha with rfl | ha'
    · rcases List.mem_cons.mp hb with rfl | hb'
      · rfl
      · exact absurd (List.mem_map.mpr ⟨b, hb', e.symm⟩) h.1
    · rcases List.mem_cons.mp hb with rfl | hb'
      · exact absurd (List.mem_map.mpr ⟨a, ha', e⟩) h.1
      · exact ih h.2 a ha' b hb' e
def bn (b : Bool) : Nat := if b then 1 else 0
theorem vict_iff {p : Nat} {u v : CkV} : vict p u v = true ↔ cR u < cR v ∨ (cR u = cR v ∧ (bn (cX u) < bn (cX v) ∨ (bn (cX u) = bn (cX v) ∧ ((wgt p u).toInt < (wgt p v).toInt ∨ ((wgt p u).toInt = (wgt p v).toInt ∧ cS u < cS v))))) := by
  unfold vict
  by_cases q1 : cR u = cR v
  · rw [if_pos q1]
    by_cases q2 : cX u = cX v
    · rw [if_pos q2]
      by_cases q3 : wgt p u = wgt p v
      · rw [if_pos q3, decide_eq_true_iff, q1, q2, q3]; omega
      · have q3' : ¬ (wgt p u).toInt = (wgt p v).toInt := fun z => q3 (Int64.toInt_inj.mp z)
        rw [if_neg q3, decide_eq_true_iff, q1, q2, Int64.lt_iff_toInt_lt]; omega
    · rw [if_neg q2]
      have : cX v = true ↔ bn (cX u) < bn (cX v) := by
        cases hu : cX u <;> cases hv : cX v
        · rw [hu, hv] at q2; exact absurd rfl q2
        · decide
        · decide
        · rw [hu, hv] at q2; exact absurd rfl q2
      have hne : ¬ bn (cX u) = bn (cX v) := by
        cases hu : cX u <;> cases hv : cX v
        · rw [hu, hv] at q2; exact absurd rfl q2
        · decide
        · decide
        · rw [hu, hv] at q2; exact absurd rfl q2
      rw [this]; omega
  · rw [if_neg q1, decide_eq_true_iff]; omega
theorem vict_StO (p : Nat) : StO (vict p) := by
  refine ⟨fun a => ?_, fun a b c h1 h2 => ?_⟩
  · cases h : vict p a a
    · rfl
    · have := vict_iff.mp h; omega
  · rw [vict_iff] at *; omega
theorem tot_of {lt : CkV → CkV → Bool} {L : List CkV} (h : srl L) (hl : ∀ a b, lt a b = false → lt b a = false → cS a = cS b) : tot lt L := fun a ha b hb h1 h2 => h.inj a ha b hb (hl a b h1 h2)
theorem vict_tot (p : Nat) {L : List CkV} (h : srl L) : tot (vict p) L := tot_of h (fun a b h1 h2 => by
  have n1 : ¬ vict p a b = true := by rw [h1]; decide
  have n2 : ¬ vict p b a = true := by rw [h2]; decide
  rw [vict_iff] at n1 n2
  omega)
theorem sntB_iff {u v : CkV} : sntB u v = true ↔ (cP v).length < (cP u).length ∨ ((cP u).length = (cP v).length ∧ cS u < cS v) := by
  unfold sntB
  by_cases q : (cP u).length = (cP v).length
  · rw [if_pos q, decide_eq_true_iff]; omega
  · rw [if_neg q, decide_eq_true_iff]; omega
theorem sntB_StO : StO sntB := by
  refine ⟨fun a => ?_, fun a b c h1 h2 => ?_⟩
  · cases h : sntB a a
    · rfl
    · have := sntB_iff.mp h; omega
  · rw [sntB_iff] at *; omega
theorem sntB_tot {L : List CkV} (h : srl L) : tot sntB L := tot_of h (fun a b h1 h2 => by
  have n1 : ¬ sntB a b = true := by rw [h1]; decide
  have n2 : ¬ sntB b a = true := by rw [h2]; decide
  rw [sntB_iff] at n1 n2
  omega)
-- evicting in the reference
def evL (p : Nat) (ok q : CkV → Bool) (lim : Nat) : Nat → List CkV → List CkV × Nat
  | 0, ms => (ms, 0)
  | k + 1, ms => if ms.countP q ≤ lim then (ms, 0) else match mn (vict p) ms ok with
    | none => (ms, 0)
    | some i => ((evL p ok q lim k (gon ms i)).1, (evL p ok q lim k (gon ms i)).2 + 1)
/-- a victim is there -/
theorem vic_ex {p s lim : Nat} {q : CkV → Bool} {L : List CkV} (hs : srl L) (hl : 1 ≤ lim) (h : lim < L.countP q) : mn (vict p) L (fun c => spB (some s) c && q c) ≠ none := by
  intro hn
  have hz := mn_none (vict_StO p) hn
  -- all with q have the number s: at most one
  have : ∀ K : List CkV, srl K → (∀ c ∈ K, (spB (some s) c && q c) = false) → K.countP q ≤ 1 := by
    intro K
    induction K with
    | nil => intro _ _; exact Nat.zero_le _
    | cons c K ih =>
      intro h1 h2
      have h1' : ((cS c) :: K.map (fun c => cS c)).Nodup := h1
      rw [List.nodup_cons] at h1'
      rw [List.countP_cons]
      have i1 := ih h1'.2 (fun d hd => h2 d (List.mem_cons_of_mem _ hd))
      by_cases hq : q c = true
      · have hc := h2 c List.mem_cons_self
        rw [hq, Bool.and_true] at hc
        have hcs : cS c = s := by
          have : decide (cS c ≠ s) = false := hc
          rw [decide_eq_false_iff_not, Classical.not_not] at this
          exact this
        have : K.countP q = 0 := by
          rw [List.countP_eq_zero]
          intro d hd hqd
          have hd2 := h2 d (List.mem_cons_of_mem _ hd)
          rw [hqd, Bool.and_true] at hd2
          have hds : cS d = s := by
            have : decide (cS d ≠ s) = false := hd2
            rw [decide_eq_false_iff_not, Classical.not_not] at this
            exact this
          exact h1'.1 (List.mem_map.mpr ⟨d, hd, by rw [hds, hcs]⟩)
        rw [this]; split <;> omega
      · rw [if_neg hq]; omega
  have := this L hs hz
  omega
theorem countP_erase {q : CkV → Bool} {L : List CkV} {i : Nat} (hi : i < L.length) (hq : q (cg L i) = true) : (L.eraseIdx i).countP q = L.countP q - 1 := by
  have := (cg_erase_perm L i hi).countP_eq q
  rw [List.countP_cons, if_pos hq] at this
  omega
theorem evTie {p s lim : Nat} {q : CkV → Bool} (hl : 1 ≤ lim) : ∀ (n k : Nat) (ms cs : List CkV), ms.Perm cs → srl cs → n = cs.countP q - lim → n ≤ k → (evL p (fun c => spB (some s) c && q c) q lim k ms).1.Perm (evN p (fun c => spB (some s) c && q c) n cs).1 ∧ (evL p (fun c => spB (some s) c && q c) q lim k ms).2 = (evN p (fun c => spB (some s) c && q c) n cs).2 := by
  intro n
  induction n with
  | zero =>
    intro k ms cs hp hs hn hk
    have hc : ms.countP q ≤ lim := by rw [hp.countP_eq q]; omega
    have e : evL p (fun c => spB (some s) c && q c) q lim k ms = (ms, 0) := by
      cases k with
      | zero => rfl
      | succ k =>
        show (if ms.countP q ≤ lim then (ms, 0) else _) = _
        rw [if_pos hc]
    rw [e]
    exact ⟨hp, rfl⟩
  | succ n ih =>
    intro k ms cs hp hs hn hk
    obtain ⟨k, rfl⟩ : ∃ z, k = z + 1 := ⟨k - 1, by omega⟩
    have hc : ¬ ms.countP q ≤ lim := by rw [hp.countP_eq q]; omega
    rcases mn_tie (vict_StO p) hp (vict_tot p hs) (fun c => spB (some s) c && q c) with ⟨h1, h2⟩ | ⟨i, j, h1, h2, hi, hj, e, hok⟩
    · exact absurd h2 (vic_ex hs hl (by omega))
    · have hq : q (cg cs j) = true := by
        have := hok
        rw [Bool.and_eq_true] at this
        exact this.2
      have hp' : (gon ms i).Perm (cs.eraseIdx j) := (gon_perm hi).trans (perm_erase hp hi hj e)
      have := ih k (gon ms i) (cs.eraseIdx j) hp' (hs.erase j) (by rw [countP_erase hj hq]; omega) (by omega)
      have e1 : evL p (fun c => spB (some s) c && q c) q lim (k + 1) ms = ((evL p (fun c => spB (some s) c && q c) q lim k (gon ms i)).1, (evL p (fun c => spB (some s) c && q c) q lim k (gon ms i)).2 + 1) := by
        show (if ms.countP q ≤ lim then (ms, 0) else match mn (vict p) ms (fun c => spB (some s) c && q c) with | none => _ | some i => _) = _
        rw [if_neg hc, h1]
      have e2 : evN p (fun c => spB (some s) c && q c) (n + 1) cs = ((evN p (fun c => spB (some s) c && q c) n (cs.eraseIdx j)).1, (evN p (fun c => spB (some s) c && q c) n (cs.eraseIdx j)).2 + 1) := by
        show (match vic p cs (fun c => spB (some s) c && q c) with | some i => _ | none => _) = _
        rw [vic_mn, h2]
      rw [e1, e2]
      exact ⟨this.1, by rw [this.2]⟩
