/-! reading an address -/
def hasE (s : List Int32) (k : Nat) (c : Int32) : Bool := decide (s.length ≤ k) || decide (g s k = c)
def pEnd (s : List Int32) (f : Nat) : Nat := if g s f = 47 then fnd s 63 f (min s.length (f + 40)) else f
theorem pEnd_le {s : List Int32} {f : Nat} (h : f ≤ s.length) : f ≤ pEnd s f ∧ pEnd s f ≤ s.length ∧ pEnd s f ≤ f + 40 := by
  unfold pEnd
  split
  · rename_i hq
    have := g_in hq (by decide)
    have := fnd_le (s := s) (c := 63) (a := f) (b := min s.length (f + 40)) (by omega)
    omega
  · omega
theorem Rw.endOfPath {A : Hp} {r cap : Nat} {s : List Int32} (h : Rw A r cap s) (hs : s.length < 15000) {f : Nat} (hf : f ≤ s.length) : f_X0_endOfPath A r (nI f) = some (nI (pEnd s f)) := by
  unfold f_X0_endOfPath pEnd
  rw [if_pos h.1.1, h.at (by omega), Option.bind_some]
  by_cases h1 : g s f = 47
  · have h2 := g_in h1 (by decide)
    rw [if_pos h1, if_pos h1, h.2.1]
    have hm : (if nI f + 40 < nI s.length then nI f + 40 else nI s.length) = nI (min s.length (f + 40)) := by
      rw [show nI f + (40 : Int32) = nI (f + 40) from nI_add f 40]
      by_cases q : f + 40 < s.length
      · rw [if_pos (nI_lt q (by omega)), Nat.min_eq_right (by omega)]
      · rw [if_neg (nI_nlt (by omega) (by omega)), Nat.min_eq_left (by omega)]
    rw [hm, h.find 63 (by omega) (by omega)]
    rfl
  · rw [if_neg h1, if_neg h1]
/-- what an address says, or (with 1 more) where its error is -/
def rdAd (s : List Int32) : Nat ⊕ AdV :=
  let sec := decide (g s 4 = 115)
  let w := if sec then wsc 1 else wsc 2
  if w.length ≤ agr s w then
    let f := agr s w
    let e := endS s f
    if (hasE s e 47 || hasE s e 63) && whl s f e then
      let p := pEnd s e
      if hasE s p 63 then .inr (true, sec, sub s f e, if e < p then sub s e p else [47]) else .inl p
    else .inl e
  else .inl (agr s w)
/-- where neither '/' nor '?' follows the host, no path begins there: the path's end is the host's -/
theorem rd_stop (s : List Int32) (e : Nat) (w : Bool) (X : Nat ⊕ AdV) : (if (hasE s e 47 || hasE s e 63) && w then (if hasE s (pEnd s e) 63 then X else .inl (pEnd s e)) else .inl e) = (if w then (if hasE s (pEnd s e) 63 then X else .inl (pEnd s e)) else .inl e) := by
  cases w
  · rw [Bool.and_false]
  · rw [Bool.and_true]
    cases h47 : hasE s e 47
    · cases h63 : hasE s e 63
      · have hp : pEnd s e = e := by
          unfold pEnd
          refine if_neg (fun q => ?_)
          unfold hasE at h47
          rw [decide_eq_true q, Bool.or_true] at h47
          cases h47
        rw [hp, h63]
        rfl
      · rfl
    · rfl
/-- the same, as the class reads it -/
def rdAw (s : List Int32) : Nat ⊕ AdV :=
  let sec := decide (g s 4 = 115)
  let w := if sec then wsc 1 else wsc 2
  if w.length ≤ agr s w then
    let f := agr s w
    let e := endS s f
    if whl s f e then
      let p := pEnd s e
      if hasE s p 63 then .inr (true, sec, sub s f e, if e < p then sub s e p else [47]) else .inl p
    else .inl e
  else .inl (agr s w)
theorem rdAd_w (s : List Int32) : rdAd s = rdAw s := by
  unfold rdAd rdAw
  dsimp only
  rw [rd_stop]
theorem endD_30 (s : List Int32) (f : Nat) : ∀ d i, i ≤ f + 30 → endD s f d i ≤ f + 30 := by
  intro d
  induction d with
  | zero => intro i h; exact h
  | succ d ih =>
    intro i h
    show (if goS s f i = true then endD s f d (i + 1) else i) ≤ _
    split
    · rename_i hq
      exact ih (i + 1) (by rcases goS_iff.mp hq with q | q <;> omega)
    · exact h
theorem endS_30 (s : List Int32) (f : Nat) : endS s f ≤ f + 30 := endD_30 s f _ f (by omega)
theorem agr_len {s w : List Int32} (hw : ∀ c ∈ w, c ≠ -1) : agr s w ≤ s.length := by
  have : ∀ d i, i + d = w.length → i ≤ s.length → agrD s w d i ≤ s.length := by
    intro d
    induction d with
    | zero => intro i _ h; exact h
    | succ d ih =>
      intro i h1 h2
      show (if g s i = g w i then agrD s w d (i + 1) else i) ≤ _
      split
      · rename_i hq
        have hi : i < w.length := by omega
        rw [g_lt hi] at hq
        exact ih (i + 1) (by omega) (g_in hq (hw _ (List.getElem_mem hi)))
      · exact h2
  exact this w.length 0 (by omega) (Nat.zero_le _)
def adA (v : Nat ⊕ AdV) : Int32 := match v with
  | .inl e => -1 - nI e
  | .inr w => bI w.2.1
theorem Ad.read {A : Hp} {a r cap : Nat} {v : AdV} {s : List Int32} (h : Ad A a v) (k : Rw A r cap s) (hr : ¬ adP a r) (hs : s.length < 15000) : ∃ B, f_X0_read A a r = some (adA (rdAd s), B) ∧ Ad B a (match rdAd s with | .inl _ => v | .inr w => w) ∧ Rw B r cap s ∧ Eqx (adP a) A B := by
  obtain ⟨⟨a1, a2, a3⟩, a4, a5, a6, a7⟩ := id h
  have hr1 : r ≠ a + 1 := fun z => hr ⟨by omega, by omega⟩
  have hr3 : r ≠ a + 3 := fun z => hr ⟨by omega, by omega⟩
  rw [rdAd_w]
  unfold f_X0_read
  rw [if_pos k.1.1, show f_X6_at A r 4 = some (g s 4) from k.at (i := 4) (by omega), Option.bind_some]
  -- the scheme's word
  have key : ∀ (b : Bool) (n : Nat), 1 ≤ n → n ≤ 36 → ∃ B, k_X0_read_27 A a r (bI b) n = some (adA (if (wsc n).length ≤ agr s (wsc n) then
      (if whl s (agr s (wsc n)) (endS s (agr s (wsc n))) then
        (if hasE s (pEnd s (endS s (agr s (wsc n)))) 63 then .inr (true, b, sub s (agr s (wsc n)) (endS s (agr s (wsc n))), if endS s (agr s (wsc n)) < pEnd s (endS s (agr s (wsc n))) then sub s (endS s (agr s (wsc n))) (pEnd s (endS s (agr s (wsc n)))) else [47]) else .inl (pEnd s (endS s (agr s (wsc n)))))
      else .inl (endS s (agr s (wsc n)))) else .inl (agr s (wsc n))), B) ∧ Ad B a (match (if (wsc n).length ≤ agr s (wsc n) then
      (if whl s (agr s (wsc n)) (endS s (agr s (wsc n))) then
        (if hasE s (pEnd s (endS s (agr s (wsc n)))) 63 then .inr (true, b, sub s (agr s (wsc n)) (endS s (agr s (wsc n))), if endS s (agr s (wsc n)) < pEnd s (endS s (agr s (wsc n))) then sub s (endS s (agr s (wsc n))) (pEnd s (endS s (agr s (wsc n)))) else [47]) else .inl (pEnd s (endS s (agr s (wsc n)))))
      else .inl (endS s (agr s (wsc n)))) else .inl (agr s (wsc n)) : Nat ⊕ AdV) with | .inl _ => v | .inr w => w) ∧ Rw B r cap s ∧ Eqx (adP a) A B := by
    intro b n n1 n2
    have hn := wok_all n n1 n2
    have hw := hn.2.1
    have hf := agr_len (s := s) (wsc_ne n (by omega))
    generalize hfd : agr s (wsc n) = f at hf ⊢
    have he := endS_le hf
    have he30 := endS_30 s f
    generalize hed : endS s f = e at he he30 ⊢
    have hp := pEnd_le (s := s) (f := e) he.2
    generalize hpd : pEnd s e = p at hp ⊢
    unfold k_X0_read_27
    rw [if_pos k.1.1, k.agreement hn, hfd, Option.bind_some, if_pos hn.1.1, wl_ hn.1, Option.bind_some]
    by_cases c1 : (wsc n).length ≤ f
    · rw [if_pos (nI_le c1 (by omega)), if_pos c1, k.end_ hf (by omega), hed, Option.bind_some, k.isWhole (by omega) (by omega), Option.bind_some]
      cases hwh : whl s f e
      · rw [if_pos (by rfl)]
        exact ⟨A, rfl, h, k, Eqx.rf⟩
      · rw [if_neg (by decide), k.endOfPath hs he.2, hpd, Option.bind_some, k.2.1]
        have fin : ∃ B, k_X0_read_106 A a r (bI b) (nI f) (nI e) (nI p) = some (bI b, B) ∧ Ad B a (true, b, sub s f e, if e < p then sub s e p else [47]) ∧ Rw B r cap s ∧ Eqx (adP a) A B := by
              unfold k_X0_read_106
              rw [if_pos a1]
              obtain ⟨B, e1, e2, e3, e4⟩ := a6.take k hr1 (by omega) (a := f) (b := e) (by omega) (by omega) (by omega)
              have e4' : Eqx (adP a) A B := e4.mo (fun q hq => by rcases hq with z | z <;> (constructor <;> omega))
              have a7B := a6.ot a7 (by omega) e4
              obtain ⟨C, f1, f2, f3, f4⟩ := a7B.take e3 hr3 (by omega) (a := e) (b := p) (by omega) (by omega) (by omega)
              have f4' : Eqx (adP a) B C := f4.mo (fun q hq => by rcases hq with z | z <;> (constructor <;> omega))
              have e2C := a7B.ot e2 (by omega) f4
              have m1 : ¬ rP (a + 1) a := fun z => by rcases z with z | z <;> omega
              have m2 : ¬ rP (a + 3) a := fun z => by rcases z with z | z <;> omega
              have hlen : (sub s e p).length = p - e := by rw [sub_len]; omega
              -- the path
              obtain ⟨D, g1, g2, g3, g4, g5⟩ : ∃ D, f_X0_fill A a r (nI f) (nI e) (nI p) = some (hsI D 2 a 0 1) ∧ Rw D (a + 3) 40 (if e < p then sub s e p else [47]) ∧ Rw D r cap s ∧ Rw D (a + 1) 30 (sub s f e) ∧ Eqx (rP (a + 3)) C D := by
                unfold f_X0_fill k_X0_fill_40
                rw [if_pos a1, a2, if_pos a6.1.1, e1, Option.bind_some, e4.2.1 a, if_pos a1, e4.R m1, a3, if_pos a7B.1.1, f1, Option.bind_some, f4.2.1 a, e4.2.1 a, if_pos a1, f4.R m2, e4.R m1, a3, if_pos f2.1.1, f2.2.1, hlen]
                by_cases hc : e < p
                · rw [if_neg (nI_ne0 (by omega) (by omega)), if_pos hc, if_pos a1]
                  exact ⟨C, rfl, f2, f3, e2C, Eqx.rf⟩
                · have hz : p - e = 0 := by omega
                  rw [hz, if_pos (by rfl), if_neg hc]
                  obtain ⟨D, d1, d2, d3⟩ := f2.add (c := 47) (by unfold okc; decide) (by omega)
                  rw [d1, Option.bind_some, d3.2.1, f4.2.1 a, e4.2.1 a, if_pos a1]
                  have hnil : sub s e p = [] := List.eq_nil_of_length_eq_zero (by omega)
                  rw [hnil] at d2
                  exact ⟨D, rfl, d2, f2.ot f3 hr3 d3, f2.ot e2C (by omega) d3, d3⟩
              have g5' : Eqx (adP a) C D := g5.mo (fun q hq => by rcases hq with z | z <;> (constructor <;> omega))
              rw [g1, Option.bind_some, hsh_sI, g5.2.1, f4.2.1, e4.2.1, if_pos a1, if_pos (bI_Z b)]
              have z1 : Eqx (fun q => q = a) D (hsI (hsI D 2 a 0 1) 3 a 0 (bI b)) := Eqx.tr (Eqx.sI rfl) (Eqx.sI rfl)
              refine ⟨hsI (hsI D 2 a 0 1) 3 a 0 (bI b), ?_, ?_, g3.eq z1 (fun z => hr ⟨by omega, by omega⟩) (fun z => ?_), ((e4'.tr f4').tr g5').tr (z1.mo (fun q hq => by rw [hq]; constructor <;> omega))⟩
              · cases b <;> rfl
              · exact ⟨⟨by rw [hsh_sI, hsh_sI, g5.2.1, f4.2.1, e4.2.1]; exact a1, by rw [hgR_sI, hgR_sI, g5.R m2, f4.R m2, e4.R m1]; exact a2, by rw [hgR_sI, hgR_sI, g5.R m2, f4.R m2, e4.R m1]; exact a3⟩, by rw [hgI_sI, if_neg (by omega), hgI_sI, if_pos ⟨rfl, rfl, rfl⟩]; rfl, by rw [hgI_sI, if_pos ⟨rfl, rfl, rfl⟩], g4.eq z1 (by omega) (by omega), g2.eq z1 (by omega) (by omega)⟩
              · have z : r + 1 = a := z
                have t9 := k.1.2.2.1
                rw [z] at t9
                rw [t9] at a1
                cases a1
        by_cases hl : s.length ≤ p
        · have hh : hasE s p 63 = true := by unfold hasE; rw [decide_eq_true hl, Bool.true_or]
          rw [if_pos (nI_le hl (by omega)), hh]
          exact fin
        · rw [if_neg (nI_ge (by omega) (by omega)), k.at (by omega), Option.bind_some]
          by_cases h63 : g s p = 63
          · have hh : hasE s p 63 = true := by unfold hasE; rw [decide_eq_true h63, Bool.or_true]
            rw [if_pos h63, hh]
            exact fin
          · have hh : hasE s p 63 = false := by unfold hasE; rw [decide_eq_false hl, decide_eq_false h63]; rfl
            rw [if_neg h63, hh]
            exact ⟨A, rfl, h, k, Eqx.rf⟩
    · rw [if_neg (nI_ge (by omega) (by omega)), if_neg c1]
      exact ⟨A, rfl, h, k, Eqx.rf⟩
  unfold rdAw k_X0_read_15
  by_cases h4 : g s 4 = 115
  · rw [if_pos h4, if_neg (by decide)]
    simp only [h4, decide_true, if_true]
    exact key true 1 (by omega) (by omega)
  · rw [if_neg h4, if_pos (by rfl)]
    simp only [h4, decide_false]
    exact key false 2 (by omega) (by omega)
