/-! the jar of the class: evicting, creating -/
def jsC (v : JV) (cs : List CkV) : JV := ((cs, v.1.2), v.2)
def jsK (v : JV) (i n : Nat) : JV := (v.1, v.2.1, v.2.2.1, v.2.2.2.1, (fun j => if j = i then jK v i + n else jK v j), v.2.2.2.2.2)
def evo (v : JV) (o : Option Nat) : JV := match o with
  | none => v
  | some i => jsK (jsC v ((jC v).eraseIdx i)) 4 1
def jsX (v : JV) (x : Nat) : JV := (v.1, v.2.1, v.2.2.1, v.2.2.2.1, v.2.2.2.2.1, v.2.2.2.2.2.1, x, v.2.2.2.2.2.2.2)
section
variable {A : Hp} {J : Nat} {v : JV} {f : CkV}
theorem Jr.drop (h : Jr A J v f) {i : Nat} (hi : i < (jC v).length) : ∃ B, f_X4_drop A J (nI i) = some B ∧ Jr B J (jsC v ((jC v).eraseIdx i)) f ∧ Eqx (jrP J) A B := by
  obtain ⟨h1, h2, h3, ⟨ad, h4⟩, h5⟩ := h
  obtain ⟨B, ad', e1, e2, e3, e4, e5⟩ := h4.drop h1 hi
  refine ⟨B, e1, ⟨e2, e4 v h2, h3.eq e5 (fun q z1 z2 w => by rcases w with w | w <;> omega), ⟨ad', e3⟩, h5.eq e5 (fun q z w => by have := z.1; rcases w with w | w <;> omega)⟩, e5.mo (fun q w => by rcases w with w | w <;> (constructor <;> omega))⟩
theorem Jr.bump (h : Jr A J v f) {i : Nat} (n : Nat) (hi : i < 7) : Jr (hsI A 1034 (J + 408) i (nI (jK v i) + nI n)) J (jsK v i n) f ∧ Eqx (jrP J) A (hsI A 1034 (J + 408) i (nI (jK v i) + nI n)) := by
  obtain ⟨h1, h2, h3, ⟨ad, h4⟩, h5⟩ := h
  rw [nI_add]
  have e : Eqx (fun q => q = J + 408) A (hsI A 1034 (J + 408) i (nI (jK v i + n))) := Eqx.sI rfl
  exact ⟨⟨h1, h2.eq e (by omega), h3.bump hi, ⟨ad, h4.eq e (fun q z1 z2 w => by have w : q = J + 408 := w; omega)⟩, h5.eq e (fun q z w => by have := z.2; have w : q = J + 408 := w; omega)⟩, e.mo (fun q w => by have w : q = J + 408 := w; constructor <;> omega)⟩
theorem Jr.cnt (h : Jr A J v f) {i : Nat} (hi : i < 7) : hgI A 1034 (J + 408) i = nI (jK v i) := h.2.2.1.2.2.2.2.2 i hi
theorem Jr.reject (h : Jr A J v f) : ∃ B, f_X4_reject A J = some (0, B) ∧ Jr B J (jsK v 5 1) f ∧ Eqx (jrP J) A B := by
  refine ⟨_, ?_, (h.bump (i := 5) 1 (by omega)).1, (h.bump (i := 5) 1 (by omega)).2⟩
  unfold f_X4_reject
  rw [if_pos h.1.1.1, h.1.1.2.2.2.2.2.2.2.2.2, h.1.2.2.2.2, if_pos rfl, if_pos (show wix (5 : Int32) (10, 7).2 by decide), show (5 : Int32).toNatClampNeg = 5 from rfl, h.cnt (by omega)]
  rfl
theorem Jr.ignore (h : Jr A J v f) : ∃ B, f_X4_ignore A J = some (0, B) ∧ Jr B J (jsK v 6 1) f ∧ Eqx (jrP J) A B := by
  refine ⟨_, ?_, (h.bump (i := 6) 1 (by omega)).1, (h.bump (i := 6) 1 (by omega)).2⟩
  unfold f_X4_ignore
  rw [if_pos h.1.1.1, h.1.1.2.2.2.2.2.2.2.2.2, h.1.2.2.2.2, if_pos rfl, if_pos (show wix (6 : Int32) (10, 7).2 by decide), show (6 : Int32).toNatClampNeg = 6 from rfl, h.cnt (by omega)]
  rfl
theorem Jr.expire (h : Jr A J v f) {i : Nat} (hi : i < (jC v).length) : ∃ B, f_X4_expire A J (nI i) = some (3, B) ∧ Jr B J (jsK (jsC v ((jC v).eraseIdx i)) 2 1) f ∧ Eqx (jrP J) A B := by
  obtain ⟨B, e1, e2, e3⟩ := h.drop hi
  refine ⟨_, ?_, (e2.bump (i := 2) 1 (by omega)).1, e3.tr (e2.bump (i := 2) 1 (by omega)).2⟩
  unfold f_X4_expire
  rw [if_pos h.1.1.1, e1, Option.bind_some, if_pos e2.1.1.1, e2.1.1.2.2.2.2.2.2.2.2.2, e2.1.2.2.2.2, if_pos rfl, if_pos (show wix (2 : Int32) (10, 7).2 by decide), show (2 : Int32).toNatClampNeg = 2 from rfl, e2.cnt (by omega)]
  rfl
theorem Jr.dropVictim (h : Jr A J v f) {o : Option Nat} (ho : ∀ i, o = some i → i < (jC v).length) : ∃ B, f_X4_dropVictim A J (oI o) = some B ∧ Jr B J (evo v o) f ∧ Eqx (jrP J) A B := by
  cases o with
  | none =>
    refine ⟨A, ?_, h, Eqx.rf⟩
    unfold f_X4_dropVictim
    rw [oI_none, if_pos (by decide)]
  | some i =>
    have hi := ho i rfl
    have hl : (jC v).length ≤ 41 := by obtain ⟨ad, h4⟩ := h.2.2.2.1; exact h4.2.2.2.2.1
    obtain ⟨B, e1, e2, e3⟩ := h.drop hi
    refine ⟨_, ?_, (e2.bump (i := 4) 1 (by omega)).1, e3.tr (e2.bump (i := 4) 1 (by omega)).2⟩
    unfold f_X4_dropVictim
    rw [oI_some, if_neg (nI_pos (by omega)), if_pos h.1.1.1, e1, Option.bind_some, if_pos e2.1.1.1, e2.1.1.2.2.2.2.2.2.2.2.2, e2.1.2.2.2.2, if_pos rfl, if_pos (show wix (4 : Int32) (10, 7).2 by decide), show (4 : Int32).toNatClampNeg = 4 from rfl, e2.cnt (by omega)]
    rfl
end
-- evicting: the list left, and how many went
def evN (p : Nat) (ok : CkV → Bool) : Nat → List CkV → List CkV × Nat
  | 0, cs => (cs, 0)
  | n + 1, cs => match vic p cs ok with
    | some i => ((evN p ok n (cs.eraseIdx i)).1, (evN p ok n (cs.eraseIdx i)).2 + 1)
    | none => evN p ok n cs
theorem vicD_lt {p : Nat} {cs : List CkV} {ok : CkV → Bool} : ∀ d i o, i + d = cs.length → (∀ j, o = some j → j < i) → ∀ j, vicD p cs ok d i o = some j → j < cs.length := by
  intro d
  induction d with
  | zero => intro i o h1 h2 j hj; have := h2 j hj; omega
  | succ d ih => intro i o h1 h2 j hj; exact ih (i + 1) _ (by omega) (vicS_lt h2) j hj
theorem vic_lt {p : Nat} {cs : List CkV} {ok : CkV → Bool} {i : Nat} (h : vic p cs ok = some i) : i < cs.length := vicD_lt cs.length 0 none (by omega) (fun j hj => by cases hj) i h
theorem okl_erase {cs : List CkV} {i : Nat} (h : okl cs) : okl (cs.eraseIdx i) := fun c hc => h c (List.mem_of_mem_eraseIdx hc)
theorem jsK_0 (v : JV) (i : Nat) : jsK v i 0 = v := by
  unfold jsK
  have : (fun j => if j = i then jK v i + 0 else jK v j) = jK v := by
    funext j
    by_cases q : j = i
    · rw [if_pos q, q]; rfl
    · rw [if_neg q]
  rw [this]
theorem jsK_jsK (v : JV) (i a b : Nat) : jsK (jsK v i a) i b = jsK v i (a + b) := by
  unfold jsK
  have : (fun j => if j = i then (if i = i then jK v i + a else jK v i) + b else (if j = i then jK v i + a else jK v j)) = (fun j => if j = i then jK v i + (a + b) else jK v j) := by
    funext j
    by_cases q : j = i
    · rw [if_pos q, if_pos q, if_pos rfl]; omega
    · rw [if_neg q, if_neg q, if_neg q]
  show (_, _, _, _, (fun j => if j = i then (if i = i then jK v i + a else jK v i) + b else (if j = i then jK v i + a else jK v j)), _) = _
  rw [this]
theorem Jr.evictL {J : Nat} {f : CkV} (hf : cS f < 100000) : ∀ (n fu : Nat) (A : Hp) (v : JV), n < fu → n < 1000 → Jr A J v f → okl (jC v) → jP v ≤ 3 → ∃ B, k_X4_evict_63 J fu A (nI n) = some B ∧ Jr B J (jsK (jsC v (evN (jP v) (spB (some (cS f))) n (jC v)).1) 4 (evN (jP v) (spB (some (cS f))) n (jC v)).2) f ∧ Eqx (jrP J) A B := by
  intro n
  induction n with
  | zero =>
    intro fu A v h1 h2 h ho hp
    obtain ⟨fu, rfl⟩ : ∃ f, fu = f + 1 := ⟨fu - 1, by omega⟩
    refine ⟨A, ?_, ?_, Eqx.rf⟩
    · show k_X4_evict_63s J _ _ _ = _
      unfold k_X4_evict_63s
      rw [if_pos (show nI 0 ≤ 0 from Int32.le_rfl)]
    · show Jr A J (jsK (jsC v (jC v)) 4 0) f
      rw [jsK_0]
      exact h
  | succ n ih =>
    intro fu A v h1 h2 h ho hp
    obtain ⟨fu, rfl⟩ : ∃ f, fu = f + 1 := ⟨fu - 1, by omega⟩
    obtain ⟨ad, h4⟩ := h.2.2.2.1
    have st : k_X4_evict_63 J (fu + 1) A (nI (n + 1)) = k_X4_evict_63s J (k_X4_evict_63 J fu) A (nI (n + 1)) := rfl
    rw [st]
    unfold k_X4_evict_63s
    have hv := h4.victimOfAll h.1 h.2.1 ho hp (s := some (cS f)) (fun m hm => by cases hm; exact hf)
    obtain ⟨B, e1, e2, e3⟩ := h.dropVictim (o := vic (jP v) (jC v) (spB (some (cS f)))) (fun i hi => vic_lt hi)
    rw [if_neg (nI_nle (by omega) (by omega)), if_pos h.1.1.1, h.1.1.2.2.1, if_pos h.2.2.2.2.1.1, h.2.2.2.2.2.1.2.1, show f_X4_victimOfAll A J (nI (cS f)) = _ from hv, Option.bind_some, e1, Option.bind_some, pk_m1]
    cases hvc : vic (jP v) (jC v) (spB (some (cS f))) with
    | none =>
      rw [hvc] at e2
      obtain ⟨C, f1, f2, f3⟩ := ih fu B v (by omega) (by omega) e2 ho hp
      refine ⟨C, f1, ?_, e3.tr f3⟩
      have : evN (jP v) (spB (some (cS f))) (n + 1) (jC v) = evN (jP v) (spB (some (cS f))) n (jC v) := by
        show (match vic (jP v) (jC v) (spB (some (cS f))) with | some i => _ | none => _) = _
        rw [hvc]
      rw [this]
      exact f2
    | some i =>
      rw [hvc] at e2
      obtain ⟨C, f1, f2, f3⟩ := ih fu B _ (by omega) (by omega) e2 (okl_erase ho) hp
      refine ⟨C, f1, ?_, e3.tr f3⟩
      have : evN (jP v) (spB (some (cS f))) (n + 1) (jC v) = ((evN (jP v) (spB (some (cS f))) n ((jC v).eraseIdx i)).1, (evN (jP v) (spB (some (cS f))) n ((jC v).eraseIdx i)).2 + 1) := by
        show (match vic (jP v) (jC v) (spB (some (cS f))) with | some i => _ | none => _) = _
        rw [hvc]
      rw [this, Nat.add_comm _ 1, ← jsK_jsK]
      exact f2
theorem nI_subz {a b : Nat} (ha : a < 2 ^ 30) (hb : b < 2 ^ 30) : (nI a - nI b ≤ 0 ∧ a - b = 0) ∨ (nI a - nI b = nI (a - b)) := by
  by_cases h : b ≤ a
  · exact Or.inr (pk_sub h)
  · exact Or.inl ⟨Int32.le_of_lt (nI_sneg (by omega) hb), by omega⟩
/-- the cookies and the number of evictions, for a new cookie f -/
def evicT (v : JV) (f : CkV) : List CkV × Nat :=
  let r1 := evN (jP v) (fun c => spB (some (cS f)) c && sameSt (jU v) (cD c) (cD f)) ((jC v).countP (fun c => sameSt (jU v) (cD c) (cD f)) - jL v 0) (jC v)
  let r2 := evN (jP v) (spB (some (cS f))) (r1.1.length - jL v 1) r1.1
  (r2.1, r1.2 + r2.2)
theorem evN_okl {p : Nat} {ok : CkV → Bool} : ∀ n cs, okl cs → okl (evN p ok n cs).1 := by
  intro n
  induction n with
  | zero => intro cs h; exact h
  | succ n ih =>
    intro cs h
    unfold evN
    split
    · exact ih _ (okl_erase h)
    · exact ih _ h
theorem Jr.evictS {J : Nat} {f : CkV} (hf : cS f < 100000) : ∀ (n fu : Nat) (A : Hp) (v : JV), n < fu → n < 1000 → Jr A J v f → okl (jC v) → jP v ≤ 3 → jL v 1 < 1000 → ∃ B, k_X4_evict_19 J fu A (nI n) = some B ∧ Jr B J (jsK (jsC v (evN (jP v) (spB (some (cS f))) ((evN (jP v) (fun c => spB (some (cS f)) c && sameSt (jU v) (cD c) (cD f)) n (jC v)).1.length - jL v 1) (evN (jP v) (fun c => spB (some (cS f)) c && sameSt (jU v) (cD c) (cD f)) n (jC v)).1).1) 4 ((evN (jP v) (fun c => spB (some (cS f)) c && sameSt (jU v) (cD c) (cD f)) n (jC v)).2 + (evN (jP v) (spB (some (cS f))) ((evN (jP v) (fun c => spB (some (cS f)) c && sameSt (jU v) (cD c) (cD f)) n (jC v)).1.length - jL v 1) (evN (jP v) (fun c => spB (some (cS f)) c && sameSt (jU v) (cD c) (cD f)) n (jC v)).1).2)) f ∧ Eqx (jrP J) A B := by
  intro n
  induction n with
  | zero =>
    intro fu A v h1 h2 h ho hp hl
    obtain ⟨fu, rfl⟩ : ∃ f, fu = f + 1 := ⟨fu - 1, by omega⟩
    obtain ⟨ad, h4⟩ := h.2.2.2.1
    have hc := h4.2.2.2.2.1
    show ∃ B, k_X4_evict_19s J _ _ _ = some B ∧ _
    unfold k_X4_evict_19s
    rw [if_pos (show nI 0 ≤ 0 from Int32.le_rfl), if_pos h.1.1.1, h.1.1.2.2.2.2.2.2.2.2.1, h.1.2.2.2.1, if_pos rfl, if_pos (show wix (1 : Int32) (10, 2).2 by decide), h4.2.2.2.1, show (1 : Int32).toNatClampNeg = 1 from rfl, h.2.2.1.2.2.2.2.1 1 (by omega)]
    show ∃ B, _ = some B ∧ Jr B J (jsK (jsC v (evN (jP v) (spB (some (cS f))) ((jC v).length - jL v 1) (jC v)).1) 4 (0 + (evN (jP v) (spB (some (cS f))) ((jC v).length - jL v 1) (jC v)).2)) f ∧ _
    rw [Nat.zero_add]
    rcases nI_subz (a := (jC v).length) (b := jL v 1) (by omega) (by omega) with ⟨q1, q2⟩ | q
    · rw [q2]
      refine ⟨A, ?_, ?_, Eqx.rf⟩
      · obtain ⟨z, hz⟩ := fu_pos (n := 0) (by omega)
        rw [hz]
        show k_X4_evict_63s J _ _ _ = _
        unfold k_X4_evict_63s
        rw [if_pos q1]
      · show Jr A J (jsK (jsC v (jC v)) 4 0) f
        rw [jsK_0]
        exact h
    · rw [q]
      exact Jr.evictL hf _ FU A v (by unfold FU; omega) (by omega) h ho hp
  | succ n ih =>
    intro fu A v h1 h2 h ho hp hl
    obtain ⟨fu, rfl⟩ : ∃ f, fu = f + 1 := ⟨fu - 1, by omega⟩
    obtain ⟨ad, h4⟩ := h.2.2.2.1
    have hR := h.2.2.2.2.2.2.2.2.1
    have st : k_X4_evict_19 J (fu + 1) A (nI (n + 1)) = k_X4_evict_19s J (k_X4_evict_19 J fu) A (nI (n + 1)) := rfl
    rw [st]
    unfold k_X4_evict_19s
    have hv := h4.victimOfSite h.1 h.2.1 ho hp (s := some (cS f)) (fun m hm => by cases hm; exact hf) h.2.2.1.1 hR (by have := hR.2.2.1; omega)
    obtain ⟨B, e1, e2, e3⟩ := h.dropVictim (o := vic (jP v) (jC v) (fun c => spB (some (cS f)) c && sameSt (jU v) (cD c) (cD f))) (fun i hi => vic_lt hi)
    rw [if_neg (nI_nle (by omega) (by omega)), if_pos h.1.1.1, h.1.1.2.2.1, if_pos h.2.2.2.2.1.1, h.2.2.2.2.2.1.2.1, h.2.2.2.2.1.2.2.2.1, show f_X4_victimOfSite A J (J + 371 + 5) (nI (cS f)) = _ from hv, Option.bind_some, e1, Option.bind_some, pk_m1]
    cases hvc : vic (jP v) (jC v) (fun c => spB (some (cS f)) c && sameSt (jU v) (cD c) (cD f)) with
    | none =>
      rw [hvc] at e2
      obtain ⟨C, f1, f2, f3⟩ := ih fu B v (by omega) (by omega) e2 ho hp hl
      refine ⟨C, f1, ?_, e3.tr f3⟩
      have : evN (jP v) (fun c => spB (some (cS f)) c && sameSt (jU v) (cD c) (cD f)) (n + 1) (jC v) = evN (jP v) (fun c => spB (some (cS f)) c && sameSt (jU v) (cD c) (cD f)) n (jC v) := by
        show (match vic (jP v) (jC v) _ with | some i => _ | none => _) = _
        rw [hvc]
      rw [this]
      exact f2
    | some i =>
      rw [hvc] at e2
      obtain ⟨C, f1, f2, f3⟩ := ih fu B _ (by omega) (by omega) e2 (okl_erase ho) hp hl
      refine ⟨C, f1, ?_, e3.tr f3⟩
      have : evN (jP v) (fun c => spB (some (cS f)) c && sameSt (jU v) (cD c) (cD f)) (n + 1) (jC v) = ((evN (jP v) (fun c => spB (some (cS f)) c && sameSt (jU v) (cD c) (cD f)) n ((jC v).eraseIdx i)).1, (evN (jP v) (fun c => spB (some (cS f)) c && sameSt (jU v) (cD c) (cD f)) n ((jC v).eraseIdx i)).2 + 1) := by
        show (match vic (jP v) (jC v) _ with | some i => _ | none => _) = _
        rw [hvc]
      rw [this]
      simp only
      rw [Nat.add_comm _ 1, Nat.add_assoc, ← jsK_jsK]
      exact f2
theorem Jr.evict {A : Hp} {J : Nat} {v : JV} {f : CkV} (h : Jr A J v f) (hf : cS f < 100000) (ho : okl (jC v)) (hp : jP v ≤ 3) (hl0 : jL v 0 < 1000) (hl1 : jL v 1 < 1000) : ∃ B, f_X4_evict A J = some B ∧ Jr B J (jsK (jsC v (evicT v f).1) 4 (evicT v f).2) f ∧ Eqx (jrP J) A B := by
  obtain ⟨ad, h4⟩ := h.2.2.2.1
  have hR := h.2.2.2.2.2.2.2.2.1
  have hc := h4.2.2.2.2.1
  have hcp : (jC v).countP (fun c => sameSt (jU v) (cD c) (cD f)) ≤ (jC v).length := List.countP_le_length
  unfold f_X4_evict
  rw [if_pos h.1.1.1, h.1.1.2.2.1, if_pos h.2.2.2.2.1.1, h.2.2.2.2.1.2.2.2.1, h4.sizeOfSite h.1 h.2.2.1.1 hR (by have := hR.2.2.1; omega), Option.bind_some, h.1.1.2.2.2.2.2.2.2.2.1, h.1.2.2.2.1, if_pos rfl, if_pos (show wix (0 : Int32) (10, 2).2 by decide), show (0 : Int32).toNatClampNeg = 0 from rfl, h.2.2.1.2.2.2.2.1 0 (by omega)]
  unfold evicT
  rcases nI_subz (a := (jC v).countP (fun c => sameSt (jU v) (cD c) (cD f))) (b := jL v 0) (by omega) (by omega) with ⟨q1, q2⟩ | q
  · rw [q2]
    have key := Jr.evictS hf 0 FU A v (by unfold FU; omega) (by omega) h ho hp hl1
    obtain ⟨B, e1, e2⟩ := key
    refine ⟨B, ?_, e2⟩
    obtain ⟨z, hz⟩ := fu_pos (n := 0) (by omega)
    rw [hz] at e1 ⊢
    have e1 : k_X4_evict_19s J (k_X4_evict_19 J (0 + z)) A (nI 0) = some B := e1
    show k_X4_evict_19s J (k_X4_evict_19 J (0 + z)) A _ = some B
    unfold k_X4_evict_19s at e1 ⊢
    rw [if_pos (show nI 0 ≤ 0 from Int32.le_rfl)] at e1
    rw [if_pos q1]
    exact e1
  · rw [q]
    exact Jr.evictS hf _ FU A v (by unfold FU; omega) (by omega) h ho hp hl1
