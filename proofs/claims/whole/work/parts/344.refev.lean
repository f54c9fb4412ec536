/-! the reference: evicting -/
def okm (ms : List CkV) : Prop := okl ms ∧ (∀ c ∈ ms, okE c) ∧ srl ms
theorem okm.perm {L K : List CkV} (h : okm L) (p : L.Perm K) : okm K := ⟨fun c hc => h.1 c (p.mem_iff.mpr hc), fun c hc => h.2.1 c (p.mem_iff.mpr hc), h.2.2.perm p⟩
theorem okm.erase {L : List CkV} (h : okm L) (i : Nat) : okm (L.eraseIdx i) := ⟨fun c hc => h.1 c (List.mem_of_mem_eraseIdx hc), fun c hc => h.2.1 c (List.mem_of_mem_eraseIdx hc), h.2.2.erase i⟩
theorem okm.gon {L : List CkV} (h : okm L) {i : Nat} (hi : i < L.length) : okm (gon L i) := (h.erase i).perm (gon_perm hi).symm
theorem evL_okm {p s lim : Nat} {q : CkV → Bool} : ∀ (k : Nat) (ms : List CkV), okm ms → okm (evL p (fun c => spB (some s) c && q c) q lim k ms).1 := by
  intro k
  induction k with
  | zero => intro ms h; exact h
  | succ k ih =>
    intro ms h
    show okm (if ms.countP q ≤ lim then (ms, 0) else match mn (vict p) ms (fun c => spB (some s) c && q c) with | none => (ms, 0) | some i => ((evL p (fun c => spB (some s) c && q c) q lim k (gon ms i)).1, (evL p (fun c => spB (some s) c && q c) q lim k (gon ms i)).2 + 1)).1
    split
    · exact h
    · cases hm : mn (vict p) ms (fun c => spB (some s) c && q c) with
      | none => exact h
      | some i => exact ih _ (h.gon (mn_some (vict_StO p) hm).1)
theorem evL_len {p s lim : Nat} {q : CkV → Bool} : ∀ (k : Nat) (ms : List CkV), (evL p (fun c => spB (some s) c && q c) q lim k ms).1.length ≤ ms.length := by
  intro k
  induction k with
  | zero => intro ms; exact Nat.le_refl _
  | succ k ih =>
    intro ms
    show (if ms.countP q ≤ lim then (ms, 0) else match mn (vict p) ms (fun c => spB (some s) c && q c) with | none => (ms, 0) | some i => ((evL p (fun c => spB (some s) c && q c) q lim k (gon ms i)).1, (evL p (fun c => spB (some s) c && q c) q lim k (gon ms i)).2 + 1)).1.length ≤ _
    split
    · exact Nat.le_refl _
    · cases hm : mn (vict p) ms (fun c => spB (some s) c && q c) with
      | none => exact Nat.le_refl _
      | some i => have := ih (gon ms i); rw [gon_len] at this; show (evL p _ q lim k (gon ms i)).1.length ≤ _; omega
section
variable {M : Nat} {n : Nat} {f : CkV}
/-- one cookie is evicted: the cells behind the victim -/
theorem JM.evStep {A : Hp} {v : JV} {ms : List CkV} (h : Ms A M) (hJ : JM (mu A M) v ms n) {i : Nat} (hi : i < ms.length) : ∃ B, f_X9_goes A M (nI i) = some B ∧ Ms B M ∧ hgR B 448 M 0 = M + 1 ∧ hgL B 1035 (hgR B 448 M 0) (14 : Int32).toNatClampNeg = lN (jK v 4) ∧ Eqx (oP M) A (hsL B 1035 (M + 1) 14 (lN (jK v 4 + 1))) ∧ JM (mu (hsL B 1035 (M + 1) 14 (lN (jK v 4 + 1))) M) (jsK v 4 1) (gon ms i) n ∧ ∀ k, 8240 ≤ k → mu (hsL B 1035 (M + 1) 14 (lN (jK v 4 + 1))) M k = mu A M k := by
  obtain ⟨B, b1, b2, b3, b4⟩ := hJ.goes h hi
  have hB := h.eq b2 (show ¬ M = M + 1 by omega)
  exact ⟨B, b1, hB, hB.2.1, (hB.vl (i := 14) (by omega)).trans (b3.2.1 4 (by omega)), b2.tr (Eqx.sL rfl), b3.cnt hB (e := 4) (by omega) 1, fun k hk => by rw [mu_set, if_neg (by omega)]; exact b4 k hk⟩
theorem JM.ev52 {s : Nat} {f : CkV} (hs : s < 100000) : ∀ (d kk fu : Nat) (A : Hp) (v : JV) (ms : List CkV), kk + d = 42 → d < fu → Ms A M → JM (mu A M) v ms n → okm ms → jP v ≤ 3 → 1 ≤ jL v 1 → jL v 1 < 1000 → ∃ B, k_X9_evicts_52 M (lN s) fu A (nI kk) = some B ∧ Eqx (oP M) A B ∧ JM (mu B M) (jsK v 4 (evL (jP v) (fun c => spB (some s) c && true) (fun _ => true) (jL v 1) d ms).2) (evL (jP v) (fun c => spB (some s) c && true) (fun _ => true) (jL v 1) d ms).1 n ∧ ∀ k, 8240 ≤ k → mu B M k = mu A M k := by
  intro d
  induction d with
  | zero =>
    intro kk fu A v ms h1 h2 h hJ ho hp hl1 hl2
    obtain ⟨fu, rfl⟩ : ∃ f, fu = f + 1 := ⟨fu - 1, by omega⟩
    refine ⟨A, ?_, Eqx.rf, ?_, fun _ _ => rfl⟩
    · show k_X9_evicts_52s M _ _ _ _ = _
      unfold k_X9_evicts_52s
      rw [if_pos (show (42 : Int32) ≤ nI kk from nI_le (a := 42) (by omega) (by omega))]
    · show JM (mu A M) (jsK v 4 0) ms n
      rw [jsK_0]; exact hJ
  | succ d ih =>
    intro kk fu A v ms h1 h2 h hJ ho hp hl1 hl2
    obtain ⟨fu, rfl⟩ : ∃ f, fu = f + 1 := ⟨fu - 1, by omega⟩
    have hml := hJ.2.2.2.2.2.2.2
    have cnt : ms.countP (fun _ => true) = ms.length := by rw [List.countP_eq_length]; intro a _; rfl
    show ∃ B, k_X9_evicts_52s M _ _ _ _ = some B ∧ Eqx (oP M) A B ∧ JM (mu B M) (jsK v 4 (if ms.countP (fun _ => true) ≤ jL v 1 then (ms, 0) else match mn (vict (jP v)) ms (fun c => spB (some s) c && true) with | none => (ms, 0) | some i => ((evL (jP v) (fun c => spB (some s) c && true) (fun _ => true) (jL v 1) d (gon ms i)).1, (evL (jP v) (fun c => spB (some s) c && true) (fun _ => true) (jL v 1) d (gon ms i)).2 + 1)).2) (if ms.countP (fun _ => true) ≤ jL v 1 then (ms, 0) else match mn (vict (jP v)) ms (fun c => spB (some s) c && true) with | none => (ms, 0) | some i => ((evL (jP v) (fun c => spB (some s) c && true) (fun _ => true) (jL v 1) d (gon ms i)).1, (evL (jP v) (fun c => spB (some s) c && true) (fun _ => true) (jL v 1) d (gon ms i)).2 + 1)).1 n ∧ _
    unfold k_X9_evicts_52s
    rw [if_neg (show ¬ (42 : Int32) ≤ nI kk from nI_ge (b := 42) (by omega) (by omega)), show (5 : Int32) = nI 5 from rfl, show (3 : Int32) = nI 3 from rfl, h.gd (by omega), if_pos (h.wx (by omega)), h.vl (by omega), h.vl (by omega), show mu A M 5 = _ from hJ.1.2.2.1, show mu A M 3 = _ from hJ.1.1.2.2.2]
    by_cases hq : ms.countP (fun _ => true) ≤ jL v 1
    · rw [if_pos ((lN_le (by omega) (by omega)).mpr (by omega)), if_pos hq]
      refine ⟨A, rfl, Eqx.rf, ?_, fun _ _ => rfl⟩
      show JM (mu A M) (jsK v 4 0) ms n
      rw [jsK_0]; exact hJ
    · rw [if_neg (fun z => by have := (lN_le (by omega) (by omega)).mp z; omega), if_neg hq]
      have hv := h.victimBut (f := f) (us := []) hJ.1.2.2.1 hml hJ.2.2.2.2.2.2.1 ho.1 ho.2.1 hJ.1.2.1 hp (s := some s) (fun m hm => by cases hm; exact hs) (os := false) (fun z => by cases z) (fun z => by cases z)
      have hv : f_X9_victimBut A M (lN s) 0 = some (oI (mn (vict (jP v)) ms (fun c => spB (some s) c && true))) := hv
      rw [hv, Option.bind_some]
      cases hm : mn (vict (jP v)) ms (fun c => spB (some s) c && true) with
      | none => exact absurd hm (vic_ex (q := fun _ => true) ho.2.2 hl1 (by omega))
      | some i =>
        have hi := (mn_some (vict_StO _) hm).1
        obtain ⟨B, b1, b2, b3, b4, b5, b6, b7⟩ := hJ.evStep h hi
        obtain ⟨C, c1, c2, c3, c4⟩ := ih (kk + 1) fu (hsL B 1035 (M + 1) 14 (lN (jK v 4 + 1))) (jsK v 4 1) (gon ms i) (by omega) (by omega) b2.set b6 (ho.gon hi) hp hl1 hl2
        refine ⟨C, ?_, b5.tr c2, ?_, fun k hk => (c4 k hk).trans (b7 k hk)⟩
        · rw [show f_X9_goes A M (oI (some i)) = _ from b1, Option.bind_some, if_pos b2.1, if_pos b2.a11, if_pos (show wix (14 : Int32) _ from b2.wx (i := 14) (by omega)), b4, b3, show (14 : Int32).toNatClampNeg = 14 by decide, lN_1, nI_1, c1]
        · rw [jsK_jsK, Nat.add_comm 1] at c3
          exact c3
theorem JM.ev2 {s : Nat} (hs : s < 100000) : ∀ (d kk fu : Nat) (A : Hp) (v : JV) (ms : List CkV), kk + d = 42 → d < fu → Ms A M → JM (mu A M) v ms n → okm ms → jP v ≤ 3 → 1 ≤ jL v 0 → jL v 0 < 1000 → 1 ≤ jL v 1 → jL v 1 < 1000 → KyM (mu A M) 8600 f → ∃ B, k_X9_evicts_2 M (lN s) fu A (nI kk) = some B ∧ Eqx (oP M) A B ∧ JM (mu B M) (jsK v 4 ((evL (jP v) (fun c => spB (some s) c && sameSt (jU v) (cD c) (cD f)) (fun c => sameSt (jU v) (cD c) (cD f)) (jL v 0) d ms).2 + (evL (jP v) (fun c => spB (some s) c && true) (fun _ => true) (jL v 1) 42 (evL (jP v) (fun c => spB (some s) c && sameSt (jU v) (cD c) (cD f)) (fun c => sameSt (jU v) (cD c) (cD f)) (jL v 0) d ms).1).2)) (evL (jP v) (fun c => spB (some s) c && true) (fun _ => true) (jL v 1) 42 (evL (jP v) (fun c => spB (some s) c && sameSt (jU v) (cD c) (cD f)) (fun c => sameSt (jU v) (cD c) (cD f)) (jL v 0) d ms).1).1 n ∧ ∀ k, 8240 ≤ k → mu B M k = mu A M k := by
  intro d
  induction d with
  | zero =>
    intro kk fu A v ms h1 h2 h hJ ho hp hl1 hl2 hl3 hl4 hf
    obtain ⟨fu, rfl⟩ : ∃ f, fu = f + 1 := ⟨fu - 1, by omega⟩
    obtain ⟨B, b1, b2, b3, b4⟩ := JM.ev52 (f := f) hs 42 0 FU A v ms (by omega) (by unfold FU; omega) h hJ ho hp hl3 hl4
    refine ⟨B, ?_, b2, ?_, b4⟩
    · show k_X9_evicts_2s M _ _ _ _ = _
      unfold k_X9_evicts_2s k_X9_evicts_50
      rw [if_pos (show (42 : Int32) ≤ nI kk from nI_le (a := 42) (by omega) (by omega))]
      exact b1
    · show JM (mu B M) (jsK v 4 (0 + (evL (jP v) (fun c => spB (some s) c && true) (fun _ => true) (jL v 1) 42 ms).2)) _ n
      rw [Nat.zero_add]; exact b3
  | succ d ih =>
    intro kk fu A v ms h1 h2 h hJ ho hp hl1 hl2 hl3 hl4 hf
    obtain ⟨fu, rfl⟩ : ∃ f, fu = f + 1 := ⟨fu - 1, by omega⟩
    have hml := hJ.2.2.2.2.2.2.2
    have hcl : ms.countP (fun c => sameSt (jU v) (cD c) (cD f)) ≤ ms.length := List.countP_le_length
    have stp : evL (jP v) (fun c => spB (some s) c && sameSt (jU v) (cD c) (cD f)) (fun c => sameSt (jU v) (cD c) (cD f)) (jL v 0) (d + 1) ms = (if ms.countP (fun c => sameSt (jU v) (cD c) (cD f)) ≤ jL v 0 then (ms, 0) else match mn (vict (jP v)) ms (fun c => spB (some s) c && sameSt (jU v) (cD c) (cD f)) with | none => (ms, 0) | some i => ((evL (jP v) (fun c => spB (some s) c && sameSt (jU v) (cD c) (cD f)) (fun c => sameSt (jU v) (cD c) (cD f)) (jL v 0) d (gon ms i)).1, (evL (jP v) (fun c => spB (some s) c && sameSt (jU v) (cD c) (cD f)) (fun c => sameSt (jU v) (cD c) (cD f)) (jL v 0) d (gon ms i)).2 + 1)) := rfl
    rw [stp]
    have hst : k_X9_evicts_2 M (lN s) (fu + 1) A (nI kk) = k_X9_evicts_2s M (lN s) (k_X9_evicts_2 M (lN s) fu) A (nI kk) := rfl
    rw [hst]
    unfold k_X9_evicts_2s k_X9_evicts_50
    rw [if_neg (show ¬ (42 : Int32) ≤ nI kk from nI_ge (b := 42) (by omega) (by omega)), if_pos h.1, h.ofSite hJ.1.2.2.1 hml hJ.2.2.2.2.2.2.1 hf hJ.2.2.1, Option.bind_some, if_pos h.a11, show (2 : Int32) = nI 2 from rfl, if_pos (h.wx (by omega)), h.vl (by omega), show mu A M 2 = _ from hJ.1.1.2.2.1, nI_l (by omega)]
    by_cases hq : ms.countP (fun c => sameSt (jU v) (cD c) (cD f)) ≤ jL v 0
    · rw [if_pos ((lN_le (by omega) (by omega)).mpr hq), if_pos hq]
      obtain ⟨B, b1, b2, b3, b4⟩ := JM.ev52 (f := f) hs 42 0 FU A v ms (by omega) (by unfold FU; omega) h hJ ho hp hl3 hl4
      refine ⟨B, b1, b2, ?_, b4⟩
      show JM (mu B M) (jsK v 4 (0 + (evL (jP v) (fun c => spB (some s) c && true) (fun _ => true) (jL v 1) 42 ms).2)) _ n
      rw [Nat.zero_add]; exact b3
    · rw [if_neg (fun z => by have := (lN_le (by omega) (by omega)).mp z; omega), if_neg hq]
      have hv := h.victimBut (f := f) (us := jU v) hJ.1.2.2.1 hml hJ.2.2.2.2.2.2.1 ho.1 ho.2.1 hJ.1.2.1 hp (s := some s) (fun m hm => by cases hm; exact hs) (os := true) (fun _ => hf) (fun _ => hJ.2.2.1)
      have hv : f_X9_victimBut A M (lN s) 1 = some (oI (mn (vict (jP v)) ms (fun c => spB (some s) c && sameSt (jU v) (cD c) (cD f)))) := hv
      rw [hv, Option.bind_some]
      cases hm : mn (vict (jP v)) ms (fun c => spB (some s) c && sameSt (jU v) (cD c) (cD f)) with
      | none => exact absurd hm (vic_ex ho.2.2 hl1 (by omega))
      | some i =>
        have hi := (mn_some (vict_StO _) hm).1
        obtain ⟨B, b1, b2, b3, b4, b5, b6, b7⟩ := hJ.evStep h hi
        obtain ⟨C, c1, c2, c3, c4⟩ := ih (kk + 1) fu (hsL B 1035 (M + 1) 14 (lN (jK v 4 + 1))) (jsK v 4 1) (gon ms i) (by omega) (by omega) b2.set b6 (ho.gon hi) hp hl1 hl2 hl3 hl4 (hf.congr (fun k q1 _ q3 => b7 k (by omega)))
        refine ⟨C, ?_, b5.tr c2, ?_, fun k hk => (c4 k hk).trans (b7 k hk)⟩
        · rw [show f_X9_goes A M (oI (some i)) = _ from b1, Option.bind_some, if_pos b2.1, if_pos b2.a11, if_pos (show wix (14 : Int32) _ from b2.wx (i := 14) (by omega)), b4, b3, show (14 : Int32).toNatClampNeg = 14 by decide, lN_1, nI_1, c1]
        · rw [jsK_jsK] at c3
          have e : ∀ x y : Nat, 1 + (x + y) = x + 1 + y := by omega
          rw [e] at c3
          exact c3
/-- what is left, and how many went -/
def evM (v : JV) (ms : List CkV) (f : CkV) (s : Nat) : List CkV × Nat :=
  ((evL (jP v) (fun c => spB (some s) c && true) (fun _ => true) (jL v 1) 42 (evL (jP v) (fun c => spB (some s) c && sameSt (jU v) (cD c) (cD f)) (fun c => sameSt (jU v) (cD c) (cD f)) (jL v 0) 42 ms).1).1, (evL (jP v) (fun c => spB (some s) c && sameSt (jU v) (cD c) (cD f)) (fun c => sameSt (jU v) (cD c) (cD f)) (jL v 0) 42 ms).2 + (evL (jP v) (fun c => spB (some s) c && true) (fun _ => true) (jL v 1) 42 (evL (jP v) (fun c => spB (some s) c && sameSt (jU v) (cD c) (cD f)) (fun c => sameSt (jU v) (cD c) (cD f)) (jL v 0) 42 ms).1).2)
theorem JM.evicts {A : Hp} {v : JV} {ms : List CkV} {s : Nat} (h : Ms A M) (hJ : JM (mu A M) v ms n) (hs : s < 100000) (ho : okm ms) (hp : jP v ≤ 3) (h0 : 1 ≤ jL v 0 ∧ jL v 0 < 1000) (h1 : 1 ≤ jL v 1 ∧ jL v 1 < 1000) (hf : KyM (mu A M) 8600 f) : ∃ B, f_X9_evicts A M (lN s) = some B ∧ Eqx (oP M) A B ∧ JM (mu B M) (jsK v 4 (evM v ms f s).2) (evM v ms f s).1 n ∧ ∀ k, 8240 ≤ k → mu B M k = mu A M k := by
  unfold f_X9_evicts
  exact JM.ev2 hs 42 0 FU A v ms (by omega) (by unfold FU; omega) h hJ ho hp h0.1 h0.2 h1.1 h1.2 hf
end
theorem evM_tie {v : JV} {ms : List CkV} {f : CkV} (hp : ms.Perm (jC v)) (hs : srl (jC v)) (hl : (jC v).length ≤ 42) (h0 : 1 ≤ jL v 0) (h1 : 1 ≤ jL v 1) : (evM v ms f (cS f)).1.Perm (evicT v f).1 ∧ (evM v ms f (cS f)).2 = (evicT v f).2 := by
  have hc : (jC v).countP (fun c => sameSt (jU v) (cD c) (cD f)) ≤ (jC v).length := List.countP_le_length
  have t1 := evTie (p := jP v) (s := cS f) (q := fun c => sameSt (jU v) (cD c) (cD f)) h0 ((jC v).countP (fun c => sameSt (jU v) (cD c) (cD f)) - jL v 0) 42 ms (jC v) hp hs rfl (by omega)
  have fe : (fun c => spB (some (cS f)) c && true) = spB (some (cS f)) := by funext c; rw [Bool.and_true]
  have hsN : ∀ (n : Nat) (ok : CkV → Bool) (cs : List CkV), srl cs → srl (evN (jP v) ok n cs).1 ∧ (evN (jP v) ok n cs).1.length ≤ cs.length := by
    intro n ok
    induction n with
    | zero => intro cs h; exact ⟨h, Nat.le_refl _⟩
    | succ n ih =>
      intro cs h
      unfold evN
      split
      · rename_i i hi
        have := ih (cs.eraseIdx i) (h.erase i)
        have hle : (cs.eraseIdx i).length ≤ cs.length := (List.eraseIdx_sublist cs i).length_le
        exact ⟨this.1, by show (evN (jP v) ok n (cs.eraseIdx i)).1.length ≤ _; omega⟩
      · exact ih cs h
  have n1 := hsN ((jC v).countP (fun c => sameSt (jU v) (cD c) (cD f)) - jL v 0) (fun c => spB (some (cS f)) c && sameSt (jU v) (cD c) (cD f)) (jC v) hs
  have cn : ∀ L : List CkV, L.countP (fun _ => true) = L.length := fun L => by rw [List.countP_eq_length]; intro a _; rfl
  have t2 := evTie (p := jP v) (s := cS f) (q := fun _ => true) h1 ((evN (jP v) (fun c => spB (some (cS f)) c && sameSt (jU v) (cD c) (cD f)) ((jC v).countP (fun c => sameSt (jU v) (cD c) (cD f)) - jL v 0) (jC v)).1.length - jL v 1) 42 _ _ t1.1 n1.1 (by rw [cn]) (by omega)
  have hT : evicT v f = ((evN (jP v) (fun c => spB (some (cS f)) c && true) ((evN (jP v) (fun c => spB (some (cS f)) c && sameSt (jU v) (cD c) (cD f)) ((jC v).countP (fun c => sameSt (jU v) (cD c) (cD f)) - jL v 0) (jC v)).1.length - jL v 1) (evN (jP v) (fun c => spB (some (cS f)) c && sameSt (jU v) (cD c) (cD f)) ((jC v).countP (fun c => sameSt (jU v) (cD c) (cD f)) - jL v 0) (jC v)).1).1, (evN (jP v) (fun c => spB (some (cS f)) c && sameSt (jU v) (cD c) (cD f)) ((jC v).countP (fun c => sameSt (jU v) (cD c) (cD f)) - jL v 0) (jC v)).2 + (evN (jP v) (fun c => spB (some (cS f)) c && true) ((evN (jP v) (fun c => spB (some (cS f)) c && sameSt (jU v) (cD c) (cD f)) ((jC v).countP (fun c => sameSt (jU v) (cD c) (cD f)) - jL v 0) (jC v)).1.length - jL v 1) (evN (jP v) (fun c => spB (some (cS f)) c && sameSt (jU v) (cD c) (cD f)) ((jC v).countP (fun c => sameSt (jU v) (cD c) (cD f)) - jL v 0) (jC v)).1).2) := by
    rw [show (fun c => spB (some (cS f)) c && true) = (spB (some (cS f)) : CkV → Bool) from fe]
    rfl
  rw [hT]
  unfold evM
  refine ⟨t2.1, ?_⟩
  show _ + _ = _ + _
  rw [t1.2, t2.2]
