/-! the reference: going over its cookies -/
def mnS (lt : CkV → CkV → Bool) (cs : List CkV) (ok : CkV → Bool) (o : Option Nat) (i : Nat) : Option Nat := if ok (cg cs i) then (match o with | none => some i | some j => if lt (cg cs i) (cg cs j) then some i else some j) else o
def mnD (lt : CkV → CkV → Bool) (cs : List CkV) (ok : CkV → Bool) : Nat → Nat → Option Nat → Option Nat
  | 0, _, o => o
  | d + 1, i, o => mnD lt cs ok d (i + 1) (mnS lt cs ok o i)
def mn (lt : CkV → CkV → Bool) (cs : List CkV) (ok : CkV → Bool) : Option Nat := mnD lt cs ok cs.length 0 none
theorem vic_mn (p : Nat) (cs : List CkV) (ok : CkV → Bool) : vic p cs ok = mn (vict p) cs ok := by
  have S : ∀ o i, vicS p cs ok o i = mnS (vict p) cs ok o i := by
    intro o i
    unfold vicS mnS
    cases o <;> rfl
  have L : ∀ d i o, vicD p cs ok d i o = mnD (vict p) cs ok d i o := by
    intro d
    induction d with
    | zero => intro i o; rfl
    | succ d ih =>
      intro i o
      show vicD p cs ok d (i + 1) (vicS p cs ok o i) = mnD (vict p) cs ok d (i + 1) (mnS (vict p) cs ok o i)
      rw [ih, S]
  exact L _ _ _
theorem mnS_lt {lt : CkV → CkV → Bool} {cs : List CkV} {ok : CkV → Bool} {o : Option Nat} {i : Nat} (h : ∀ j, o = some j → j < i) : ∀ j, mnS lt cs ok o i = some j → j < i + 1 := by
  intro j hj
  unfold mnS at hj
  split at hj
  · split at hj
    · cases hj; omega
    · rename_i k
      split at hj
      · cases hj; omega
      · cases hj
        have := h j rfl
        omega
  · have := h j hj; omega
/-- how many of the list are ahead -/
def rnk (ms : List CkV) (c : CkV) : Nat := ms.countP (fun d => decide (ccmp d c < 0))
/-- the first place whose cookie has that rank -/
def plo (ms : List CkV) (k : Nat) : Nat → Nat → Option Nat
  | 0, _ => none
  | d + 1, i => if rnk ms (cg ms i) = k then some i else plo ms k d (i + 1)
theorem scmp_self : ∀ s : List Int32, scmp s s = 0 := fun s => scmp_0.mpr rfl
theorem lcmp_self : ∀ s : List (List Int32), lcmp s s = 0 := by
  intro s
  induction s with
  | nil => rfl
  | cons a s ih =>
    show (if scmp a a = 0 then lcmp s s else scmp a a) = 0
    rw [if_pos (scmp_self a)]; exact ih
theorem ccmp_self (c : CkV) : ccmp c c = 0 := by
  unfold ccmp
  rw [if_neg (fun z => z (lcmp_self _)), if_neg (fun z => z (scmp_self _)), if_neg (fun z => z (scmp_self _)), if_pos rfl]
section
variable {A : Hp} {M : Nat} {ms : List CkV} {f : CkV} {us : SL}
theorem Ms.elder (h : Ms A M) (hm : mu A M 5 = lN ms.length) (hl : ms.length ≤ 41) (hc : ∀ i, i < ms.length → CkM (mu A M) (2500 + 140 * i) (cg ms i)) (hf : KyM (mu A M) 8600 f) : f_X9_elder A M = some (oI (eld f ms 0)) := by
  have L : ∀ e i fu, i + e = ms.length → e < fu → k_X9_elder_2 A M fu (nI i) = some (oI (eld f (ms.drop i) i)) := by
    intro e
    induction e with
    | zero =>
      intro i fu h1 h2
      obtain ⟨fu, rfl⟩ : ∃ f, fu = f + 1 := ⟨fu - 1, by omega⟩
      show k_X9_elder_2s A M _ _ = _
      unfold k_X9_elder_2s
      rw [show (5 : Int32) = nI 5 from rfl, h.gd (by omega), h.vl (by omega), hm, nI_l (by omega), if_pos ((lN_le (by omega) (by omega)).mpr (by omega)), List.drop_of_length_le (by omega)]
      rfl
    | succ e ih =>
      intro i fu h1 h2
      obtain ⟨fu, rfl⟩ : ∃ f, fu = f + 1 := ⟨fu - 1, by omega⟩
      show k_X9_elder_2s A M _ _ = _
      unfold k_X9_elder_2s
      rw [show (5 : Int32) = nI 5 from rfl, h.gd (by omega), h.vl (by omega), hm, nI_l (by omega), if_neg (fun z => by have := (lN_le (by omega) (by omega)).mp z; omega), ck_, Option.bind_some, show (8600 : Int32) = nI 8600 from rfl, h.areOne (hc i (by omega)).ky hf (by omega) (by omega), Option.bind_some, nI_1, ih (i + 1) fu (by omega) (by omega), cg_drop (cs := ms) (i := i) (by omega)]
      show _ = some (oI (if sky (cg ms i) f then some i else eld f (ms.drop (i + 1)) (i + 1)))
      cases sky (cg ms i) f <;> rfl
  unfold f_X9_elder
  exact L ms.length 0 FU (by omega) (by unfold FU; omega)
theorem grd_alt (u f : CkV) : grd u f = (cX u && (decide (cN u = cN f) && ((dm (cD u) (cD f) || dm (cD f) (cD u)) && pm (cP f) (cP u)))) := by
  unfold grd; rw [Bool.and_assoc, Bool.and_assoc]
theorem Ms.hides (h : Ms A M) (hm : mu A M 5 = lN ms.length) (hl : ms.length ≤ 41) (hc : ∀ i, i < ms.length → CkM (mu A M) (2500 + 140 * i) (cg ms i)) (hf : KyM (mu A M) 8600 f) (ho : okl ms) : f_X9_hides A M = some (bI (ms.any (fun c => grd c f))) := by
  have lf := hf.2.2.2
  have L : ∀ e i fu (x : Bool), i + e = ms.length → e < fu → k_X9_hides_4 A M fu (bI x) (nI i) = some (bI (x || (ms.drop i).any (fun c => grd c f))) := by
    intro e
    induction e with
    | zero =>
      intro i fu x h1 h2
      obtain ⟨fu, rfl⟩ : ∃ f, fu = f + 1 := ⟨fu - 1, by omega⟩
      show k_X9_hides_4s A M _ _ _ = _
      unfold k_X9_hides_4s
      rw [show (5 : Int32) = nI 5 from rfl, h.gd (by omega), h.vl (by omega), hm, nI_l (by omega), if_pos ((lN_le (by omega) (by omega)).mpr (by omega)), if_pos (bI_Z x), List.drop_of_length_le (by omega)]
      show _ = some (bI (x || false))
      rw [Bool.or_false]
    | succ e ih =>
      intro i fu x h1 h2
      obtain ⟨fu, rfl⟩ : ∃ f, fu = f + 1 := ⟨fu - 1, by omega⟩
      show k_X9_hides_4s A M _ _ _ = _
      have hk := hc i (by omega)
      have lk := hk.2.2.2.2
      have hP : cP (cg ms i) ≠ [] := (ho _ (cg_mem (by omega))).2.1
      have K : ∀ y : Bool, k_X9_hides_90 (k_X9_hides_4 A M fu) A M (bI x) (nI i) (nI (2500 + 140 * i)) (bI y) = k_X9_hides_4 A M fu (bI (x || (cX (cg ms i) && (decide (cN (cg ms i) = cN f) && (y && pm (cP f) (cP (cg ms i))))))) (nI (i + 1)) := by
        intro y
        unfold k_X9_hides_90 k_X9_hides_162 k_X9_hides_158 k_X9_hides_163
        cases x
        · rw [if_pos (by rfl), show nI (2500 + 140 * i) + (9 : Int32) = nI (2500 + 140 * i + 9) from nI_add _ 9, show nI (2500 + 140 * i) + (3 : Int32) = nI (2500 + 140 * i + 3) from nI_add _ 3, show nI (2500 + 140 * i) + (92 : Int32) = nI (2500 + 140 * i + 92) from nI_add _ 92, h.gd (by omega), h.vl (by omega), show mu A M (2500 + 140 * i + 9) = _ from hk.2.2.1.2.1, show (8600 : Int32) = nI 8600 from rfl, h.haveOneName hk.ky hf (by omega) (by omega), Option.bind_some, show (8603 : Int32) = nI 8603 from rfl, if_pos (h.wx (by omega)), if_pos (h.wx (by omega)), h.vl (by omega), h.vl (by omega), show mu A M 8603 = _ from hf.1.2.2.2, show mu A M (2500 + 140 * i + 3) = _ from hk.1.2.2.2, lN_i, lN_i, show (8692 : Int32) = nI 8692 from rfl, h.pathMatches hf.2.2.1.2.2.2 hk.2.2.2.1.2.2.2 (by omega) (by omega) hP, Option.bind_some, nI_1, Bool.false_or]
          cases hX : cX (cg ms i)
          · rw [if_neg (by decide), Bool.false_and]; rfl
          · rw [if_pos (by rfl), Bool.true_and]
            cases decide (cN (cg ms i) = cN f)
            · rw [if_pos (by rfl), Bool.false_and]; rfl
            · rw [if_neg (by decide), Bool.true_and]
              cases y
              · rw [if_pos (by rfl), Bool.false_and]; rfl
              · rw [if_neg (by decide), Bool.true_and]
                cases pm (cP f) (cP (cg ms i)) <;> rfl
        · rw [if_neg (by decide), nI_1, Bool.true_or]; rfl
      unfold k_X9_hides_4s k_X9_hides_85
      rw [show (5 : Int32) = nI 5 from rfl, h.gd (by omega), h.vl (by omega), hm, nI_l (by omega), if_neg (fun z => by have := (lN_le (by omega) (by omega)).mp z; omega), ck_, Option.bind_some, show nI (2500 + 140 * i) + (2 : Int32) = nI (2500 + 140 * i + 2) from nI_add _ 2, show nI (2500 + 140 * i) + (62 : Int32) = nI (2500 + 140 * i + 62) from nI_add _ 62, if_pos (h.wx (by omega)), show (8602 : Int32) = nI 8602 from rfl, if_pos (h.wx (by omega)), h.vl (by omega), h.vl (by omega), show mu A M 8602 = _ from hf.1.2.2.1, show mu A M (2500 + 140 * i + 2) = _ from hk.1.2.2.1, lN_i, lN_i, show (8662 : Int32) = nI 8662 from rfl, h.matches hk.2.2.2.1.2.2.1 hf.2.2.1.2.2.1 (by omega) (by omega), Option.bind_some, h.matches hf.2.2.1.2.2.1 hk.2.2.2.1.2.2.1 (by omega) (by omega), Option.bind_some]
      have fin : ∀ y : Bool, y = (dm (cD (cg ms i)) (cD f) || dm (cD f) (cD (cg ms i))) → k_X9_hides_90 (k_X9_hides_4 A M fu) A M (bI x) (nI i) (nI (2500 + 140 * i)) (bI y) = some (bI (x || (ms.drop i).any (fun c => grd c f))) := by
        intro y hy
        rw [K y, ih (i + 1) fu _ (by omega) (by omega), hy, ← grd_alt, cg_drop (cs := ms) (i := i) (by omega)]
        show _ = some (bI (x || (grd (cg ms i) f || (ms.drop (i + 1)).any (fun c => grd c f))))
        rw [Bool.or_assoc]
      cases h1 : dm (cD (cg ms i)) (cD f)
      · rw [if_pos (by rfl)]
        cases h2 : dm (cD f) (cD (cg ms i))
        · rw [if_pos (by rfl)]; exact fin false (by rw [h1, h2]; rfl)
        · rw [if_neg (by decide)]; exact fin true (by rw [h1, h2]; rfl)
      · rw [if_neg (by decide)]; exact fin true (by rw [h1]; rfl)
  unfold f_X9_hides
  exact L ms.length 0 FU false (by omega) (by unfold FU; omega)
theorem Ms.isOfNew (h : Ms A M) (hU : SuM (mu A M) us) {i : Nat} (hi : i ≤ 41) {c : CkV} (hc : CkM (mu A M) (2500 + 140 * i) c) (hf : KyM (mu A M) 8600 f) : f_X9_isOfNew A M (nI i) = some (bI (sameSt us (cD c) (cD f))) := by
  have lf := hf.2.2.2
  have lk := hc.2.2.2.2
  unfold f_X9_isOfNew
  rw [ck_, Option.bind_some, show nI (2500 + 140 * i) + (2 : Int32) = nI (2500 + 140 * i + 2) from nI_add _ 2, show nI (2500 + 140 * i) + (62 : Int32) = nI (2500 + 140 * i + 62) from nI_add _ 62, h.gd (by omega), show (8602 : Int32) = nI 8602 from rfl, if_pos (h.wx (by omega)), h.vl (by omega), h.vl (by omega), show mu A M 8602 = _ from hf.1.2.2.1, show mu A M (2500 + 140 * i + 2) = _ from hc.1.2.2.1, lN_i, lN_i, show (8662 : Int32) = nI 8662 from rfl, h.areOneSite hU hc.2.2.2.1.2.2.1 hf.2.2.1.2.2.1 (by omega) (by omega), Option.bind_some, if_pos (bI_Z _)]
theorem Ms.ofSite (h : Ms A M) (hm : mu A M 5 = lN ms.length) (hl : ms.length ≤ 41) (hc : ∀ i, i < ms.length → CkM (mu A M) (2500 + 140 * i) (cg ms i)) (hf : KyM (mu A M) 8600 f) (hU : SuM (mu A M) us) : f_X9_ofSite A M = some (nI (ms.countP (fun c => sameSt us (cD c) (cD f)))) := by
  have L : ∀ e i fu n, i + e = ms.length → e < fu → k_X9_ofSite_4 A M fu (nI n) (nI i) = some (nI (n + (ms.drop i).countP (fun c => sameSt us (cD c) (cD f)))) := by
    intro e
    induction e with
    | zero =>
      intro i fu n h1 h2
      obtain ⟨fu, rfl⟩ : ∃ f, fu = f + 1 := ⟨fu - 1, by omega⟩
      show k_X9_ofSite_4s A M _ _ _ = _
      unfold k_X9_ofSite_4s
      rw [show (5 : Int32) = nI 5 from rfl, h.gd (by omega), h.vl (by omega), hm, nI_l (by omega), if_pos ((lN_le (by omega) (by omega)).mpr (by omega)), List.drop_of_length_le (by omega)]
      rfl
    | succ e ih =>
      intro i fu n h1 h2
      obtain ⟨fu, rfl⟩ : ∃ f, fu = f + 1 := ⟨fu - 1, by omega⟩
      show k_X9_ofSite_4s A M _ _ _ = _
      unfold k_X9_ofSite_4s k_X9_ofSite_30
      rw [show (5 : Int32) = nI 5 from rfl, h.gd (by omega), h.vl (by omega), hm, nI_l (by omega), if_neg (fun z => by have := (lN_le (by omega) (by omega)).mp z; omega), h.isOfNew hU (by omega) (hc i (by omega)) hf, Option.bind_some, nI_1, cg_drop (by omega), List.countP_cons]
      cases hs : sameSt us (cD (cg ms i)) (cD f)
      · rw [if_pos (by rfl), if_neg (by decide), show nI n + (0 : Int32) = nI n from nI_add n 0, ih (i + 1) fu n (by omega) (by omega)]
        rfl
      · rw [if_neg (by decide), if_pos rfl, nI_1, ih (i + 1) fu (n + 1) (by omega) (by omega), show n + ((ms.drop (i + 1)).countP (fun c => sameSt us (cD c) (cD f)) + 1) = n + 1 + (ms.drop (i + 1)).countP (fun c => sameSt us (cD c) (cD f)) by omega]
  unfold f_X9_ofSite
  have := L ms.length 0 FU 0 (by omega) (by unfold FU; omega)
  rw [Nat.zero_add] at this
  exact this
theorem Ms.victimBut (h : Ms A M) (hm : mu A M 5 = lN ms.length) (hl : ms.length ≤ 41) (hc : ∀ i, i < ms.length → CkM (mu A M) (2500 + 140 * i) (cg ms i)) (ho : okl ms) (hE : ∀ c ∈ ms, okE c) {p : Nat} (hp : mu A M 4 = lN p) (h3 : p ≤ 3) {s : Option Nat} (hs : ∀ n, s = some n → n < 100000) {os : Bool} (hf : os = true → KyM (mu A M) 8600 f) (hU : os = true → SuM (mu A M) us) : f_X9_victimBut A M (oL s) (bI os) = some (oI (mn (vict p) ms (fun c => spB s c && (!os || sameSt us (cD c) (cD f))))) := by
  have L : ∀ e i fu o, i + e = ms.length → e < fu → (∀ j, o = some j → j < i) → k_X9_victimBut_6 A M (oL s) (bI os) fu (oI o) (nI i) = some (oI (mnD (vict p) ms (fun c => spB s c && (!os || sameSt us (cD c) (cD f))) e i o)) := by
    intro e
    induction e with
    | zero =>
      intro i fu o h1 h2 h4
      obtain ⟨fu, rfl⟩ : ∃ f, fu = f + 1 := ⟨fu - 1, by omega⟩
      show k_X9_victimBut_6s A M _ _ _ _ _ = _
      unfold k_X9_victimBut_6s
      rw [show (5 : Int32) = nI 5 from rfl, h.gd (by omega), h.vl (by omega), hm, nI_l (by omega), if_pos ((lN_le (by omega) (by omega)).mpr (by omega))]
      rfl
    | succ e ih =>
      intro i fu o h1 h2 h4
      obtain ⟨fu, rfl⟩ : ∃ f, fu = f + 1 := ⟨fu - 1, by omega⟩
      show k_X9_victimBut_6s A M _ _ _ _ _ = _
      have hk := hc i (by omega)
      have oki := ho _ (cg_mem (show i < ms.length by omega))
      have K : ∀ y : Bool, y = (spB s (cg ms i) && (!os || sameSt us (cD (cg ms i)) (cD f))) → k_X9_victimBut_55 (k_X9_victimBut_6 A M (oL s) (bI os) fu) A M (oL s) (bI os) (oI o) (nI i) (bI y) = some (oI (mnD (vict p) ms (fun c => spB s c && (!os || sameSt us (cD c) (cD f))) (e + 1) i o)) := by
        intro y hy
        have st := fun o' => ih (i + 1) fu o' (by omega) (by omega)
        show _ = some (oI (mnD (vict p) ms (fun c => spB s c && (!os || sameSt us (cD c) (cD f))) e (i + 1) (mnS (vict p) ms (fun c => spB s c && (!os || sameSt us (cD c) (cD f))) o i)))
        rw [← st _ (mnS_lt h4)]
        unfold k_X9_victimBut_55 k_X9_victimBut_89 k_X9_victimBut_84 k_X9_victimBut_91 mnS
        rw [nI_1]
        show _ = k_X9_victimBut_6 A M (oL s) (bI os) fu (oI (if (spB s (cg ms i) && (!os || sameSt us (cD (cg ms i)) (cD f))) = true then _ else o)) (nI (i + 1))
        rw [← hy]
        cases y
        · rw [if_pos (by rfl), if_neg (by decide)]
        · rw [if_neg (by decide), if_pos rfl]
          cases o with
          | none => rw [if_pos (by decide)]; rfl
          | some j =>
            have hj := h4 j rfl
            rw [if_neg (show ¬ oI (some j) < 0 from nI_pos (by omega)), ck_, Option.bind_some, show f_X9_cookie A (oI (some j)) = _ from ck_ j, Option.bind_some, if_pos h.1, h.goesAhead hk (hc j (by omega)) (by omega) (by omega) hp h3 oki (ho _ (cg_mem (by omega))) (hE _ (cg_mem (by omega))) (hE _ (cg_mem (by omega))), Option.bind_some]
            show _ = k_X9_victimBut_6 A M (oL s) (bI os) fu (oI (if vict p (cg ms i) (cg ms j) = true then some i else some j)) (nI (i + 1))
            cases vict p (cg ms i) (cg ms j)
            · rw [if_pos (by rfl), if_neg (by decide)]
            · rw [if_neg (by decide), if_pos rfl]; rfl
      unfold k_X9_victimBut_6s k_X9_victimBut_54 k_X9_victimBut_50
      rw [show (5 : Int32) = nI 5 from rfl, h.gd (by omega), h.vl (by omega), hm, nI_l (by omega), if_neg (fun z => by have := (lN_le (by omega) (by omega)).mp z; omega), ck_, Option.bind_some, show nI (2500 + 140 * i) + (7 : Int32) = nI (2500 + 140 * i + 7) from nI_add _ 7, if_pos (h.wx (by omega)), h.vl (by omega), show mu A M (2500 + 140 * i + 7) = _ from hk.2.1.2.2.2]
      have hsp : (lN (cS (cg ms i)) = oL s) ↔ spB s (cg ms i) = false := by
        cases s with
        | none =>
          constructor
          · intro z; exact absurd z (lN_m1 (by have := oki.2.2.1; omega))
          · intro z; cases z
        | some n =>
          show lN (cS (cg ms i)) = lN n ↔ decide (cS (cg ms i) ≠ n) = false
          rw [lN_eq (by have := oki.2.2.1; omega) (by have := hs n rfl; omega), decide_eq_false_iff_not, Classical.not_not]
      cases hb : spB s (cg ms i)
      · rw [if_pos (hsp.mpr hb)]
        exact K false (by rw [hb]; rfl)
      · rw [if_neg (fun z => by rw [hsp.mp z] at hb; cases hb)]
        cases os
        · rw [if_pos (by rfl)]
          exact K true (by rw [hb]; rfl)
        · rw [if_neg (by decide), h.isOfNew (hU rfl) (by omega) hk (hf rfl), Option.bind_some]
          cases hss : sameSt us (cD (cg ms i)) (cD f)
          · rw [if_pos (by rfl)]
            exact K false (by rw [hb, hss]; rfl)
          · rw [if_neg (by decide)]
            exact K true (by rw [hb, hss]; rfl)
  unfold f_X9_victimBut mn
  exact L ms.length 0 FU none (by omega) (by unfold FU; omega) (fun j hj => by cases hj)
theorem Ms.indexOf (h : Ms A M) (hm : mu A M 5 = lN ms.length) (hl : ms.length ≤ 41) (hc : ∀ i, i < ms.length → CkM (mu A M) (2500 + 140 * i) (cg ms i)) (ho : okl ms) {k : Nat} (hk : k < ms.length) : f_X9_indexOf A M (nI k) = some (nI (rnk ms (cg ms k))) := by
  have L : ∀ e i fu n, i + e = ms.length → e < fu → k_X9_indexOf_4 A M (nI k) fu (nI n) (nI i) = some (nI (n + (ms.drop i).countP (fun d => decide (ccmp d (cg ms k) < 0)))) := by
    intro e
    induction e with
    | zero =>
      intro i fu n h1 h2
      obtain ⟨fu, rfl⟩ : ∃ f, fu = f + 1 := ⟨fu - 1, by omega⟩
      show k_X9_indexOf_4s A M _ _ _ _ = _
      unfold k_X9_indexOf_4s
      rw [show (5 : Int32) = nI 5 from rfl, h.gd (by omega), h.vl (by omega), hm, nI_l (by omega), if_pos ((lN_le (by omega) (by omega)).mpr (by omega)), List.drop_of_length_le (by omega)]
      rfl
    | succ e ih =>
      intro i fu n h1 h2
      obtain ⟨fu, rfl⟩ : ∃ f, fu = f + 1 := ⟨fu - 1, by omega⟩
      show k_X9_indexOf_4s A M _ _ _ _ = _
      unfold k_X9_indexOf_4s k_X9_indexOf_41 k_X9_indexOf_42
      rw [show (5 : Int32) = nI 5 from rfl, h.gd (by omega), h.vl (by omega), hm, nI_l (by omega), if_neg (fun z => by have := (lN_le (by omega) (by omega)).mp z; omega), ck_, Option.bind_some, ck_, Option.bind_some, h.isAhead (hc i (by omega)).ky (hc k hk).ky (by omega) (by omega) (ho _ (cg_mem (by omega))).1 (ho _ (cg_mem hk)).1, Option.bind_some, nI_1, cg_drop (by omega), List.countP_cons]
      have z0 : k_X9_indexOf_4 A M (nI k) fu (nI n + (0 : Int32)) (nI (i + 1)) = some (nI (n + ((ms.drop (i + 1)).countP (fun d => decide (ccmp d (cg ms k) < 0))))) := by
        rw [show nI n + (0 : Int32) = nI n from nI_add n 0, ih (i + 1) fu n (by omega) (by omega)]
      by_cases hik : i = k
      · have : ¬ ccmp (cg ms i) (cg ms k) < 0 := by rw [hik, ccmp_self]; decide
        rw [if_pos (by rw [hik]), decide_eq_false this, if_neg (by decide)]
        exact z0
      · rw [if_neg (fun z => hik ((nI_eq (by omega) (by omega)).mp z))]
        cases hd : decide (ccmp (cg ms i) (cg ms k) < 0)
        · rw [if_pos (by rfl), if_neg (by decide)]
          exact z0
        · rw [if_neg (by decide), if_pos rfl, nI_1, ih (i + 1) fu (n + 1) (by omega) (by omega), show n + ((ms.drop (i + 1)).countP (fun d => decide (ccmp d (cg ms k) < 0)) + 1) = n + 1 + (ms.drop (i + 1)).countP (fun d => decide (ccmp d (cg ms k) < 0)) by omega]
  unfold f_X9_indexOf rnk
  have := L ms.length 0 FU 0 (by omega) (by unfold FU; omega)
  rw [Nat.zero_add] at this
  exact this
theorem rnk_le (ms : List CkV) (c : CkV) : rnk ms c ≤ ms.length := List.countP_le_length
theorem Ms.placeOf (h : Ms A M) (hm : mu A M 5 = lN ms.length) (hl : ms.length ≤ 41) (hc : ∀ i, i < ms.length → CkM (mu A M) (2500 + 140 * i) (cg ms i)) (ho : okl ms) {k : Nat} (hk : k < 2 ^ 31) : f_X9_placeOf A M (nI k) = some (oI (plo ms k ms.length 0)) := by
  have L : ∀ e i fu, i + e = ms.length → e < fu → k_X9_placeOf_2 A M (nI k) fu (nI i) = some (oI (plo ms k e i)) := by
    intro e
    induction e with
    | zero =>
      intro i fu h1 h2
      obtain ⟨fu, rfl⟩ : ∃ f, fu = f + 1 := ⟨fu - 1, by omega⟩
      show k_X9_placeOf_2s A M _ _ _ = _
      unfold k_X9_placeOf_2s
      rw [show (5 : Int32) = nI 5 from rfl, h.gd (by omega), h.vl (by omega), hm, nI_l (by omega), if_pos ((lN_le (by omega) (by omega)).mpr (by omega))]
      rfl
    | succ e ih =>
      intro i fu h1 h2
      obtain ⟨fu, rfl⟩ : ∃ f, fu = f + 1 := ⟨fu - 1, by omega⟩
      show k_X9_placeOf_2s A M _ _ _ = _
      unfold k_X9_placeOf_2s
      have hr := rnk_le ms (cg ms i)
      rw [show (5 : Int32) = nI 5 from rfl, h.gd (by omega), h.vl (by omega), hm, nI_l (by omega), if_neg (fun z => by have := (lN_le (by omega) (by omega)).mp z; omega), h.indexOf hm hl hc ho (by omega), Option.bind_some, nI_1, ih (i + 1) fu (by omega) (by omega)]
      show _ = some (oI (if rnk ms (cg ms i) = k then some i else plo ms k e (i + 1)))
      by_cases hq : rnk ms (cg ms i) = k
      · rw [if_pos (by rw [hq]), if_pos hq]; rfl
      · rw [if_neg (fun z => hq ((nI_eq (by omega) hk).mp z)), if_neg hq]
  unfold f_X9_placeOf
  exact L ms.length 0 FU (by omega) (by unfold FU; omega)
end
