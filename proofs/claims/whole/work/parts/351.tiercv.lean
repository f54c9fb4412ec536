/-! receiving: class and reference -/
def rok (r : RdV) : Prop := okr r ∧ (r.1.2.2.2 ≠ [] → g r.1.2.2.2 0 = 47)
theorem oneO_le {gv : List Int32} {a b c o : Nat} (h : o ≤ 2) : oneO gv a b c o ≤ 2 := by
  unfold oneO
  split
  · omega
  · split
    · omega
    · split <;> omega
theorem rok_A2 {a gv : List Int32} {v : RdV} (h : rok v) : rok (rdA2 a gv v) := by
  obtain ⟨⟨h1, h2, h3⟩, h4⟩ := h
  unfold rdA2
  split
  · refine ⟨⟨fun d hd => ?_, h2, h3⟩, h4⟩
    have hd : (rdDate gv).orElse (fun _ => v.2.1.2.2) = some d := hd
    cases hq : rdDate gv with
    | none => rw [hq] at hd; exact h1 d hd
    | some e => rw [hq] at hd; cases hd; exact rdDate_lt hq
  · split
    · exact ⟨⟨h1, h2, h3⟩, h4⟩
    · split
      · exact ⟨⟨h1, h2, h3⟩, h4⟩
      · split
        · split
          · rename_i q; exact ⟨⟨h1, h2, h3⟩, fun _ => q.1⟩
          · exact ⟨⟨h1, h2, h3⟩, h4⟩
        · split
          · exact ⟨⟨h1, h2, h3⟩, h4⟩
          · split
            · exact ⟨⟨h1, h2, h3⟩, h4⟩
            · split
              · exact ⟨⟨h1, oneO_le h2, h3⟩, h4⟩
              · split
                · exact ⟨⟨h1, h2, oneO_le h3⟩, h4⟩
                · exact ⟨⟨h1, h2, h3⟩, h4⟩
theorem rok_loop (t : List Int32) : ∀ n e v, rok v → rok (rdLoop t n e v) := by
  intro n
  induction n with
  | zero => intro e v h; exact h
  | succ n ih =>
    intro e v h
    show rok (if e < t.length then rdLoop t n (fnd t 59 (e + 1) t.length) (rdAttr t (e + 1) (fnd t 59 (e + 1) t.length) v) else v)
    split
    · exact ih _ _ (rok_A2 h)
    · exact h
theorem rok_ck (t : List Int32) : rok (rdCk t) := rok_loop t _ _ _ ⟨⟨fun d h => (nomatch h), by show 1 ≤ 2; omega, by show 1 ≤ 2; omega⟩, fun h => absurd rfl h⟩
def okq (a : AdV) : Prop := a.1 = true → isDom a.2.2.1 = true ∧ 1 ≤ a.2.2.2.length ∧ g a.2.2.2 0 = 47
/-- what holds of a state behind b calls -/
def Inv (v : JV) (b : Nat) : Prop :=
  (srt (jC v) ∧ okm (jC v) ∧ (jC v).length ≤ 40 ∧ ∀ c ∈ jC v, cS c < jK v 0) ∧ ((1 ≤ jL v 0 ∧ jL v 0 ≤ 40) ∧ (1 ≤ jL v 1 ∧ jL v 1 ≤ 40)) ∧ (jP v ≤ 3 ∧ jX v < 100) ∧ okq (jR v) ∧ (∀ i, i < 7 → jK v i ≤ 100 * b) ∧ ∃ T, jT v = lN T ∧ T ≤ b * 2147483648
theorem Inv.mo {v : JV} {b c : Nat} (h : Inv v b) (hbc : b ≤ c) : Inv v c := by
  obtain ⟨h1, h2, h3, h4, h5, T, h6, h7⟩ := h
  exact ⟨h1, h2, h3, h4, fun i hi => Nat.le_trans (h5 i hi) (Nat.mul_le_mul_left _ hbc), T, h6, Nat.le_trans h7 (Nat.mul_le_mul_right _ hbc)⟩
theorem evN_sub {p : Nat} {ok : CkV → Bool} : ∀ (n : Nat) (cs : List CkV), (evN p ok n cs).1.Sublist cs ∧ (evN p ok n cs).2 ≤ n := by
  intro n
  induction n with
  | zero => intro cs; exact ⟨List.Sublist.refl _, Nat.le_refl _⟩
  | succ n ih =>
    intro cs
    unfold evN
    split
    · rename_i i hi
      exact ⟨(ih (cs.eraseIdx i)).1.trans (List.eraseIdx_sublist cs i), by have := (ih (cs.eraseIdx i)).2; show (evN p ok n (cs.eraseIdx i)).2 + 1 ≤ _; omega⟩
    · exact ⟨(ih cs).1, by have := (ih cs).2; omega⟩
theorem evN_len {p s lim : Nat} (hl : 1 ≤ lim) : ∀ (n : Nat) (cs : List CkV), srl cs → n = cs.length - lim → (evN p (spB (some s)) n cs).1.length ≤ max lim (cs.length - n) := by
  intro n
  induction n with
  | zero => intro cs _ hn; show cs.length ≤ _; omega
  | succ n ih =>
    intro cs hs hn
    have cn : cs.countP (fun _ => true) = cs.length := by rw [List.countP_eq_length]; intro a _; rfl
    have hx := vic_ex (p := p) (s := s) (lim := lim) (q := fun _ => true) hs hl (by omega)
    rw [show (fun c => spB (some s) c && (fun _ => true) c) = spB (some s) by funext c; rw [Bool.and_true]] at hx
    rw [← vic_mn] at hx
    cases hv : vic p cs (spB (some s)) with
    | none => exact absurd hv hx
    | some i =>
      have hi := vic_lt hv
      have he : (cs.eraseIdx i).length = cs.length - 1 := by rw [List.length_eraseIdx, if_pos hi]
      have := ih (cs.eraseIdx i) (hs.erase i) (by omega)
      unfold evN
      rw [hv]
      show (evN p (spB (some s)) n (cs.eraseIdx i)).1.length ≤ _
      omega
theorem evicT_sub (v : JV) (f : CkV) : (evicT v f).1.Sublist (jC v) ∧ (evicT v f).2 ≤ (jC v).length + (jC v).length := by
  have h1 := evN_sub (p := jP v) (ok := fun c => spB (some (cS f)) c && sameSt (jU v) (cD c) (cD f)) ((jC v).countP (fun c => sameSt (jU v) (cD c) (cD f)) - jL v 0) (jC v)
  have h2 := evN_sub (p := jP v) (ok := spB (some (cS f))) ((evN (jP v) (fun c => spB (some (cS f)) c && sameSt (jU v) (cD c) (cD f)) ((jC v).countP (fun c => sameSt (jU v) (cD c) (cD f)) - jL v 0) (jC v)).1.length - jL v 1) (evN (jP v) (fun c => spB (some (cS f)) c && sameSt (jU v) (cD c) (cD f)) ((jC v).countP (fun c => sameSt (jU v) (cD c) (cD f)) - jL v 0) (jC v)).1
  have h3 : (jC v).countP (fun c => sameSt (jU v) (cD c) (cD f)) ≤ (jC v).length := List.countP_le_length
  have h4 := h1.1.length_le
  refine ⟨h2.1.trans h1.1, ?_⟩
  have h12 := h1.2
  have h22 := h2.2
  show _ + _ ≤ _
  omega
theorem evicT_len {v : JV} {f : CkV} (hs : srl (jC v)) (h1 : 1 ≤ jL v 1 ∧ jL v 1 ≤ 40) : (evicT v f).1.length ≤ 40 := by
  have e1 := evN_sub (p := jP v) (ok := fun c => spB (some (cS f)) c && sameSt (jU v) (cD c) (cD f)) ((jC v).countP (fun c => sameSt (jU v) (cD c) (cD f)) - jL v 0) (jC v)
  have hs1 : srl (evN (jP v) (fun c => spB (some (cS f)) c && sameSt (jU v) (cD c) (cD f)) ((jC v).countP (fun c => sameSt (jU v) (cD c) (cD f)) - jL v 0) (jC v)).1 := by
    unfold srl at hs ⊢
    exact hs.sublist (e1.1.map _)
  have := evN_len (p := jP v) (s := cS f) (lim := jL v 1) h1.1 _ _ hs1 rfl
  show (evN (jP v) (spB (some (cS f))) ((evN (jP v) (fun c => spB (some (cS f)) c && sameSt (jU v) (cD c) (cD f)) ((jC v).countP (fun c => sameSt (jU v) (cD c) (cD f)) - jL v 0) (jC v)).1.length - jL v 1) (evN (jP v) (fun c => spB (some (cS f)) c && sameSt (jU v) (cD c) (cD f)) ((jC v).countP (fun c => sameSt (jU v) (cD c) (cD f)) - jL v 0) (jC v)).1).1.length ≤ 40
  omega
theorem okm.sub {L K : List CkV} (h : okm L) (s : K.Sublist L) : okm K := ⟨fun c hc => h.1 c (s.subset hc), fun c hc => h.2.1 c (s.subset hc), by have := h.2.2; unfold srl at this ⊢; exact this.sublist (s.map _)⟩
/-- the class's receiving -/
def rcC (v : JV) (r : RdV) (sc : Bool) (f0 : CkV) : Nat × JV × CkV :=
  if (accA v r sc f0).1 = 1 ∨ (accA v r sc f0).1 = 2 then ((accA v r sc f0).1, jsK (jsC (accA v r sc f0).2.1 (evicT (accA v r sc f0).2.1 (accA v r sc f0).2.2).1) 4 (evicT (accA v r sc f0).2.1 (accA v r sc f0).2.2).2, (accA v r sc f0).2.2) else accA v r sc f0
theorem cauP_perm {v : JV} {ms : List CkV} (p : ms.Perm (jC v)) (f : CkV) (sc : Bool) : cauP (jsC v ms) f sc = cauP v f sc := by
  unfold cauP
  rw [show (jC (jsC v ms)).any (fun c => grd c f) = (jC v).any (fun c => grd c f) from p.any_eq]
  rfl
theorem mkF_ok {v : JV} {r : RdV} {b : Nat} (hI : Inv v b) (hb : b ≤ 512) (hr : rok r) (ho : (jR v).1 = true) (h40 : (jR v).2.2.2.length ≤ 40) (hc : cau2 v r = 0) (hx : isExp r (jT v) = false) : okv (mkF v r) ∧ okE (mkF v r) := by
  obtain ⟨h1, h2, h3, h4, h5, T, h6, h7⟩ := hI
  obtain ⟨q1, q2, q3⟩ := h4 ho
  have hT : T < 2199023255552 := by have : b * 2147483648 ≤ 512 * 2147483648 := Nat.mul_le_mul_right _ hb; omega
  refine ⟨⟨(mkF_dom q1 hc).1, ?_, ?_, hr.1.2.1, hr.1.2.2⟩, ?_⟩
  · show (if r.1.2.2.2 = [] then dfP (jR v).2.2.2 else r.1.2.2.2) ≠ []
    split
    · intro z
      have := (dfP_len h40).2
      rw [z] at this
      exact absurd this (by show ¬ 1 ≤ 0; omega)
    · rename_i z; exact z
  · show jK v 0 < 100000
    have := h5 0 (by omega)
    omega
  · show -1 ≤ (expAt r (jT v)).toInt ∧ (expAt r (jT v)).toInt < 2 ^ 50
    have key : ∀ k : Nat, k < 2 ^ 50 → -1 ≤ (lN k).toInt ∧ (lN k).toInt < 2 ^ 50 := fun k hk => by rw [pk_lT (by omega)]; omega
    unfold isExp at hx
    unfold expAt
    rw [h6] at hx ⊢
    cases ha : r.2.1.2.1 with
    | some a =>
      rw [ha] at hx
      have hx : ¬ ¬ 0 < a := of_decide_eq_false hx
      have ha0 : ¬ a < 0 := fun z => hx (fun y => by rw [Int32.lt_iff_toInt_lt] at y z; have : (0 : Int32).toInt = 0 := by decide
                                                     omega)
      obtain ⟨j, hj, rfl⟩ := nI_of ha0
      show -1 ≤ (lN T + (if 34560000 < nI j then (34560000 : Int32) else nI j).toInt64).toInt ∧ (lN T + (if 34560000 < nI j then (34560000 : Int32) else nI j).toInt64).toInt < 2 ^ 50
      split
      · rw [show (34560000 : Int32).toInt64 = lN 34560000 by decide, lN_add]; exact key _ (by omega)
      · rw [nI_l hj, lN_add]; exact key _ (by omega)
    | none =>
      cases hd : r.2.1.2.2 with
      | none => show -1 ≤ (-1 : Int64).toInt ∧ (-1 : Int64).toInt < 2 ^ 50; decide
      | some d =>
        have hd2 := hr.1.1 d hd
        show -1 ≤ (if lN T + 34560000 < lN d then lN T + 34560000 else lN d).toInt ∧ (if lN T + 34560000 < lN d then lN T + 34560000 else lN d).toInt < 2 ^ 50
        split
        · rw [show (34560000 : Int64) = lN 34560000 from rfl, lN_add]; exact key _ (by omega)
        · exact key _ (by omega)
theorem T_up {T b : Nat} (h : T ≤ b * 2147483648) : T ≤ (b + 1) * 2147483648 := Nat.le_trans h (Nat.mul_le_mul_right _ (Nat.le_succ b))
theorem Inv.cnt {v : JV} {b : Nat} (h : Inv v b) {x i : Nat} (hx : x < 100) (hi : i ≠ 0) : Inv (jsK (jsX v x) i 1) (b + 1) := by
  obtain ⟨⟨a1, a2, a3, a4⟩, h2, h3, h4, h5, T, h6, h7⟩ := h
  refine ⟨⟨a1, a2, a3, fun c hc => ?_⟩, h2, ⟨h3.1, hx⟩, h4, fun j hj => ?_, T, h6, T_up h7⟩
  · show cS c < if 0 = i then jK v i + 1 else jK v 0
    rw [if_neg (fun z => hi z.symm)]; exact a4 c hc
  · show (if j = i then jK v i + 1 else jK v j) ≤ _
    split
    · rename_i z; have := h5 j hj; rw [z] at this; omega
    · have := h5 j hj; omega
/-- the state with other cookies and counts -/
theorem Inv.upd {v w : JV} {b : Nat} (h : Inv v b) (hw : w = (((jC w), (jU v)), v.2.1, v.2.2.1, v.2.2.2.1, (jK w), (jP v), (jX w), (jT v))) (h1 : srt (jC w)) (h2 : okm (jC w)) (h3 : (jC w).length ≤ 40) (h4 : ∀ c ∈ jC w, cS c < jK w 0) (h5 : jX w < 100) (h6 : ∀ i, i < 7 → jK w i ≤ 100 * (b + 1)) : Inv w (b + 1) := by
  obtain ⟨-, a2, a3, a4, -, T, a6, a7⟩ := h
  rw [hw]
  exact ⟨⟨h1, h2, h3, h4⟩, a2, ⟨a3.1, h5⟩, a4, h6, T, a6, T_up a7⟩
theorem set_perm {ms cs : List CkV} (p : ms.Perm cs) {i j : Nat} (hi : i < ms.length) (hj : j < cs.length) (e : cg ms i = cg cs j) (w : CkV) : (ms.set i w).Perm (cs.set j w) :=
  ((cg_set_perm ms i w hi).trans ((perm_erase p hi hj e).cons w)).trans (cg_set_perm cs j w hj).symm
theorem rcC_no {v : JV} {r : RdV} {sc : Bool} {f0 f : CkV} {k : Nat} {w : JV} (h : accA v r sc f0 = (k, w, f)) (hk : ¬ (k = 1 ∨ k = 2)) : rcC v r sc f0 = (k, w, f) := by
  unfold rcC; rw [h]; exact if_neg hk
theorem rcC_yes {v : JV} {r : RdV} {sc : Bool} {f0 f : CkV} {k : Nat} {w : JV} (h : accA v r sc f0 = (k, w, f)) (hk : k = 1 ∨ k = 2) : rcC v r sc f0 = (k, jsK (jsC w (evicT w f).1) 4 (evicT w f).2, f) := by
  unfold rcC; rw [h]; exact if_pos hk
theorem rcv_tie {v : JV} {ms : List CkV} {n b : Nat} {r : RdV} {f0 : CkV} (hI : Inv v b) (hb : b < 512) (p : ms.Perm (jC v)) (hn : n = jK v 0) (hr : rok r) (ho : (jR v).1 = true) (h40 : (jR v).2.2.2.length ≤ 40) (sc : Bool) :
    (rcM v ms n r sc).1 = (rcC v r sc f0).1 ∧ jsC (rcM v ms n r sc).2.1 (jC (rcC v r sc f0).2.1) = (rcC v r sc f0).2.1 ∧ (rcM v ms n r sc).2.2.1.Perm (jC (rcC v r sc f0).2.1) ∧ (rcM v ms n r sc).2.2.2 = jK (rcC v r sc f0).2.1 0 ∧ Inv (rcC v r sc f0).2.1 (b + 1) := by
  obtain ⟨⟨a1, a2, a3, a4⟩, ⟨⟨l1, l2⟩, l3, l4⟩, ⟨a5, a6⟩, a7, a8, T, a9, a10⟩ := id hI
  by_cases c2 : cau2 v r = 0
  · have cM : cauM v ms r sc = cau4 v r sc := by
      unfold cauM cau4
      rw [if_neg (fun z => z c2), cauP_perm p]
      by_cases cp : cauP v (mkF v r) sc = 0
      · rw [if_neg (fun z => z cp), cp]
        rcases eld_tie (f := mkF v r) p a1 with ⟨e1, e2⟩ | ⟨i, e1, e2, e3, e4⟩
        · rw [e1, if_neg (fun z => e2 (of_decide_eq_true z.2.2.1))]
        · rw [e1]
          show (if (sc && cO (cg ms i)) = true then 62 else 0) = _
          rw [e4, show knw v (mkF v r) = true from decide_eq_true e3]
          cases sc
          · rw [Bool.false_and, if_neg (by decide), if_neg (fun z => by cases z.2.1)]
          · cases hO : cO (cg (jC v) (plc (mkF v r) (jC v)))
            · rw [if_neg (by decide), if_neg (fun z => by cases z.2.2.2)]
            · rw [if_pos (by decide), if_pos ⟨rfl, rfl, rfl, rfl⟩]
      · rw [if_pos cp, if_neg (fun z => cp z.1)]
    have c4l : cau4 v r sc < 100 := by
      unfold cau4
      split
      · omega
      · exact cauP_lt _ _ _
    by_cases c4 : cau4 v r sc = 0
    · have hM0 : ∀ o, eld (mkF v r) ms 0 = o → rcM v ms n r sc = if isExp r (jT v) then (match o with
        | none => (0, jsK (jsX v 0) 6 1, ms, n)
        | some i => (3, jsK (jsX v 0) 2 1, gon ms i, n))
        else (match o with
        | none => (1, jsK (jsK (jsX v 0) 4 (evM (jsX v 0) (ms ++ [mkF v r]) (mkF v r) n).2) 0 1, (evM (jsX v 0) (ms ++ [mkF v r]) (mkF v r) n).1, n + 1)
        | some i => (2, jsK (jsK (jsX v 0) 4 (evM (jsX v 0) (ms.set i (repl (mkF v r) (cg ms i))) (repl (mkF v r) (cg ms i)) (cS (cg ms i))).2) 1 1, (evM (jsX v 0) (ms.set i (repl (mkF v r) (cg ms i))) (repl (mkF v r) (cg ms i)) (cS (cg ms i))).1, n)) := fun o ho => by
        unfold rcM; rw [cM, if_neg (fun z => z c4), ho]; cases o <;> rfl
      have hA0 : accA v r sc f0 = if isExp r (jT v) then (if knw v (mkF v r) then (3, jsK (jsC (jsX v 0) ((jC v).eraseIdx (plc (mkF v r) (jC v)))) 2 1, mkF v r) else (0, jsK (jsX v 0) 6 1, mkF v r))
        else (if knw v (mkF v r) then (2, jsK (jsC (jsX v 0) ((jC v).set (plc (mkF v r) (jC v)) (repl (mkF v r) (cg (jC v) (plc (mkF v r) (jC v)))))) 1 1, repl (mkF v r) (cg (jC v) (plc (mkF v r) (jC v)))) else (1, jsK (jsC (jsX v 0) ((jC v).insertIdx (plc (mkF v r) (jC v)) (mkF v r))) 0 1, mkF v r)) := by
        unfold accA; rw [if_neg (fun z => z c2), if_neg (fun z => z c4)]
      rcases eld_tie (f := mkF v r) p a1 with ⟨e1, e2⟩ | ⟨i, e1, e2, e3, e4⟩
      · have hk : knw v (mkF v r) = false := decide_eq_false e2
        have hM := hM0 _ e1
        rw [hk] at hA0
        cases hx : isExp r (jT v) with
        | true =>
          rw [hx, if_pos rfl] at hM
          rw [hx, if_pos rfl, if_neg (by decide)] at hA0
          rw [hM, rcC_no hA0 (by omega)]
          exact ⟨rfl, rfl, p, hn, hI.cnt (x := 0) (i := 6) (by omega) (by omega)⟩
        | false =>
          rw [hx, if_neg (by decide)] at hM
          have hM : rcM v ms n r sc = (1, jsK (jsK (jsX v 0) 4 (evM (jsX v 0) (ms ++ [mkF v r]) (mkF v r) n).2) 0 1, (evM (jsX v 0) (ms ++ [mkF v r]) (mkF v r) n).1, n + 1) := hM
          rw [hx, if_neg (by decide), if_neg (by decide)] at hA0
          rw [hM, rcC_yes hA0 (by omega)]
          obtain ⟨okF, oeF⟩ := mkF_ok hI (by omega) hr ho h40 c2 hx
          have hpl := plc_le (mkF v r) (jC v)
          have pI : (ms ++ [mkF v r]).Perm ((jC v).insertIdx (plc (mkF v r) (jC v)) (mkF v r)) := ((List.perm_append_singleton _ _).trans (p.cons _)).trans (List.perm_insertIdx _ _ hpl).symm
          have oI : okm ((jC v).insertIdx (plc (mkF v r) (jC v)) (mkF v r)) := ((a2.perm p.symm).snoc (fun c hc z => by have := a4 c (p.mem_iff.mp hc); have z : cS c = jK v 0 := z; omega) okF oeF).perm pI
          have lI : ((jC v).insertIdx (plc (mkF v r) (jC v)) (mkF v r)).length = (jC v).length + 1 := List.length_insertIdx_of_le_length hpl _
          have et := evM_tie (v := jsK (jsC (jsX v 0) ((jC v).insertIdx (plc (mkF v r) (jC v)) (mkF v r))) 0 1) (ms := ms ++ [mkF v r]) (f := mkF v r) pI oI.2.2 (by have := lI; show ((jC v).insertIdx (plc (mkF v r) (jC v)) (mkF v r)).length ≤ 42; omega) l1 l3
          have es := evicT_sub (jsK (jsC (jsX v 0) ((jC v).insertIdx (plc (mkF v r) (jC v)) (mkF v r))) 0 1) (mkF v r)
          have el := evicT_len (v := jsK (jsC (jsX v 0) ((jC v).insertIdx (plc (mkF v r) (jC v)) (mkF v r))) 0 1) (f := mkF v r) oI.2.2 ⟨l3, l4⟩
          have sI := a1.ins e2
          rw [hn]
          have et1 : (evM (jsX v 0) (ms ++ [mkF v r]) (mkF v r) (jK v 0)).1.Perm (evicT (jsK (jsC (jsX v 0) ((jC v).insertIdx (plc (mkF v r) (jC v)) (mkF v r))) 0 1) (mkF v r)).1 := et.1
          have et2 : (evM (jsX v 0) (ms ++ [mkF v r]) (mkF v r) (jK v 0)).2 = (evicT (jsK (jsC (jsX v 0) ((jC v).insertIdx (plc (mkF v r) (jC v)) (mkF v r))) 0 1) (mkF v r)).2 := et.2
          have es1 : (evicT (jsK (jsC (jsX v 0) ((jC v).insertIdx (plc (mkF v r) (jC v)) (mkF v r))) 0 1) (mkF v r)).1.Sublist ((jC v).insertIdx (plc (mkF v r) (jC v)) (mkF v r)) := es.1
          have es2 : (evicT (jsK (jsC (jsX v 0) ((jC v).insertIdx (plc (mkF v r) (jC v)) (mkF v r))) 0 1) (mkF v r)).2 ≤ 82 := by
            have := es.2
            rw [show jC (jsK (jsC (jsX v 0) ((jC v).insertIdx (plc (mkF v r) (jC v)) (mkF v r))) 0 1) = (jC v).insertIdx (plc (mkF v r) (jC v)) (mkF v r) from rfl, lI] at this
            omega
          generalize evicT (jsK (jsC (jsX v 0) ((jC v).insertIdx (plc (mkF v r) (jC v)) (mkF v r))) 0 1) (mkF v r) = E at *
          generalize evM (jsX v 0) (ms ++ [mkF v r]) (mkF v r) (jK v 0) = E' at *
          rw [et2]
          refine ⟨rfl, ?_, et1, rfl, ?_⟩
          · show ((E.1, jU v), v.2.1, v.2.2.1, v.2.2.2.1, (fun j => if j = 0 then (if 0 = 4 then jK v 4 + E.2 else jK v 0) + 1 else if j = 4 then jK v 4 + E.2 else jK v j), jP v, 0, jT v) = ((E.1, jU v), v.2.1, v.2.2.1, v.2.2.2.1, (fun j => if j = 4 then (if 4 = 0 then jK v 0 + 1 else jK v 4) + E.2 else if j = 0 then jK v 0 + 1 else jK v j), jP v, 0, jT v)
            have : (fun j : Nat => if j = 0 then (if 0 = 4 then jK v 4 + E.2 else jK v 0) + 1 else if j = 4 then jK v 4 + E.2 else jK v j) = (fun j : Nat => if j = 4 then (if 4 = 0 then jK v 0 + 1 else jK v 4) + E.2 else if j = 0 then jK v 0 + 1 else jK v j) := by
              funext j
              by_cases z : j = 0
              · rw [if_pos z, if_neg (by omega), if_neg (by omega), if_pos z]
              · rw [if_neg z]
                by_cases y : j = 4
                · rw [if_pos y, if_pos y, if_neg (by omega)]
                · rw [if_neg y, if_neg y, if_neg z]
            rw [this]
          · refine hI.upd rfl (sI.sub es1) (oI.sub es1) el (fun c hc => ?_) (show 0 < 100 by omega) (fun j hj => ?_)
            · show cS c < jK v 0 + 1
              rcases (List.mem_insertIdx hpl).mp (es1.subset hc) with z | z
              · rw [z]; show jK v 0 < _; omega
              · have := a4 c z; omega
            · show (if j = 4 then (if 4 = 0 then jK v 0 + 1 else jK v 4) + E.2 else if j = 0 then jK v 0 + 1 else jK v j) ≤ _
              have h4 := a8 4 (by omega)
              have h0 := a8 0 (by omega)
              have hj := a8 j hj
              split
              · rw [if_neg (by omega)]; omega
              · split <;> omega
      · have hk : knw v (mkF v r) = true := decide_eq_true e3
        have hM := hM0 _ e1
        rw [hk] at hA0
        cases hx : isExp r (jT v) with
        | true =>
          rw [hx, if_pos rfl] at hM
          rw [hx, if_pos rfl, if_pos rfl] at hA0
          rw [hM, rcC_no hA0 (by omega)]
          have pe : (gon ms i).Perm ((jC v).eraseIdx (plc (mkF v r) (jC v))) := (gon_perm e2).trans (perm_erase p e2 e3.1 e4)
          have ss : ((jC v).eraseIdx (plc (mkF v r) (jC v))).Sublist (jC v) := List.eraseIdx_sublist _ _
          refine ⟨rfl, rfl, pe, hn, hI.upd rfl (a1.sub ss) (a2.sub ss) (by have := ss.length_le; show ((jC v).eraseIdx (plc (mkF v r) (jC v))).length ≤ 40; omega) (fun c hc => a4 c (ss.subset hc)) (show 0 < 100 by omega) (fun j hj => ?_)⟩
          show (if j = 2 then jK v 2 + 1 else jK v j) ≤ _
          have := a8 2 (by omega)
          have := a8 j hj
          split <;> omega
        | false =>
          rw [hx, if_neg (by decide)] at hM
          have hM : rcM v ms n r sc = (2, jsK (jsK (jsX v 0) 4 (evM (jsX v 0) (ms.set i (repl (mkF v r) (cg ms i))) (repl (mkF v r) (cg ms i)) (cS (cg ms i))).2) 1 1, (evM (jsX v 0) (ms.set i (repl (mkF v r) (cg ms i))) (repl (mkF v r) (cg ms i)) (cS (cg ms i))).1, n) := hM
          rw [hx, if_neg (by decide), if_pos rfl] at hA0
          rw [hM, rcC_yes hA0 (by omega)]
          obtain ⟨okF, oeF⟩ := mkF_ok hI (by omega) hr ho h40 c2 hx
          rw [e4]
          have hsl := a4 _ (cg_mem e3.1)
          have pS : (ms.set i (repl (mkF v r) (cg (jC v) (plc (mkF v r) (jC v))))).Perm ((jC v).set (plc (mkF v r) (jC v)) (repl (mkF v r) (cg (jC v) (plc (mkF v r) (jC v))))) := set_perm p e2 e3.1 e4 _
          have oS : okm ((jC v).set (plc (mkF v r) (jC v)) (repl (mkF v r) (cg (jC v) (plc (mkF v r) (jC v))))) := a2.set e3.1 rfl ⟨okF.1, okF.2.1, (by show cS (cg (jC v) (plc (mkF v r) (jC v))) < 100000; have := a8 0 (by omega); omega), okF.2.2.2⟩ oeF
          have sS : srt ((jC v).set (plc (mkF v r) (jC v)) (repl (mkF v r) (cg (jC v) (plc (mkF v r) (jC v))))) := a1.eqk (List.length_set) (fun j hj => by
            by_cases z : j = plc (mkF v r) (jC v)
            · rw [z, show cg ((jC v).set (plc (mkF v r) (jC v)) (repl (mkF v r) (cg (jC v) (plc (mkF v r) (jC v))))) (plc (mkF v r) (jC v)) = repl (mkF v r) (cg (jC v) (plc (mkF v r) (jC v))) by simp [cg, e3.1]]
              exact e3.2
            · rw [show cg ((jC v).set (plc (mkF v r) (jC v)) (repl (mkF v r) (cg (jC v) (plc (mkF v r) (jC v))))) j = cg (jC v) j by simp only [cg, List.getD_eq_getElem?_getD]; rw [List.getElem?_set_ne (fun y => z y.symm)]]
              exact ccmp_self _)
          generalize hW : repl (mkF v r) (cg (jC v) (plc (mkF v r) (jC v))) = W at *
          have hWS : cS W = cS (cg (jC v) (plc (mkF v r) (jC v))) := by rw [← hW]; rfl
          rw [← hWS] at hsl ⊢
          have et := evM_tie (v := jsK (jsC (jsX v 0) ((jC v).set (plc (mkF v r) (jC v)) W)) 1 1) (ms := ms.set i W) (f := W) pS oS.2.2 (by show ((jC v).set (plc (mkF v r) (jC v)) W).length ≤ 42; rw [List.length_set]; omega) l1 l3
          have es := evicT_sub (jsK (jsC (jsX v 0) ((jC v).set (plc (mkF v r) (jC v)) W)) 1 1) W
          have el := evicT_len (v := jsK (jsC (jsX v 0) ((jC v).set (plc (mkF v r) (jC v)) W)) 1 1) (f := W) oS.2.2 ⟨l3, l4⟩
          have et1 : (evM (jsX v 0) (ms.set i W) W (cS W)).1.Perm (evicT (jsK (jsC (jsX v 0) ((jC v).set (plc (mkF v r) (jC v)) W)) 1 1) W).1 := et.1
          have et2 : (evM (jsX v 0) (ms.set i W) W (cS W)).2 = (evicT (jsK (jsC (jsX v 0) ((jC v).set (plc (mkF v r) (jC v)) W)) 1 1) W).2 := et.2
          have es1 : (evicT (jsK (jsC (jsX v 0) ((jC v).set (plc (mkF v r) (jC v)) W)) 1 1) W).1.Sublist ((jC v).set (plc (mkF v r) (jC v)) W) := es.1
          have es2 : (evicT (jsK (jsC (jsX v 0) ((jC v).set (plc (mkF v r) (jC v)) W)) 1 1) W).2 ≤ 82 := by
            have := es.2
            rw [show jC (jsK (jsC (jsX v 0) ((jC v).set (plc (mkF v r) (jC v)) W)) 1 1) = (jC v).set (plc (mkF v r) (jC v)) W from rfl, List.length_set] at this
            omega
          generalize evicT (jsK (jsC (jsX v 0) ((jC v).set (plc (mkF v r) (jC v)) W)) 1 1) W = E at *
          generalize evM (jsX v 0) (ms.set i W) W (cS W) = E' at *
          rw [et2]
          refine ⟨rfl, ?_, et1, hn, ?_⟩
          · show ((E.1, jU v), v.2.1, v.2.2.1, v.2.2.2.1, (fun j => if j = 1 then (if 1 = 4 then jK v 4 + E.2 else jK v 1) + 1 else if j = 4 then jK v 4 + E.2 else jK v j), jP v, 0, jT v) = ((E.1, jU v), v.2.1, v.2.2.1, v.2.2.2.1, (fun j => if j = 4 then (if 4 = 1 then jK v 1 + 1 else jK v 4) + E.2 else if j = 1 then jK v 1 + 1 else jK v j), jP v, 0, jT v)
            have : (fun j : Nat => if j = 1 then (if 1 = 4 then jK v 4 + E.2 else jK v 1) + 1 else if j = 4 then jK v 4 + E.2 else jK v j) = (fun j : Nat => if j = 4 then (if 4 = 1 then jK v 1 + 1 else jK v 4) + E.2 else if j = 1 then jK v 1 + 1 else jK v j) := by
              funext j
              by_cases z : j = 1
              · rw [if_pos z, if_neg (by omega), if_neg (by omega), if_pos z]
              · rw [if_neg z]
                by_cases y : j = 4
                · rw [if_pos y, if_pos y, if_neg (by omega)]
                · rw [if_neg y, if_neg y, if_neg z]
            rw [this]
          · refine hI.upd rfl (sS.sub es1) (oS.sub es1) el (fun c hc => ?_) (show 0 < 100 by omega) (fun j hj => ?_)
            · show cS c < jK v 0
              rcases List.mem_or_eq_of_mem_set (es1.subset hc) with z | z
              · exact a4 c z
              · rw [z]; exact hsl
            · show (if j = 4 then (if 4 = 1 then jK v 1 + 1 else jK v 4) + E.2 else if j = 1 then jK v 1 + 1 else jK v j) ≤ _
              have h4 := a8 4 (by omega)
              have h1 := a8 1 (by omega)
              have hj := a8 j hj
              split
              · rw [if_neg (by omega)]; omega
              · split <;> omega
    · have hM : rcM v ms n r sc = (0, jsK (jsX v (cau4 v r sc)) 5 1, ms, n) := by unfold rcM; rw [cM, if_pos c4]
      have hA : accA v r sc f0 = (0, jsK (jsX v (cau4 v r sc)) 5 1, mkF v r) := by unfold accA; rw [if_neg (fun z => z c2), if_pos c4]
      rw [hM, rcC_no hA (by omega)]
      exact ⟨rfl, rfl, p, hn, hI.cnt c4l (by omega)⟩
  · have cM : cauM v ms r sc = cau2 v r := by unfold cauM; rw [if_pos c2]
    have c2l : cau2 v r < 100 := by
      unfold cau2
      split
      · exact cauD_lt _ _
      · exact cauT_lt _
    have hM : rcM v ms n r sc = (0, jsK (jsX v (cau2 v r)) 5 1, ms, n) := by unfold rcM; rw [cM, if_pos c2]
    have hA : accA v r sc f0 = (0, jsK (jsX v (cau2 v r)) 5 1, f0) := by unfold accA; rw [if_pos c2]
    rw [hM, rcC_no hA (by omega)]
    exact ⟨rfl, rfl, p, hn, hI.cnt c2l (by omega)⟩
