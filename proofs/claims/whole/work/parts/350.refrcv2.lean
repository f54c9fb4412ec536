/-! the reference: receiving, whole -/
def rcM (v : JV) (ms : List CkV) (n : Nat) (r : RdV) (sc : Bool) : Nat × JV × List CkV × Nat :=
  if cauM v ms r sc ≠ 0 then (0, jsK (jsX v (cauM v ms r sc)) 5 1, ms, n)
  else if isExp r (jT v) then (match eld (mkF v r) ms 0 with
    | none => (0, jsK (jsX v 0) 6 1, ms, n)
    | some i => (3, jsK (jsX v 0) 2 1, gon ms i, n))
  else (match eld (mkF v r) ms 0 with
    | none => (1, jsK (jsK (jsX v 0) 4 (evM (jsX v 0) (ms ++ [mkF v r]) (mkF v r) n).2) 0 1, (evM (jsX v 0) (ms ++ [mkF v r]) (mkF v r) n).1, n + 1)
    | some i => (2, jsK (jsK (jsX v 0) 4 (evM (jsX v 0) (ms.set i (repl (mkF v r) (cg ms i))) (repl (mkF v r) (cg ms i)) (cS (cg ms i))).2) 1 1, (evM (jsX v 0) (ms.set i (repl (mkF v r) (cg ms i))) (repl (mkF v r) (cg ms i)) (cS (cg ms i))).1, n))
theorem srl.set {L : List CkV} (h : srl L) {i : Nat} (hi : i < L.length) {w : CkV} (hS : cS w = cS (cg L i)) : srl (L.set i w) := by
  have p1 := (cg_set_perm L i w hi).map (fun c : CkV => cS c)
  have p2 := (cg_erase_perm L i hi).map (fun c : CkV => cS c)
  have e : (w :: L.eraseIdx i).map (fun c : CkV => cS c) = (cg L i :: L.eraseIdx i).map (fun c : CkV => cS c) := by rw [List.map_cons, List.map_cons, hS]
  rw [e] at p1
  exact (p1.trans p2).symm.nodup h
theorem okm.set {L : List CkV} (h : okm L) {i : Nat} (hi : i < L.length) {w : CkV} (hS : cS w = cS (cg L i)) (h1 : okv w) (h2 : okE w) : okm (L.set i w) := by
  refine ⟨fun c hc => ?_, fun c hc => ?_, h.2.2.set hi hS⟩
  · rcases List.mem_or_eq_of_mem_set hc with z | z
    · exact h.1 c z
    · rw [z]; exact h1
  · rcases List.mem_or_eq_of_mem_set hc with z | z
    · exact h.2.1 c z
    · rw [z]; exact h2
theorem okm.snoc {L : List CkV} (h : okm L) {w : CkV} (hS : ∀ c ∈ L, cS c ≠ cS w) (h1 : okv w) (h2 : okE w) : okm (L ++ [w]) := by
  refine ⟨fun c hc => ?_, fun c hc => ?_, ?_⟩
  · rcases List.mem_append.mp hc with z | z
    · exact h.1 c z
    · rw [List.mem_singleton.mp z]; exact h1
  · rcases List.mem_append.mp hc with z | z
    · exact h.2.1 c z
    · rw [List.mem_singleton.mp z]; exact h2
  · have p : (L ++ [w]).Perm (w :: L) := List.perm_append_singleton w L
    refine srl.perm ?_ p.symm
    show (cS w :: L.map (fun c => cS c)).Nodup
    rw [List.nodup_cons]
    refine ⟨fun z => ?_, h.2.2⟩
    obtain ⟨c, c1, c2⟩ := List.mem_map.mp z
    exact hS c c1 c2
section
variable {A : Hp} {M : Nat} {t : List Int32} {r : RdV} {v : JV} {ms : List CkV} {n : Nat}
theorem FiM.ky {B : Hp} (h : FiM A B M (jU v) (jR v) r) (hh : isDom (jR v).2.2.1 = true) (hc : cau2 v r = 0) (hP : (mkP (jR v) r).length ≤ 40) : KyM (mu B M) 8600 (mkF v r) := by
  obtain ⟨o1, o2, o3, o4, o5⟩ := mkO_eq hh hc
  obtain ⟨e, k, ⟨a1, a2, a3, a4, a5⟩, b, c, d⟩ := h
  have d := d o3
  rw [o2] at a3 d o3
  rw [o1] at a5
  exact ⟨⟨a1, a2, a3, a4⟩, a5, ⟨(b o4 o5).1, (b o4 o5).2, d, c⟩, o4, o5, o3, hP⟩
theorem JM.receive (h : Ms A M) (hM : Mw A M) (x : Tx A M t) (hJ : JM (mu A M) v ms n) (hr : rdCk t = r) (ho : okm ms) (hop : (jR v).1 = true) (hh : isDom (jR v).2.2.1 = true) (hq1 : 1 ≤ (jR v).2.2.2.length) (hq0 : g (jR v).2.2.2 0 = 47) (h2 : okr r) (hpath : r.1.2.2.2 ≠ [] → g r.1.2.2.2 0 = 47) (hp : jP v ≤ 3) (h0 : 1 ≤ jL v 0 ∧ jL v 0 < 1000) (h1 : 1 ≤ jL v 1 ∧ jL v 1 < 1000) (hn : n < 100000) (hK : jK v 0 = n) (hl : ms.length ≤ 40) (hser : ∀ c ∈ ms, cS c < n) (sc : Bool) (hnew : cauM v ms r sc = 0 → isExp r (jT v) = false → okv (mkF v r) ∧ okE (mkF v r)) :
    ∃ B, f_X9_receive A M (bI sc) = some (nI (rcM v ms n r sc).1, B) ∧ RfE A B M ∧ hgI B 451 M 0 = 0 ∧ hgI B 452 M 0 = 0 ∧ JM (mu B M) (rcM v ms n r sc).2.1 (rcM v ms n r sc).2.2.1 (rcM v ms n r sc).2.2.2 := by
  have hne : ¬ oP M M := show ¬ M = M + 1 by omega
  have ht := x.2.1
  -- thrown is set to 0
  have f0 : RfE A (hsI A 452 M 0 0) M := RfE.sI
  have g0 : Ms (hsI A 452 M 0 0) M := h.fe f0
  have w0 : Mw (hsI A 452 M 0 0) M := hM.fe f0
  have x0 : Tx (hsI A 452 M 0 0) M t := ⟨by rw [hgI_sI, if_neg (by omega)]; exact x.1, x.2.1, x.2.2.1, x.2.2.2⟩
  have j0 : JM (mu (hsI A 452 M 0 0) M) v ms n := hJ
  have t0 : hgI (hsI A 452 M 0 0) 452 M 0 = 0 := by rw [hgI_sI, if_pos ⟨rfl, rfl, rfl⟩]
  unfold f_X9_receive
  rw [if_pos h.1, if_pos g0.a11, if_pos (show wix (100 : Int32) _ from g0.wx (i := 100) (by omega)), if_neg (show ¬ hgL (hsI A 452 M 0 0) 1035 (hgR (hsI A 452 M 0 0) 448 M 0) (100 : Int32).toNatClampNeg = 0 from fun z => by
    rw [show hgL (hsI A 452 M 0 0) 1035 (hgR (hsI A 452 M 0 0) 448 M 0) (100 : Int32).toNatClampNeg = lB (jR v).1 from (g0.vl (i := 100) (by omega)).trans j0.2.2.2.2.1.1.1, hop] at z
    exact absurd z (by decide))]
  generalize hsI A 452 M 0 0 = A0 at *
  -- the text is read
  obtain ⟨A1, a1, a2, a3, a4⟩ := g0.readsCookie w0 x0
  rw [hr] at a2 a3
  have g1 := g0.rc a4
  have w1 := w0.rc a4
  have x1 := x0.rc a4
  have j1 : JM (mu A1 M) v ms n := j0.congr (fun k hk => a4.2.2.2 k (by omega))
  rw [a1, Option.bind_some, if_pos g1.1]
  -- the new cookie is filled
  obtain ⟨A2, b1, b2⟩ := g1.fillsCookie x1 a3 a2 j1.2.2.1 j1.2.2.2.2.1 hq1 hq0
  obtain ⟨be, bk, -⟩ := id b2
  have g2 : Ms A2 M := g1.eq be hne
  have w2 : Mw A2 M := w1.fe be.fe
  have j2 : JM (mu A2 M) v ms n := j1.congr (fun k hk => bk k (by omega))
  have n2 : NvM A2 M t r := a3.eq be (fun k z1 z2 => bk k (by omega)) ht
  have t2 : AtM A2 M t r := ⟨a2.1.fr (be.I hne 472 0) (be.L hne 473 0) rfl, a2.2.1.fr (be.I hne 474 0) (be.L hne 475 0) rfl, a2.2.2.1.fr (be.I hne 476 0) (be.I hne 477 0) (fun k hk => bk k (by omega)) rfl, a2.2.2.2.1.fr (be.I hne 478 0) (be.I hne 479 0) (be.I hne 480 0) (fun k hk => bk k (by omega)) ht rfl, a2.2.2.2.2.fr (fun k z1 z2 => bk k (by omega)) rfl⟩
  have q40 := j1.2.2.2.2.1.2.2.2.2
  have hP : (mkP (jR v) r).length ≤ 40 := by
    unfold mkP
    split
    · exact (dfP_len q40).1
    · exact a2.2.2.2.1.2.2
  have hP0 : g (cP (mkF v r)) 0 = 47 := by
    show g (mkP (jR v) r) 0 = 47
    unfold mkP
    split
    · unfold dfP
      split
      · rfl
      · rename_i z
        rw [show (jR v).2.2.2.take (lsl (jR v).2.2.2 ((jR v).2.2.2.length - 1)) = sub (jR v).2.2.2 0 (lsl (jR v).2.2.2 ((jR v).2.2.2.length - 1)) from rfl, sub_g (by omega)]
        exact hq0
    · rename_i z; exact hpath z
  rw [b1, Option.bind_some, if_pos g2.1, g2.cause w2 n2 t2 j2 ho.1 h2 hh ht (fun z => ⟨b2.ky hh z hP, hP0⟩) sc, Option.bind_some, if_pos g2.a11, if_pos (show wix (7 : Int32) _ from g2.wx (i := 7) (by omega))]
  have cl : cauM v ms r sc < 100 := by
    unfold cauM
    split
    · unfold cau2; split
      · exact cauD_lt _ _
      · exact cauT_lt _
    · split
      · exact cauP_lt _ _ _
      · split
        · omega
        · split <;> omega
  -- the cause, the text
  rw [nI_l (show cauM v ms r sc < 2 ^ 31 by omega), show (7 : Int32).toNatClampNeg = 7 by decide, g2.2.1]
  have f3 : RfE A2 (hsI (hsL A2 1035 (M + 1) 7 (lN (cauM v ms r sc))) 451 M 0 0) M := RfE.sL.tr RfE.sI
  have g3 := g2.fe f3
  have j3 : JM (mu (hsI (hsL A2 1035 (M + 1) 7 (lN (cauM v ms r sc))) 451 M 0 0) M) (jsX v (cauM v ms r sc)) ms n := j2.setX _
  have m3 : ∀ k, 8400 ≤ k → mu (hsI (hsL A2 1035 (M + 1) 7 (lN (cauM v ms r sc))) 451 M 0 0) M k = mu A2 M k := fun k hk => by show mu (hsL A2 1035 (M + 1) 7 (lN (cauM v ms r sc))) M k = _; rw [mu_set, if_neg (by omega)]
  have i3 : ∀ f, f ≠ 451 → hgI (hsI (hsL A2 1035 (M + 1) 7 (lN (cauM v ms r sc))) 451 M 0 0) f M 0 = hgI A2 f M 0 := fun f hf => by rw [hgI_sI, if_neg (fun z => hf z.1)]; rfl
  have l3 : ∀ f, hgL (hsI (hsL A2 1035 (M + 1) 7 (lN (cauM v ms r sc))) 451 M 0 0) f M 0 = hgL A2 f M 0 := fun f => by rw [hgL_sI, hL_set]
  have y3 : hgI (hsI (hsL A2 1035 (M + 1) 7 (lN (cauM v ms r sc))) 451 M 0 0) 451 M 0 = 0 := by rw [hgI_sI, if_pos ⟨rfl, rfl, rfl⟩]
  have z3 : hgI (hsI (hsL A2 1035 (M + 1) 7 (lN (cauM v ms r sc))) 451 M 0 0) 452 M 0 = 0 := by rw [i3 _ (by omega), be.I hne, a4.2.2.1 _ (by omega)]; exact t0
  have F3 : RfE A (hsI (hsL A2 1035 (M + 1) 7 (lN (cauM v ms r sc))) 451 M 0 0) M := ((f0.tr a4.fe).tr be.fe).tr f3
  generalize hsI (hsL A2 1035 (M + 1) 7 (lN (cauM v ms r sc))) 451 M 0 0 = A3 at *
  -- what comes behind keeps the fields
  have fin : ∀ {B : Hp} {w : JV} {ms' : List CkV} {n' : Nat}, Eqx (oP M) A3 B → JM (mu B M) w ms' n' → RfE A B M ∧ hgI B 451 M 0 = 0 ∧ hgI B 452 M 0 = 0 ∧ JM (mu B M) w ms' n' := fun e j => ⟨F3.tr e.fe, (e.I hne 451 0).trans y3, (e.I hne 452 0).trans z3, j⟩
  by_cases hc : cauM v ms r sc = 0
  · have hc2 : cau2 v r = 0 := by
      unfold cauM at hc
      by_cases z : cau2 v r = 0
      · exact z
      · rw [if_pos z] at hc; exact hc
    have k3 : KyM (mu A3 M) 8600 (mkF v r) := (b2.ky hh hc2 hP).congr (fun k q1 q2 q3 => m3 k (by omega))
    have ag : AgM A3 M r := t2.1.fr (i3 _ (by omega)) (l3 _) rfl
    have dt : DtM A3 M r := t2.2.1.fr (i3 _ (by omega)) (l3 _) rfl
    have fl : FlM A3 M r := t2.2.2.2.2.fr (fun k _ _ => m3 k (by omega)) rfl
    rw [hc] at j3
    have rc : rcM v ms n r sc = if isExp r (jT v) then (match eld (mkF v r) ms 0 with
      | none => (0, jsK (jsX v 0) 6 1, ms, n)
      | some i => (3, jsK (jsX v 0) 2 1, gon ms i, n))
      else (match eld (mkF v r) ms 0 with
      | none => (1, jsK (jsK (jsX v 0) 4 (evM (jsX v 0) (ms ++ [mkF v r]) (mkF v r) n).2) 0 1, (evM (jsX v 0) (ms ++ [mkF v r]) (mkF v r) n).1, n + 1)
      | some i => (2, jsK (jsK (jsX v 0) 4 (evM (jsX v 0) (ms.set i (repl (mkF v r) (cg ms i))) (repl (mkF v r) (cg ms i)) (cS (cg ms i))).2) 1 1, (evM (jsX v 0) (ms.set i (repl (mkF v r) (cg ms i))) (repl (mkF v r) (cg ms i)) (cS (cg ms i))).1, n)) := by
      unfold rcM; rw [if_neg (fun z => z hc)]
    rw [rc, hc, if_pos (show nI 0 = (0 : Int32) from rfl), g3.expires ag dt h2 (now := jT v) j3.1.1.1, Option.bind_some]
    have e4 : Eqx (oP M) A3 (hsL A3 1035 (M + 1) 8604 (expAt r (jT v))) := Eqx.sL rfl
    have g4 : Ms (hsL A3 1035 (M + 1) 8604 (expAt r (jT v))) M := g3.set
    have m4 : ∀ k, k ≠ 8604 → mu (hsL A3 1035 (M + 1) 8604 (expAt r (jT v))) M k = mu A3 M k := fun k hk => by rw [mu_set, if_neg hk]
    have v4 : mu (hsL A3 1035 (M + 1) 8604 (expAt r (jT v))) M 8604 = expAt r (jT v) := by rw [mu_set, if_pos rfl]
    generalize hsL A3 1035 (M + 1) 8604 (expAt r (jT v)) = A4 at *
    have j4 : JM (mu A4 M) (jsX v 0) ms n := j3.congr (fun k hk => m4 k (by omega))
    have k4 : KyM (mu A4 M) 8600 (mkF v r) := k3.congr (fun k q1 q2 q3 => m4 k (by omega))
    rw [if_pos g4.1, g4.elder j4.1.2.2.1 j4.2.2.2.2.2.2.2 j4.2.2.2.2.2.2.1 k4, Option.bind_some]
    cases hx : isExp r (jT v) with
    | true =>
      rw [if_neg (show ¬ bI true = 0 by decide), if_pos rfl]
      cases he : eld (mkF v r) ms 0 with
      | none =>
        rw [if_neg (show ¬ (0 : Int32) ≤ oI none by decide), show f_X9_happens A4 M (6 : Int32) (0 : Int32) = _ from JM.happens g4 j4 (e := 6) (by omega) 0, Option.bind_some]
        exact ⟨_, rfl, fin (e4.tr (Eqx.sL rfl)) (j4.cnt g4 (e := 6) (by omega) 1)⟩
      | some i =>
        have hi := eld_lt he
        obtain ⟨B, d1, d2, d3, d4⟩ := j4.goes g4 (i := i) (by omega)
        have gB : Ms B M := g4.eq d2 hne
        rw [if_pos (show (0 : Int32) ≤ oI (some i) from nI_pos' (by omega)), show f_X9_goes A4 M (oI (some i)) = _ from d1, Option.bind_some, if_pos gB.1, show f_X9_happens B M (2 : Int32) (3 : Int32) = _ from JM.happens gB d3 (e := 2) (by omega) 3, Option.bind_some]
        exact ⟨_, rfl, fin ((e4.tr d2).tr (Eqx.sL rfl)) (d3.cnt gB (e := 2) (by omega) 1)⟩
    | false =>
      obtain ⟨okF, oeF⟩ := hnew hc hx
      rw [if_pos (show bI false = 0 by rfl), if_neg (show ¬ (false = true) by decide), if_pos g4.a11, if_pos (show wix (0 : Int32) _ from g4.wx (i := 0) (by omega)), if_pos (show wix (8606 : Int32) _ from g4.wx (i := 8606) (by omega)), show hgL A4 1035 (hgR A4 448 M 0) (0 : Int32).toNatClampNeg = jT v from (g4.vl (i := 0) (by omega)).trans j4.1.1.1, g4.2.1, show (8606 : Int32).toNatClampNeg = 8606 by decide]
      have e5 : Eqx (oP M) A4 (hsL A4 1035 (M + 1) 8606 (jT v)) := Eqx.sL rfl
      have g5 : Ms (hsL A4 1035 (M + 1) 8606 (jT v)) M := g4.set
      have m5 : ∀ k, k ≠ 8606 → mu (hsL A4 1035 (M + 1) 8606 (jT v)) M k = mu A4 M k := fun k hk => by rw [mu_set, if_neg hk]
      have v5 : mu (hsL A4 1035 (M + 1) 8606 (jT v)) M 8606 = jT v := by rw [mu_set, if_pos rfl]
      generalize hsL A4 1035 (M + 1) 8606 (jT v) = A5 at *
      have j5 : JM (mu A5 M) (jsX v 0) ms n := j4.congr (fun k hk => m5 k (by omega))
      have k5 : KyM (mu A5 M) 8600 (mkF v r) := k4.congr (fun k q1 q2 q3 => m5 k (by omega))
      have c5 : FlC A5 M (mkF v r) := ⟨by rw [m5 _ (by omega), m4 _ (by omega)]; exact fl.1, by rw [m5 _ (by omega), m4 _ (by omega)]; exact fl.2.1, by rw [m5 _ (by omega), m4 _ (by omega)]; exact fl.2.2.1, by rw [m5 _ (by omega), m4 _ (by omega)]; exact fl.2.2.2⟩
      have E5 : mu A5 M 8604 = expAt r (jT v) := by rw [m5 _ (by omega)]; exact v4
      cases he : eld (mkF v r) ms 0 with
      | none =>
        rw [if_neg (show ¬ (0 : Int32) ≤ oI none by decide), if_pos g5.a11, if_pos (show wix (0 : Int32) _ from g5.wx (i := 0) (by omega)), show hgL A5 1035 (hgR A5 448 M 0) (0 : Int32).toNatClampNeg = jT v from (g5.vl (i := 0) (by omega)).trans j5.1.1.1, g5.2.1]
        obtain ⟨B, d1, d2, d3⟩ := JM.rcNew (f := mkF v r) g5 j5 k5 c5 E5 v5 hK hl (ho.snoc (fun c hc => by have := hser c hc; show cS c ≠ jK v 0; omega) okF oeF) hp h0 h1 hn
        exact ⟨B, d1, fin ((e4.tr e5).tr d2) d3⟩
      | some i =>
        have hi : i < ms.length := by have := eld_lt he; omega
        have hs := hser _ (cg_mem hi)
        rw [if_pos (show (0 : Int32) ≤ oI (some i) from nI_pos' (by omega)), show f_X9_cookie A5 (oI (some i)) = _ from ck_ i, Option.bind_some, show nI (2500 + 140 * i) + (5 : Int32) = nI (2500 + 140 * i + 5) from nI_add _ 5, if_pos g5.a11, if_pos (g5.wx (by omega)), g5.vl (by omega), show mu A5 M (2500 + 140 * i + 5) = cC (cg ms i) from (j5.2.2.2.2.2.2.1 i hi).2.1.2.1, g5.2.1]
        obtain ⟨B, d1, d2, d3⟩ := JM.rcOld (f := repl (mkF v r) (cg ms i)) (i := i) g5 j5 k5 c5 E5 v5 hi rfl rfl (ho.set hi rfl ⟨okF.1, okF.2.1, (by show cS (cg ms i) < 100000; omega), okF.2.2.2⟩ oeF) hp h0 h1 (by show cS (cg ms i) < 100000; omega)
        exact ⟨B, d1, fin ((e4.tr e5).tr d2) d3⟩
  · have rc : rcM v ms n r sc = (0, jsK (jsX v (cauM v ms r sc)) 5 1, ms, n) := by
      unfold rcM; rw [if_pos hc]
    rw [rc, if_neg (fun z => hc ((n0_iff cl).mp z)), show f_X9_happens A3 M (5 : Int32) (0 : Int32) = _ from JM.happens g3 j3 (e := 5) (by omega) 0, Option.bind_some]
    exact ⟨_, rfl, fin (Eqx.sL rfl) (j3.cnt g3 (e := 5) (by omega) 1)⟩
end
