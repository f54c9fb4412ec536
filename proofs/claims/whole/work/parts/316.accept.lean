/-! the jar of the class: accepting a cookie -/
def okr (r : RdV) : Prop := (∀ d, r.2.1.2.2 = some d → d < 1000000000000) ∧ r.2.2.2.2.1 ≤ 2 ∧ r.2.2.2.2.2 ≤ 2
theorem lN_neg {d : Nat} (h : d < 2 ^ 62) : ¬ lN d < 0 := by
  rw [Int64.lt_iff_toInt_lt, show (lN d).toInt = (d : Int) from Int64.toInt_ofNat_of_lt (by omega)]
  have : (0 : Int64).toInt = 0 := by decide
  omega
def expAt (r : RdV) (now : Int64) : Int64 := match r.2.1.2.1 with
  | some a => now + (if 34560000 < a then (34560000 : Int32) else a).toInt64
  | none => match r.2.1.2.2 with
    | none => -1
    | some d => if now + 34560000 < lN d then now + 34560000 else lN d
def isExp (r : RdV) (now : Int64) : Bool := match r.2.1.2.1 with
  | some a => decide (¬ 0 < a)
  | none => match r.2.1.2.2 with
    | none => false
    | some d => decide (¬ now < lN d)
theorem Rd.expiryAt {A : Hp} {a : Nat} {r : RdV} (h : Rd A a r) (hr : okr r) (now : Int64) : f_X5_expiryAt A a now = some (expAt r now) := by
  obtain ⟨h0, ⟨⟨a0, a1, a2, a3⟩, -⟩, -⟩ := h
  unfold f_X5_expiryAt expAt
  rw [if_pos h0.1, a1, a2, a3]
  have hd := hr.1
  cases h1 : r.2.1.2.1 with
  | some a => rw [if_neg (by show ¬ bI true = 0; decide)]; rfl
  | none =>
    rw [if_pos (by rfl)]
    cases h2 : r.2.1.2.2 with
    | none => rfl
    | some d =>
      rw [if_neg (show ¬ oL (some d) < 0 from lN_neg (by have := hd d h2; omega))]
      rfl
theorem Rd.isExpired {A : Hp} {a : Nat} {r : RdV} (h : Rd A a r) (hr : okr r) (now : Int64) : f_X5_isExpiredAt A a now = some (bI (isExp r now)) := by
  obtain ⟨h0, ⟨⟨a0, a1, a2, a3⟩, -⟩, -⟩ := h
  unfold f_X5_isExpiredAt isExp
  rw [if_pos h0.1, a1, a2, a3]
  have hd := hr.1
  cases h1 : r.2.1.2.1 with
  | some a =>
    rw [if_neg (by show ¬ bI true = 0; decide)]
    show (if 0 < a then some 0 else some 1) = some (bI (decide (¬ 0 < a)))
    by_cases q : 0 < a
    · rw [if_pos q, decide_eq_false (fun z => z q)]; rfl
    · rw [if_neg q, decide_eq_true q]; rfl
  | none =>
    rw [if_pos (by rfl)]
    cases h2 : r.2.1.2.2 with
    | none => rfl
    | some d =>
      rw [if_neg (show ¬ oL (some d) < 0 from lN_neg (by have := hd d h2; omega))]
      show (if now < lN d then some 0 else some 1) = some (bI (decide (¬ now < lN d)))
      by_cases q : now < lN d
      · rw [if_pos q, decide_eq_false (fun z => z q)]; rfl
      · rw [if_neg q, decide_eq_true q]; rfl
/-- the last slash of a path, up to k -/
def lsl (p : List Int32) : Nat → Nat
  | 0 => 0
  | k + 1 => if g p (k + 1) = 47 then k + 1 else lsl p k
theorem lsl_le (p : List Int32) : ∀ k, lsl p k ≤ k := by
  intro k
  induction k with
  | zero => exact Nat.le_refl _
  | succ k ih =>
    show (if g p (k + 1) = 47 then k + 1 else lsl p k) ≤ _
    split <;> omega
def dfP (p : List Int32) : List Int32 := if lsl p (p.length - 1) = 0 then [47] else p.take (lsl p (p.length - 1))
theorem Jr.defaultPath {A : Hp} {J r : Nat} {v : JV} {s' : List Int32} (hS : JS A J) (hA : Ad A (J + 400) (jR v)) (hr : Rw A r 40 s') (hne : J + 403 ≠ r) (hrp : ¬ rP r (J + 400)) (hJ : ¬ rP r J) (hp : 1 ≤ (jR v).2.2.2.length) : ∃ B, f_X4_takeDefaultPath A J r = some B ∧ Rw B r 40 (dfP (jR v).2.2.2) ∧ Eqx (rP r) A B := by
  have hP := hA.2.2.2.2
  have hl := hP.2.2.1
  have a6 := hS.1.2.2.2.2.2.2.1
  have fin : ∀ k, k < (jR v).2.2.2.length → ∃ B, k_X4_takeDefaultPath_39 A J r (nI k) = some B ∧ Rw B r 40 (if k = 0 then [47] else (jR v).2.2.2.take k) ∧ Eqx (rP r) A B := by
    intro k hk
    obtain ⟨B, e1, e2, e3, e4⟩ := hr.take hP hne (by omega) (a := 0) (b := k) (by omega) (by omega) (by omega)
    have hlen : (sub (jR v).2.2.2 0 k).length = k := by rw [sub_len]; omega
    unfold k_X4_takeDefaultPath_39
    rw [if_pos hS.1.1, a6, if_pos hA.1.1, if_pos hr.1.1, hA.1.2.2, show f_X6_take A r (J + 400 + 3) 0 (nI k) = some B from e1, Option.bind_some, if_pos e2.1.1, e2.2.1, hlen]
    by_cases h0 : k = 0
    · rw [if_pos (show nI k = 0 by rw [h0]; rfl), if_pos h0]
      have hn : sub (jR v).2.2.2 0 k = [] := List.eq_nil_of_length_eq_zero (by omega)
      rw [hn] at e2
      obtain ⟨C, f1, f2, f3⟩ := e2.add (c := 47) (by unfold okc; decide) (by show 0 < 40; omega)
      rw [f1]
      exact ⟨C, rfl, f2, e4.tr f3⟩
    · rw [if_neg (nI_ne0 (by omega) (by omega)), if_neg h0]
      have hs : sub (jR v).2.2.2 0 k = (jR v).2.2.2.take k := by simp [sub]
      rw [hs] at e2
      exact ⟨B, rfl, e2, e4⟩
  have L : ∀ k fu, k < (jR v).2.2.2.length → k < fu → ∃ B, k_X4_takeDefaultPath_13 J r fu A (nI k) = some B ∧ Rw B r 40 (if lsl (jR v).2.2.2 k = 0 then [47] else (jR v).2.2.2.take (lsl (jR v).2.2.2 k)) ∧ Eqx (rP r) A B := by
    intro k
    induction k with
    | zero =>
      intro fu h1 h2
      obtain ⟨fu, rfl⟩ : ∃ f, fu = f + 1 := ⟨fu - 1, by omega⟩
      show ∃ B, k_X4_takeDefaultPath_13s J r _ _ _ = some B ∧ _
      unfold k_X4_takeDefaultPath_13s
      rw [if_pos (show nI 0 ≤ 0 from Int32.le_rfl)]
      exact fin 0 h1
    | succ k ih =>
      intro fu h1 h2
      obtain ⟨fu, rfl⟩ : ∃ f, fu = f + 1 := ⟨fu - 1, by omega⟩
      show ∃ B, k_X4_takeDefaultPath_13s J r _ _ _ = some B ∧ _
      unfold k_X4_takeDefaultPath_13s
      rw [if_neg (nI_nle (by omega) (by omega)), if_pos hS.1.1, a6, if_pos hA.1.1, hA.1.2.2, if_pos hP.1.1, hP.at (by omega), Option.bind_some, pk_m1]
      have e9 : lsl (jR v).2.2.2 (k + 1) = if g (jR v).2.2.2 (k + 1) = 47 then k + 1 else lsl (jR v).2.2.2 k := rfl
      rw [e9]
      by_cases hq : g (jR v).2.2.2 (k + 1) = 47
      · rw [if_pos hq, if_pos hq]
        exact fin (k + 1) h1
      · rw [if_neg hq, if_neg hq]
        exact ih fu (by omega) (by omega)
  unfold f_X4_takeDefaultPath dfP
  rw [if_pos hS.1.1, a6, if_pos hA.1.1, hA.1.2.2, if_pos hP.1.1, hP.2.1, show nI (jR v).2.2.2.length - (1 : Int32) = nI ((jR v).2.2.2.length - 1) from pk_sub (b := 1) hp]
  exact L _ FU (by omega) (by unfold FU; omega)
/-- what the jar makes of what was read -/
def mkHO (v : JV) (r : RdV) : Bool := decide (r.1.2.2.1 = []) || decide (pubS (jU v) r.1.2.2.1 = 0)
def mkF (v : JV) (r : RdV) : CkV := ((r.1.1, r.1.2.1, if mkHO v r then (jR v).2.2.1 else r.1.2.2.1, if r.1.2.2.2 = [] then dfP (jR v).2.2.2 else r.1.2.2.2), (expAt r (jT v), jT v, jT v), jK v 0, (mkHO v r, r.2.2.1, r.2.2.2.1, r.2.2.2.2.1, r.2.2.2.2.2))
theorem nil_len {s : List Int32} : s = [] ↔ s.length = 0 := List.length_eq_zero_iff.symm
theorem shape136 {A : Hp} {J a : Nat} {v : JV} {r : RdV} (hS : JS A J) (hF : JF A J v) (hK : hgI A 1034 (J + 408) 0 = nI (jK v 0)) (hR : Rd A a r) (hr : okr r) (hc : (hsh A (J + 371)).1 = 2) (hne : a ≠ J + 371) : k_X4_shape_136 A J a = some (hsI (hsI (hsI (hsI (hsI (hsL (hsL (hsL A 68 (J + 371) 0 (expAt r (jT v))) 69 (J + 371) 0 (jT v)) 70 (J + 371) 0 (jT v)) 71 (J + 371) 0 (nI (jK v 0))) 73 (J + 371) 0 (bI r.2.2.1)) 74 (J + 371) 0 (bI r.2.2.2.1)) 75 (J + 371) 0 (nI r.2.2.2.2.1)) 76 (J + 371) 0 (nI r.2.2.2.2.2)) := by
  obtain ⟨⟨a0, a1, a2, a3, a4, a5, a6, a7, a8, a9⟩, b1, b2, b3, b4⟩ := hS
  obtain ⟨⟨w0, w1, w2, w3⟩, w4, w5, w6, w7⟩ := hR.2.1
  have hJ : ¬ J = J + 371 := by omega
  have hJ2 : ¬ J + 408 = J + 371 := by omega
  have cl : (0 : Int32).toNatClampNeg = 0 := rfl
  have wx : wix (0 : Int32) 7 := by decide
  unfold k_X4_shape_136 k_X4_shape_208
  rw [if_pos a0, if_pos hR.1.1, hF.2.2, hR.expiryAt hr, Option.bind_some]
  simp only [hgL_sL, hgL_sI, hgI_sL, hgI_sI, hgR_sL, hgR_sI, hsh_sI, hsh_sL, a0, a2, a9, b4, hc, hF.2.2, cl, hK, w4, w5, w6, w7, hR.1.1, hJ, hJ2, hne, false_and, and_false, if_false, if_true, bI_Z, wx]
  exact if_pos wx
theorem Jr.shape {A : Hp} {J a : Nat} {v : JV} {f0 : CkV} {r : RdV} (h : Jr A J v f0) (hR : Rd A a r) (hd : a + 13 ≤ J ∨ J + 409 ≤ a) (hr : okr r) (h16 : r.1.1.length ≤ 16) (h32 : r.1.2.1.length ≤ 32) (h30 : mkHO v r = false → r.1.2.2.1.length ≤ 30) (hp : 1 ≤ (jR v).2.2.2.length) : ∃ B, f_X4_shape A J a = some B ∧ Jr B J v (mkF v r) ∧ Rd B a r ∧ Eqx (jrP J) A B := by
  obtain ⟨hS, hF, hQ, ⟨ad, hC⟩, hf⟩ := h
  have tr : ∀ {B}, Eqx (ckP (J + 371)) A B → JS B J ∧ JF B J v ∧ JQ B J v ∧ JC B J ad (jC v) ∧ Rd B a r := fun {B} e => ⟨hS.eq e (fun z => by have := z.1; omega), hF.eq e (fun z => by have := z.1; omega), hQ.eq e (fun q z1 z2 z => by have := z.2; omega), hC.eq e (fun q z1 z2 z => by have := z.1; omega), hR.eq e (fun q z1 z => by have := z1.1; have := z1.2; have := z.1; have := z.2; omega)⟩
  have sb : ∀ {A B : Hp} {d : Nat}, Eqx (rP (J + 371 + d)) A B → d < 8 → Eqx (ckP (J + 371)) A B := fun e hd => e.mo (fun q hq => by rcases hq with z | z <;> (constructor <;> omega))
  have na : ∀ d, 1 ≤ d → ¬ rP (J + 371 + d) (J + 371) := fun d hd z => by rcases z with z | z <;> omega
  obtain ⟨A1, e1, e2, e3, e4⟩ := hf.2.2.1.copy hR.2.2.1.1 (by omega) (by have := hR.2.2.1.1.2.2.1; omega) h16
  have E1 := sb e4 (by omega)
  obtain ⟨S1, F1, Q1, C1, R1⟩ := tr E1
  have s1 := hf.1.eq e4 (na 1 (by omega))
  have v1 := hf.2.2.1.ot hf.2.2.2.1 (by omega) e4
  have d1 := hf.2.2.1.ot hf.2.2.2.2.1 (by omega) e4
  have p1 := hf.2.2.1.ot hf.2.2.2.2.2 (by omega) e4
  obtain ⟨A2, f1, f2, f3, f4⟩ := v1.copy R1.2.2.1.2.1 (by omega) (by have := R1.2.2.1.2.1.2.2.1; omega) h32
  have E2 := E1.tr (sb f4 (by omega))
  obtain ⟨S2, F2, Q2, C2, R2⟩ := tr E2
  have s2 := s1.eq f4 (na 3 (by omega))
  have n2 := v1.ot e2 (by omega) f4
  have d2 := v1.ot d1 (by omega) f4
  have p2 := v1.ot p1 (by omega) f4
  -- from the flag on
  let A3 : Hp := hsI A2 72 (J + 371) 0 (bI (mkHO v r))
  have ee3 : Eqx (fun q => q = J + 371) A2 A3 := ea_I
  have E3 : Eqx (ckP (J + 371)) A A3 := E2.tr (ee3.mo (fun q hq => by have hq : q = J + 371 := hq; constructor <;> omega))
  obtain ⟨S3, F3, Q3, C3, R3⟩ := tr E3
  have s3 : CkS A3 (J + 371) := s2
  have n3 := n2.eq ee3 (by omega) (by omega)
  have v3 := f2.eq ee3 (by omega) (by omega)
  have d3 := d2.eq ee3 (by omega) (by omega)
  have p3 := p2.eq ee3 (by omega) (by omega)
  have fl3 : hgI A3 72 (J + 371) 0 = bI (mkHO v r) := by
    show hgI (hsI A2 72 (J + 371) 0 _) 72 (J + 371) 0 = _
    rw [hgI_sI, if_pos ⟨rfl, rfl, rfl⟩]
  -- the domain
  have key95 : ∀ t1 cap (s : List Int32), Rw A3 t1 cap s → t1 ≠ J + 376 → s.length ≤ 30 → s = (if mkHO v r then (jR v).2.2.1 else r.1.2.2.1) → ∃ B, k_X4_shape_95 A3 J a (J + 376) t1 = some B ∧ Jr B J v (mkF v r) ∧ Rd B a r ∧ Eqx (ckP (J + 371)) A B := by
    intro t1 cap s ht hne hs30 hs
    obtain ⟨A4, g1, g2, g3, g4⟩ := d3.copy ht hne (by omega) hs30
    have E4 := E3.tr (sb g4 (by omega))
    obtain ⟨S4, F4, Q4, C4, R4⟩ := tr E4
    have s4 := s3.eq g4 (na 5 (by omega))
    have n4 := d3.ot n3 (by omega) g4
    have v4 := d3.ot v3 (by omega) g4
    have p4 := d3.ot p3 (by omega) g4
    have fl4 : hgI A4 72 (J + 371) 0 = bI (mkHO v r) := by rw [g4.I (na 5 (by omega))]; exact fl3
    -- the path
    obtain ⟨A5, j1, j2, j3⟩ : ∃ A5, k_X4_shape_95 A3 J a (J + 376) t1 = k_X4_shape_136 A5 J a ∧ Rw A5 (J + 371 + 7) 40 (if r.1.2.2.2 = [] then dfP (jR v).2.2.2 else r.1.2.2.2) ∧ Eqx (rP (J + 371 + 7)) A4 A5 := by
      unfold k_X4_shape_95
      rw [if_pos d3.1.1, show f_X6_copy A3 (J + 376) t1 = some A4 from g1, Option.bind_some, if_pos R4.1.1, R4.1.2.2.2.2.1, if_pos R4.2.2.1.2.2.2.1.1, R4.2.2.1.2.2.2.2.1, if_pos S4.1.1, S4.1.2.2.1, if_pos s4.1, s4.2.2.2.2, if_pos p4.1.1]
      have hpl := R4.2.2.1.2.2.2.2.2.1
      by_cases hz : r.1.2.2.2 = []
      · rw [if_pos (show nI r.1.2.2.2.length ≤ 0 by rw [hz]; exact Int32.le_rfl), if_pos hz]
        obtain ⟨B, z1, z2, z3⟩ := Jr.defaultPath (r := J + 371 + 7) S4 Q4.2.2.1 p4 (by omega) (fun z => by rcases z with z | z <;> omega) (fun z => by rcases z with z | z <;> omega) hp
        rw [z1]
        exact ⟨B, rfl, z2, z3⟩
      · have : r.1.2.2.2.length ≠ 0 := fun z => hz (nil_len.mpr z)
        rw [if_neg (nI_nle (by omega) (by omega)), if_neg hz]
        obtain ⟨B, z1, z2, z3, z4⟩ := p4.copy R4.2.2.1.2.2.2 (by omega) (by omega) hpl
        rw [if_pos S4.1.1, if_pos s4.1, z1]
        exact ⟨B, rfl, z2, z4⟩
    have E5 := E4.tr (sb j3 (by omega))
    obtain ⟨S5, F5, Q5, C5, R5⟩ := tr E5
    have s5 := s4.eq j3 (na 7 (by omega))
    have n5 := p4.ot n4 (by omega) j3
    have v5 := p4.ot v4 (by omega) j3
    have d5 := p4.ot g2 (by omega) j3
    have fl5 : hgI A5 72 (J + 371) 0 = bI (mkHO v r) := by rw [j3.I (na 7 (by omega))]; exact fl4
    rw [j1, shape136 S5 F5 (Q5.2.2.2.2.2 0 (by omega)) R5 hr s5.1 (by omega)]
    refine ⟨_, rfl, ?_⟩
    have e6 : Eqx (fun q => q = J + 371) A5 (hsI (hsI (hsI (hsI (hsI (hsL (hsL (hsL A5 68 (J + 371) 0 (expAt r (jT v))) 69 (J + 371) 0 (jT v)) 70 (J + 371) 0 (jT v)) 71 (J + 371) 0 (nI (jK v 0))) 73 (J + 371) 0 (bI r.2.2.1)) 74 (J + 371) 0 (bI r.2.2.2.1)) 75 (J + 371) 0 (nI r.2.2.2.2.1)) 76 (J + 371) 0 (nI r.2.2.2.2.2)) := ((((((ea_L.tr ea_L).tr ea_L).tr ea_I).tr ea_I).tr ea_I).tr ea_I).tr ea_I
    have E6 := E5.tr (e6.mo (fun q hq => by have hq : q = J + 371 := hq; constructor <;> omega))
    obtain ⟨S6, F6, Q6, C6, R6⟩ := tr E6
    refine ⟨⟨S6, F6, Q6, ⟨ad, C6⟩, s5, ?_, n5.eq e6 (by omega) (by omega), v5.eq e6 (by omega) (by omega), ?_, j2.eq e6 (by omega) (by omega)⟩, R6, E6⟩
    · refine ⟨⟨?_, ?_, ?_⟩, ?_, ?_, ?_, ?_, ?_, ?_⟩ <;> (simp only [hgL_sL, hgL_sI, hgI_sL, hgI_sI]; first | rfl | exact fl5)
    · have := d5.eq e6 (by omega) (by omega)
      rw [hs] at this
      exact this
  have fin : ∀ {x : Option Hp}, (∃ B, x = some B ∧ Jr B J v (mkF v r) ∧ Rd B a r ∧ Eqx (ckP (J + 371)) A B) → ∃ B, x = some B ∧ Jr B J v (mkF v r) ∧ Rd B a r ∧ Eqx (jrP J) A B := fun ⟨B, z1, z2, z3, z4⟩ => ⟨B, z1, z2, z3, z4.mo (fun q hq => by have := hq.1; have := hq.2; constructor <;> omega)⟩
  have key61 : ∃ B, k_X4_shape_61 A2 J a (J + 371) (bI (mkHO v r)) = some B ∧ Jr B J v (mkF v r) ∧ Rd B a r ∧ Eqx (ckP (J + 371)) A B := by
    unfold k_X4_shape_61
    rw [if_pos s2.1, if_pos (bI_Z _)]
    show ∃ B, (if (hsh A3 J).1 = 3 then if (hsh A3 (hgR A3 130 J 0)).1 = 2 then (if hgI A3 72 (hgR A3 130 J 0) 0 = 0 then if (hsh A3 a).1 = 4 then k_X4_shape_95 A3 J a (hgR A3 66 (hgR A3 130 J 0) 0) (hgR A3 194 a 0) else none else if (hsh A3 (hgR A3 134 J 0)).1 = 1 then k_X4_shape_95 A3 J a (hgR A3 66 (hgR A3 130 J 0) 0) (hgR A3 0 (hgR A3 134 J 0) 0) else none) else none else none) = some B ∧ _
    rw [if_pos S3.1.1, S3.1.2.2.1, if_pos s3.1, fl3, if_pos R3.1.1, s3.2.2.2.1, R3.1.2.2.2.1, S3.1.2.2.2.2.2.2.1, if_pos Q3.2.2.1.1.1, Q3.2.2.1.1.2.1]
    cases hb : mkHO v r
    · rw [if_pos (by rfl)]
      exact key95 _ _ _ R3.2.2.1.2.2.1 (by omega) (h30 hb) (by rw [hb]; rfl)
    · rw [if_neg (by decide)]
      exact key95 _ _ _ Q3.2.2.1.2.2.2.1 (by omega) Q3.2.2.1.2.2.2.1.2.2.1 (by rw [hb]; rfl)
  unfold f_X4_shape k_X4_shape_56
  rw [if_pos hS.1.1, hS.1.2.2.1, if_pos hf.1.1, if_pos hR.1.1, hf.1.2.1, if_pos hf.2.2.1.1.1, hR.1.2.1, e1, Option.bind_some, if_pos S1.1.1, S1.1.2.2.1, if_pos s1.1, if_pos R1.1.1, s1.2.2.1, if_pos v1.1.1, R1.1.2.2.1, f1, Option.bind_some, if_pos S2.1.1, if_pos R2.1.1, R2.1.2.2.2.1, if_pos R2.2.2.1.2.2.1.1.1, R2.2.2.1.2.2.1.2.1, S2.1.2.2.1, S2.1.2.2.2.2.1]
  have hdl := R2.2.2.1.2.2.1.2.2.1
  by_cases hz : r.1.2.2.1 = []
  · rw [if_pos (show nI r.1.2.2.1.length = 0 by rw [hz]; rfl)]
    have : mkHO v r = true := by unfold mkHO; rw [decide_eq_true hz, Bool.true_or]
    rw [this] at key61
    exact fin key61
  · have h0 : r.1.2.2.1.length ≠ 0 := fun z => hz (nil_len.mpr z)
    rw [if_neg (nI_ne0 (by omega) (by omega)), if_pos Q2.1.1.1, Q2.1.isPublic R2.2.2.1.2.2.1 (by omega), Option.bind_some]
    have hm : mkHO v r = decide (pubS (jU v) r.1.2.2.1 = 0) := by unfold mkHO; rw [decide_eq_false hz, Bool.false_or]
    rw [← hm]
    cases hb : mkHO v r
    · rw [if_pos (by rfl)]
      rw [hb] at key61
      exact fin key61
    · rw [if_neg (by decide)]
      rw [hb] at key61
      exact fin key61
