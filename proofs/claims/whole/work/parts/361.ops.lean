/-! each call -/
theorem Inv.sub {v : JV} {b : Nat} (h : Inv v b) {L : List CkV} (s : L.Sublist (jC v)) : Inv (jsC v L) (b + 1) := by
  obtain ⟨⟨a1, a2, a3, a4⟩, l, q, r, k, T, t1, t2⟩ := id h
  exact h.upd rfl (a1.sub s) (a2.sub s) (by have := s.length_le; show L.length ≤ 40; omega) (fun c hc => a4 c (s.subset hc)) q.2 (fun i hi => by have := k i hi; show jK v i ≤ _; omega)
theorem flt_sub (p : CkV → Bool) (cs : List CkV) : (flt p cs).Sublist cs := List.filter_sublist
theorem R_rcvClosed {A : Hp} {M : Nat} {v : JV} {ms : List CkV} {n : Nat} (h : Ms A M) (hJ : JM (mu A M) v ms n) (hq : (jR v).1 = false) (s : Int32) : f_X9_receive A M s = some (0, hsI (hsI A 452 M 0 0) 452 M 0 1) := by
  have h0 := h.t0 0
  unfold f_X9_receive
  rw [if_pos h.1, if_pos h0.a11, if_pos (show wix (100 : Int32) _ from h0.wx (i := 100) (by omega)), if_pos (show hgL (hsI A 452 M 0 0) 1035 (hgR (hsI A 452 M 0 0) 448 M 0) (100 : Int32).toNatClampNeg = 0 from (h0.req (v := v) (ms := ms) (n := n) hJ).trans (by rw [hq]; rfl)), fails_ h0, Option.bind_some]
theorem R_sndClosed {A : Hp} {M : Nat} {v : JV} {ms : List CkV} {n : Nat} (h : Ms A M) (hJ : JM (mu A M) v ms n) (hq : (jR v).1 = false) (s u : Int32) : f_X9_send A M s u = some (0, hsI (hsI A 452 M 0 0) 452 M 0 1) := by
  have h0 := h.t0 0
  unfold f_X9_send
  rw [if_pos h.1, if_pos h0.a11, if_pos (show wix (100 : Int32) _ from h0.wx (i := 100) (by omega)), if_pos (show hgL (hsI A 452 M 0 0) 1035 (hgR (hsI A 452 M 0 0) 448 M 0) (100 : Int32).toNatClampNeg = 0 from (h0.req (v := v) (ms := ms) (n := n) hJ).trans (by rw [hq]; rfl)), fails_ h0, Option.bind_some]
section
variable {A : Hp} {b : Nat}
theorem op_type (hT : ST A b) (hb : b < 512) (c : Int32) : StI (f_L_type A 100 c 549) (fun B => f_X9_type B 526 c) b := by
  obtain ⟨t, v, ms, K, hX⟩ := hT
  obtain ⟨⟨hC, hR, hS, hD⟩, ⟨p, hI⟩, ho, hz⟩ := id hX
  have hl := hC.2.1.2.2.1
  by_cases hc : okc c
  · by_cases h6 : t.length = 160
    · exact hX.bad (k := 2) (by decide) (by unfold f_L_type; rw [if_pos hC.1.1, X_typeFull hC hc h6]; rfl) (fun B hB => ⟨_, R_typeFull hB.1 hB.2.2.1 hc h6, RP.tt hB.2.2.1 hB.2.2.2.1 0 2⟩)
    · obtain ⟨B, b1, b2, b3⟩ := X_type hC hc (by omega)
      exact hX.ok b2 b3 (by unfold f_L_type; rw [if_pos hC.1.1, b1]; exact out_ (hX.o b2)) (fun B' hB => by obtain ⟨C, c1, c2⟩ := R_type hB.1 hB.2.2.1 hB.2.2.2.1 hc (by omega); exact ⟨C, ms, c1, c2, p⟩) hX.up
  · exact hX.bad (k := 1) (by decide) (by unfold f_L_type; rw [if_pos hC.1.1, X_typeBad A hc]; rfl) (fun B hB => ⟨_, R_typeBad hB.1 hc, RP.tt hB.2.2.1 hB.2.2.2.1 0 1⟩)
theorem op_clearText (hT : ST A b) (hb : b < 512) : (hsh A 100).1 = 7 ∧ ∃ y A1 A2, f_X8_clearText A 100 = some (y, A1) ∧ (hsh A1 526).1 = 8 ∧ f_X9_clearText A1 526 = some (y, A2) ∧ ST A2 (b + 1) := by
  obtain ⟨t, v, ms, K, hX⟩ := hT
  obtain ⟨⟨hC, hR, hS, hD⟩, ⟨p, hI⟩, ho, hz⟩ := id hX
  obtain ⟨B, b1, b2, b3⟩ := X_clear hC
  exact ⟨hC.1.1, hX.stN (F := fun B => f_X9_clearText B 526) b2 b3 b1 (fun B' hB => by obtain ⟨C, c1, c2⟩ := R_clear hB.1 hB.2.2.1 hB.2.2.2.1; exact ⟨C, ms, c1, c2, p⟩) hX.up⟩
theorem op_openPage (hT : ST A b) (hb : b < 512) : (hsh A 100).1 = 7 ∧ ∃ y A1 A2, f_X8_openPage A 100 = some (y, A1) ∧ (hsh A1 526).1 = 8 ∧ f_X9_openPage A1 526 = some (y, A2) ∧ ST A2 (b + 1) := by
  obtain ⟨t, v, ms, K, hX⟩ := hT
  obtain ⟨⟨hC, hR, hS, hD⟩, ⟨p, hI⟩, ho, hz⟩ := id hX
  have hl := hC.2.1.2.2.1
  have ro : ∀ B, Ms B 526 → f_X9_openPage B 526 = f_X9_opens B 526 (nI 20) := fun B h => by
    unfold f_X9_openPage
    rw [if_pos h.1]
    show (f_X9_opens B 526 (nI 20)).bind (fun p3 => some (p3.1, p3.2)) = _
    cases f_X9_opens B 526 (nI 20) <;> rfl
  cases hq : rdAd t with
  | inl e =>
    have he := rdAd_lt hl hq
    obtain ⟨B, b1, b2, b3⟩ := X_openPageL hC he hq
    exact ⟨hC.1.1, hX.stN (F := fun B => f_X9_openPage B 526) b2 b3 b1 (fun B' hB => ⟨_, ms, (ro B' hB.1).trans (R_openBad hB.1 hB.2.1 hB.2.2.1 hB.2.2.2.1 (by omega) hq he), RP.th hB.2.2.1 hB.2.2.2.1 0, p⟩) hX.up⟩
  | inr w =>
    obtain ⟨B, b1, b2, b3⟩ := X_openPageR hC hq
    exact ⟨hC.1.1, hX.stN (F := fun B => f_X9_openPage B 526) b2 b3 b1 (fun B' hB => by obtain ⟨C, c1, c2⟩ := R_open (to := 20) hB.1 hB.2.1 hB.2.2.1 hB.2.2.2.1 (by omega) hq; exact ⟨C, ms, (ro B' hB.1).trans c1, c2, p⟩) hX.up⟩
theorem op_openRequest (hT : ST A b) (hb : b < 512) : (hsh A 100).1 = 7 ∧ ∃ y A1 A2, f_X8_openRequest A 100 = some (y, A1) ∧ (hsh A1 526).1 = 8 ∧ f_X9_openRequest A1 526 = some (y, A2) ∧ ST A2 (b + 1) := by
  obtain ⟨t, v, ms, K, hX⟩ := hT
  obtain ⟨⟨hC, hR, hS, hD⟩, ⟨p, hI⟩, ho, hz⟩ := id hX
  have hl := hC.2.1.2.2.1
  have ro : ∀ B, Ms B 526 → f_X9_openRequest B 526 = f_X9_opens B 526 (nI 100) := fun B h => by
    unfold f_X9_openRequest
    rw [if_pos h.1]
    show (f_X9_opens B 526 (nI 100)).bind (fun p3 => some (p3.1, p3.2)) = _
    cases f_X9_opens B 526 (nI 100) <;> rfl
  cases hq : rdAd t with
  | inl e =>
    have he := rdAd_lt hl hq
    obtain ⟨B, b1, b2, b3⟩ := X_openReqL hC he hq
    exact ⟨hC.1.1, hX.stN (F := fun B => f_X9_openRequest B 526) b2 b3 b1 (fun B' hB => ⟨_, ms, (ro B' hB.1).trans (R_openBad hB.1 hB.2.1 hB.2.2.1 hB.2.2.2.1 (by omega) hq he), RP.th hB.2.2.1 hB.2.2.2.1 0, p⟩) hX.up⟩
  | inr w =>
    obtain ⟨B, b1, b2, b3⟩ := X_openReqR hC hq
    exact ⟨hC.1.1, hX.stN (F := fun B => f_X9_openRequest B 526) b2 b3 b1 (fun B' hB => by obtain ⟨C, c1, c2⟩ := R_open (to := 100) hB.1 hB.2.1 hB.2.2.1 hB.2.2.2.1 (by omega) hq; exact ⟨C, ms, (ro B' hB.1).trans c1, c2, p⟩) (by obtain ⟨a, b, c, d, e⟩ := hX.up; exact ⟨a, b, c, rdAd_ok hq, e⟩)⟩
theorem op_isSameSite (hT : ST A b) (hb : b < 512)  : StZ (f_L_isSameSite A 100 549) (fun B => f_X9_isSameSite B 526) b := by
  obtain ⟨t, v, ms, K, hX⟩ := hT
  obtain ⟨⟨hC, hR, hS, hD⟩, ⟨p, hI⟩, ho, hz⟩ := id hX
  cases hq : (jR v).1 with
  | false => exact hX.badZ (k := 1) (by decide) (by unfold f_L_isSameSite; rw [if_pos hC.1.1, show f_X8_isSameSite A 100 = some (.inr 2, hmk A 0 0) from (by rw [X_sameSite hC, hq]; rfl)]; rfl) (fun B hB => ⟨_, (by rw [R_sameSite hB.1 hB.2.2.2.1, hq]; rfl), RP.th hB.2.2.1 hB.2.2.2.1 1⟩)
  | true =>
    have hx : f_X8_isSameSite A 100 = some (.inl (bI (!(crs v))), A) := by rw [X_sameSite hC, hq]; rfl
    refine hX.okZ (y := !(crs v)) CE.rf hC ?_ (hX.same (fun B' hB => by rw [R_sameSite hB.1 hB.2.2.2.1, hq]; rfl)) hX.up
    unfold f_L_isSameSite k_L_isSameSite_14
    rw [if_pos hC.1.1, hx]
    cases crs v
    · exact out_ ho
    · exact out_ ho
theorem op_siteChar (hT : ST A b) (hb : b < 512) (k : Int32) : StI (f_L_siteChar A 100 k 549) (fun B => f_X9_siteChar B 526 k) b := by
  obtain ⟨t, v, ms, K, hX⟩ := hT
  obtain ⟨⟨hC, hR, hS, hD⟩, ⟨p, hI⟩, ho, hz⟩ := id hX
  cases hq : (jR v).1 with
  | false => exact hX.bad (k := 1) (by decide) (by unfold f_L_siteChar; rw [if_pos hC.1.1, X_siteClosed hC hq]; rfl) (fun B hB => ⟨_, R_siteClosed hB.1 hB.2.2.2.1 hq k, RP.tt hB.2.2.1 hB.2.2.2.1 0 1⟩)
  | true =>
    by_cases hk : 0 ≤ k
    · obtain ⟨j, hj, rfl⟩ := nI_of (Int32.not_lt.mpr hk)
      exact hX.ok CE.rf hC (by unfold f_L_siteChar; rw [if_pos hC.1.1, X_site hC hq hj]; exact out_ (hX.o CE.rf)) (hX.same (fun B' hB => R_site hB.1 hB.2.2.2.1 hq hj)) hX.up
    · exact hX.bad (k := 2) (by decide) (by unfold f_L_siteChar; rw [if_pos hC.1.1, X_siteNeg hC hq hk]; rfl) (fun B hB => ⟨_, R_siteNeg hB.1 hB.2.2.2.1 hq hk, RP.tt hB.2.2.1 hB.2.2.2.1 0 2⟩)
theorem op_addSuffix (hT : ST A b) (hb : b < 512)  : StI (f_L_addSuffix A 100 549) (fun B => f_X9_addSuffix B 526) b := by
  obtain ⟨t, v, ms, K, hX⟩ := hT
  obtain ⟨⟨hC, hR, hS, hD⟩, ⟨p, hI⟩, ho, hz⟩ := id hX
  cases hq : (isDom t && decide (t ∉ jU v)) with
  | false => exact hX.bad (k := 1) (by decide) (by unfold f_L_addSuffix; rw [if_pos hC.1.1, X_sufBad hC hq]; rfl) (fun B hB => ⟨_, R_sufBad hB.1 hB.2.2.1 hB.2.2.2.1 hq, RP.tt hB.2.2.1 hB.2.2.2.1 0 1⟩)
  | true =>
    have h6 := hR.2.2.2.1.2.2.1.2.1
    by_cases hl : (jU v).length = 6
    · exact hX.bad (k := 2) (by decide) (by unfold f_L_addSuffix; rw [if_pos hC.1.1, X_sufFull hC hq hl]; rfl) (fun B hB => ⟨_, R_sufFull hB.1 hB.2.2.1 hB.2.2.2.1 hq hl, RP.tt hB.2.2.1 hB.2.2.2.1 0 2⟩)
    · obtain ⟨B, b1, b2, b3⟩ := X_suf hC hq (by omega)
      exact hX.ok b2 b3 (by unfold f_L_addSuffix; rw [if_pos hC.1.1, b1]; exact out_ (hX.o b2)) (fun B' hB => by obtain ⟨C, c1, c2⟩ := R_suf hB.1 hB.2.2.1 hB.2.2.2.1 hq (by omega); exact ⟨C, ms, c1, c2, p⟩) hX.up
theorem op_receive (hT : ST A b) (hb : b < 512) (sc : Bool) : StI (f_L_receive A 100 (bI sc) 549) (fun B => f_X9_receive B 526 (bI sc)) b := by
  obtain ⟨t, v, ms, K, hX⟩ := hT
  obtain ⟨⟨hC, hR, hS, hD⟩, ⟨p, hI⟩, ho, hz⟩ := id hX
  obtain ⟨⟨i1, i2, i3, i4⟩, ⟨⟨l1, l2⟩, l3, l4⟩, ⟨i5, i6⟩, i7, i8, T, i9, i10⟩ := id hI
  have om := hX.om
  have ln := hX.len
  cases hq : (jR v).1 with
  | false => exact hX.bad (k := 1) (by decide) (by unfold f_L_receive; rw [if_pos hC.1.1, X_rcvClosed hC hq]; rfl) (fun B hB => ⟨_, R_rcvClosed hB.1 hB.2.2.2.1 hq _, RP.tt hB.2.2.1 hB.2.2.2.1 0 1⟩)
  | true =>
    obtain ⟨q1, q2, q3⟩ := i7 hq
    obtain ⟨B, f0, b1, b2, b3⟩ := X_rcv hC hI (by omega) hq sc
    have hok := rok_ck t
    have h40 := hR.2.2.2.1.2.2.2.2.1.2.2.2.2
    obtain ⟨t1, t2, t3, t4, t5⟩ := rcv_tie (f0 := f0) hI hb p rfl hok hq h40 sc
    have i80 := i8 0 (by omega)
    refine hX.ok b2 b3 (by unfold f_L_receive; rw [if_pos hC.1.1, b1]; exact out_ (hX.o b2)) (fun B' hB => ?_) t5
    obtain ⟨C, c1, c2, c3, c4, c5⟩ := JM.receive hB.1 hB.2.1 hB.2.2.1 hB.2.2.2.1 rfl om hq q1 q2 q3 hok.1 hok.2 i5 ⟨l1, by omega⟩ ⟨l3, by omega⟩ (by omega) rfl (by omega) (fun c hc => i4 c (p.mem_iff.mp hc)) sc (fun z1 z2 => mkF_ok hI (by omega) hok hq h40 (by
      unfold cauM at z1
      by_cases z : cau2 v (rdCk t) = 0
      · exact z
      · rw [if_pos z] at z1; exact z1) z2)
    have c5 : JM (mu C 526) (jsC (rcM v ms (jK v 0) (rdCk t) sc).2.1 (jC (rcC v (rdCk t) sc f0).2.1)) (rcM v ms (jK v 0) (rdCk t) sc).2.2.1 (rcM v ms (jK v 0) (rdCk t) sc).2.2.2 := c5
    rw [t2, t4] at c5
    rw [t1] at c1
    exact ⟨C, _, c1, ⟨c2, c4, ⟨c3, Nat.zero_le _, Sg.nil, fun c hc => (nomatch hc)⟩, c5⟩, t3⟩
theorem op_rejection (hT : ST A b) (hb : b < 512) (d : Int32) : StI (f_L_rejection A 100 d 549) (fun B => f_X9_rejection B 526 d) b := by
  obtain ⟨t, v, ms, K, hX⟩ := hT
  obtain ⟨⟨hC, hR, hS, hD⟩, ⟨p, hI⟩, ho, hz⟩ := id hX
  obtain ⟨⟨i1, i2, i3, i4⟩, ⟨⟨l1, l2⟩, l3, l4⟩, ⟨i5, i6⟩, i7, i8, T, i9, i10⟩ := id hI
  have om := hX.om
  have ln := hX.len
  by_cases h0 : d = 0
  · subst h0
    exact hX.ok CE.rf hC (by unfold f_L_rejection; rw [if_pos hC.1.1, show f_X8_rejection A 100 (0 : Int32) = _ from X_rej hC i6 (d := 0) (by omega)]; exact out_ (hX.o CE.rf)) (hX.same (fun B' hB => R_rej hB.1 hB.2.2.2.1 i6 (d := 0) (by omega))) hX.up
  · by_cases h1 : d = 1
    · subst h1
      exact hX.ok CE.rf hC (by unfold f_L_rejection; rw [if_pos hC.1.1, show f_X8_rejection A 100 (1 : Int32) = _ from X_rej hC i6 (d := 1) (by omega)]; exact out_ (hX.o CE.rf)) (hX.same (fun B' hB => R_rej hB.1 hB.2.2.2.1 i6 (d := 1) (by omega))) hX.up
    · exact hX.bad (k := 1) (by decide) (by unfold f_L_rejection; rw [if_pos hC.1.1, X_rejBad A h0 h1]; rfl) (fun B hB => ⟨_, R_rejBad hB.1 h0 h1, RP.tt hB.2.2.1 hB.2.2.2.1 0 1⟩)
theorem op_send (hT : ST A b) (hb : b < 512) (nav sc : Bool) : StI (f_L_send A 100 (bI nav) (bI sc) 549) (fun B => f_X9_send B 526 (bI nav) (bI sc)) b := by
  obtain ⟨t, v, ms, K, hX⟩ := hT
  obtain ⟨⟨hC, hR, hS, hD⟩, ⟨p, hI⟩, ho, hz⟩ := id hX
  obtain ⟨⟨i1, i2, i3, i4⟩, ⟨⟨l1, l2⟩, l3, l4⟩, ⟨i5, i6⟩, i7, i8, T, i9, i10⟩ := id hI
  have om := hX.om
  have ln := hX.len
  cases hq : (jR v).1 with
  | false => exact hX.bad (k := 1) (by decide) (by unfold f_L_send; rw [if_pos hC.1.1, X_sndClosed hC hq]; rfl) (fun B hB => ⟨_, R_sndClosed hB.1 hB.2.2.2.1 hq _ _, RP.tt hB.2.2.1 hB.2.2.2.1 0 1⟩)
  | true =>
    obtain ⟨B, b1, b2, b3⟩ := X_snd hC i2 i3 hq nav sc
    have sl : (sndS v nav sc).length ≤ 40 := by
      have := (snL_lt (v := v) (x := crs v) (nav := nav) (sc := sc) (jC v).length).2
      rw [sndS_len]; omega
    exact hX.ok b2 b3 (by unfold f_L_send; rw [if_pos hC.1.1, b1]; exact out_ (hX.o b2)) (fun B' hB => by
      obtain ⟨C, c1, c2, c3, c4, c5⟩ := JM.send (nav := nav) (sc := sc) hB.1 hB.2.2.2.1 hB.2.2.1 hq (sndS_SnO (nav := nav) (sc := sc) i2.2.2 p) om.1 om.2.2 sl
      exact ⟨C, _, c1, ⟨c2, c4, c3, c5⟩, p.map _⟩) (hI.tchd _ _)
theorem op_headerChar (hT : ST A b) (hb : b < 512) (k : Int32) : StI (f_L_headerChar A 100 k 549) (fun B => f_X9_headerChar B 526 k) b := by
  obtain ⟨t, v, ms, K, hX⟩ := hT
  obtain ⟨⟨hC, hR, hS, hD⟩, ⟨p, hI⟩, ho, hz⟩ := id hX
  by_cases hk : 0 ≤ k
  · obtain ⟨j, hj, rfl⟩ := nI_of (Int32.not_lt.mpr hk)
    exact hX.ok CE.rf hC (by unfold f_L_headerChar; rw [if_pos hC.1.1, X_hdr hC hj]; exact out_ (hX.o CE.rf)) (hX.same (fun B' hB => R_hdr hB.1 hB.2.2.2.1 hj)) hX.up
  · exact hX.bad (k := 1) (by decide) (by unfold f_L_headerChar; rw [if_pos hC.1.1, X_hdrBad hC hk]; rfl) (fun B hB => ⟨_, R_hdrBad hB.1 hk, RP.tt hB.2.2.1 hB.2.2.2.1 0 1⟩)
theorem op_wouldSend (hT : ST A b) (hb : b < 512) (i : Int32) (nav sc : Bool) : StZ (f_L_wouldSend A 100 i (bI nav) (bI sc) 549) (fun B => f_X9_wouldSend B 526 i (bI nav) (bI sc)) b := by
  obtain ⟨t, v, ms, K, hX⟩ := hT
  obtain ⟨⟨hC, hR, hS, hD⟩, ⟨p, hI⟩, ho, hz⟩ := id hX
  obtain ⟨⟨i1, i2, i3, i4⟩, ⟨⟨l1, l2⟩, l3, l4⟩, ⟨i5, i6⟩, i7, i8, T, i9, i10⟩ := id hI
  have om := hX.om
  have ln := hX.len
  have ix : ∀ i : Int32, decide (0 ≤ i ∧ i < nI (jC v).length) = false ∨ ∃ k, k < (jC v).length ∧ i = nI k := fun i => by
    rcases pk_ix i (n := (jC v).length) (by omega) with z | z | z
    · exact Or.inl (decide_eq_false (fun y => absurd z (Int32.not_lt.mpr y.1)))
    · exact Or.inl (decide_eq_false (fun y => absurd y.2 (Int32.not_lt.mpr z)))
    · exact Or.inr z
  cases hq : (jR v).1 with
  | false => exact hX.badZ (k := 1) (by decide) (by unfold f_L_wouldSend; rw [if_pos hC.1.1, X_wouldClosed hC hq]; rfl) (fun B hB => ⟨_, R_wouldClosed hB.1 hB.2.2.2.1 hq _ _ _, RP.th hB.2.2.1 hB.2.2.2.1 1⟩)
  | true =>
    rcases ix i with hi | ⟨k, hk, rfl⟩
    · exact hX.badZ (k := 2) (by decide) (by unfold f_L_wouldSend; rw [if_pos hC.1.1, X_wouldBad hC hq _ _ hi]; rfl) (fun B hB => ⟨_, R_wouldBad hB.1 hB.2.2.2.1 hq _ _ (by rw [ln]; exact hi), RP.th hB.2.2.1 hB.2.2.2.1 2⟩)
    · refine hX.okZ (y := gos v (cg (jC v) k) (crs v) nav sc) CE.rf hC ?_ (hX.same (fun B' hB => R_would hB.1 hB.2.2.2.1 p i1 om.1 hq hk nav sc)) hX.up
      unfold f_L_wouldSend k_L_wouldSend_18
      rw [if_pos hC.1.1, X_would hC i2 hq hk nav sc]
      cases gos v (cg (jC v) k) (crs v) nav sc
      · exact out_ ho
      · exact out_ ho
theorem op_nameChar (hT : ST A b) (hb : b < 512) (i k : Int32) : StI (f_L_nameChar A 100 i k 549) (fun B => f_X9_nameChar B 526 i k) b := by
  obtain ⟨t, v, ms, K, hX⟩ := hT
  obtain ⟨⟨hC, hR, hS, hD⟩, ⟨p, hI⟩, ho, hz⟩ := id hX
  obtain ⟨⟨i1, i2, i3, i4⟩, ⟨⟨l1, l2⟩, l3, l4⟩, ⟨i5, i6⟩, i7, i8, T, i9, i10⟩ := id hI
  have om := hX.om
  have ln := hX.len
  have ix : ∀ i : Int32, decide (0 ≤ i ∧ i < nI (jC v).length) = false ∨ ∃ k, k < (jC v).length ∧ i = nI k := fun i => by
    rcases pk_ix i (n := (jC v).length) (by omega) with z | z | z
    · exact Or.inl (decide_eq_false (fun y => absurd z (Int32.not_lt.mpr y.1)))
    · exact Or.inl (decide_eq_false (fun y => absurd y.2 (Int32.not_lt.mpr z)))
    · exact Or.inr z
  have rr : ∀ B, Ms B 526 → ∀ i k, f_X9_nameChar B 526 i k = f_X9_signOf B 526 i k (nI 0) (nI 14) := fun B h i k => by
    unfold f_X9_nameChar
    rw [if_pos h.1]
    show (f_X9_signOf B 526 i k (nI 0) (nI 14)).bind (fun p3 => some (p3.1, p3.2)) = _
    cases f_X9_signOf B 526 i k (nI 0) (nI 14) <;> rfl
  have bad : (decide (0 ≤ i ∧ i < nI (jC v).length) = false ∨ ¬ 0 ≤ k) → StI (f_L_nameChar A 100 i k 549) (fun B => f_X9_nameChar B 526 i k) b := fun hi => hX.bad (k := 1) (by decide) (by unfold f_L_nameChar; rw [if_pos hC.1.1, X_nameBad hC hi]; rfl) (fun B hB => by
    obtain ⟨C, c1, c2⟩ := R_signBad hB.1 hB.2.2.1 hB.2.2.2.1 (i := i) (k := k) (nI 0) (nI 14) (by rw [ln]; exact hi)
    exact ⟨C, (rr B hB.1 i k).trans c1, c2⟩)
  rcases ix i with hi | ⟨j, hj, rfl⟩
  · exact bad (Or.inl hi)
  · by_cases hk : 0 ≤ k
    · obtain ⟨n, hn, rfl⟩ := nI_of (Int32.not_lt.mpr hk)
      exact hX.ok CE.rf hC (by unfold f_L_nameChar; rw [if_pos hC.1.1, X_name hC hj hn]; exact out_ (hX.o CE.rf)) (hX.same (fun B' hB => (rr B' hB.1 _ _).trans (R_sign hB.1 hB.2.2.2.1 p i1 om.1 (s := 0) (f := 14) hj hn (fun c => cN c) (fun a c h => ⟨h.1.1, h.2.2.2.1.1, by have := h.2.2.2.2.1; omega⟩) (by omega)))) hX.up
    · exact bad (Or.inr hk)
theorem op_valueChar (hT : ST A b) (hb : b < 512) (i k : Int32) : StI (f_L_valueChar A 100 i k 549) (fun B => f_X9_valueChar B 526 i k) b := by
  obtain ⟨t, v, ms, K, hX⟩ := hT
  obtain ⟨⟨hC, hR, hS, hD⟩, ⟨p, hI⟩, ho, hz⟩ := id hX
  obtain ⟨⟨i1, i2, i3, i4⟩, ⟨⟨l1, l2⟩, l3, l4⟩, ⟨i5, i6⟩, i7, i8, T, i9, i10⟩ := id hI
  have om := hX.om
  have ln := hX.len
  have ix : ∀ i : Int32, decide (0 ≤ i ∧ i < nI (jC v).length) = false ∨ ∃ k, k < (jC v).length ∧ i = nI k := fun i => by
    rcases pk_ix i (n := (jC v).length) (by omega) with z | z | z
    · exact Or.inl (decide_eq_false (fun y => absurd z (Int32.not_lt.mpr y.1)))
    · exact Or.inl (decide_eq_false (fun y => absurd y.2 (Int32.not_lt.mpr z)))
    · exact Or.inr z
  have rr : ∀ B, Ms B 526 → ∀ i k, f_X9_valueChar B 526 i k = f_X9_signOf B 526 i k (nI 1) (nI 30) := fun B h i k => by
    unfold f_X9_valueChar
    rw [if_pos h.1]
    show (f_X9_signOf B 526 i k (nI 1) (nI 30)).bind (fun p3 => some (p3.1, p3.2)) = _
    cases f_X9_signOf B 526 i k (nI 1) (nI 30) <;> rfl
  have bad : (decide (0 ≤ i ∧ i < nI (jC v).length) = false ∨ ¬ 0 ≤ k) → StI (f_L_valueChar A 100 i k 549) (fun B => f_X9_valueChar B 526 i k) b := fun hi => hX.bad (k := 1) (by decide) (by unfold f_L_valueChar; rw [if_pos hC.1.1, X_valueBad hC hi]; rfl) (fun B hB => by
    obtain ⟨C, c1, c2⟩ := R_signBad hB.1 hB.2.2.1 hB.2.2.2.1 (i := i) (k := k) (nI 1) (nI 30) (by rw [ln]; exact hi)
    exact ⟨C, (rr B hB.1 i k).trans c1, c2⟩)
  rcases ix i with hi | ⟨j, hj, rfl⟩
  · exact bad (Or.inl hi)
  · by_cases hk : 0 ≤ k
    · obtain ⟨n, hn, rfl⟩ := nI_of (Int32.not_lt.mpr hk)
      exact hX.ok CE.rf hC (by unfold f_L_valueChar; rw [if_pos hC.1.1, X_value hC hj hn]; exact out_ (hX.o CE.rf)) (hX.same (fun B' hB => (rr B' hB.1 _ _).trans (R_sign hB.1 hB.2.2.2.1 p i1 om.1 (s := 1) (f := 30) hj hn (fun c => cV c) (fun a c h => ⟨h.1.2.1, h.2.2.2.1.2.1, by have := h.2.2.2.2.2.1; omega⟩) (by omega)))) hX.up
    · exact bad (Or.inr hk)
theorem op_domainChar (hT : ST A b) (hb : b < 512) (i k : Int32) : StI (f_L_domainChar A 100 i k 549) (fun B => f_X9_domainChar B 526 i k) b := by
  obtain ⟨t, v, ms, K, hX⟩ := hT
  obtain ⟨⟨hC, hR, hS, hD⟩, ⟨p, hI⟩, ho, hz⟩ := id hX
  obtain ⟨⟨i1, i2, i3, i4⟩, ⟨⟨l1, l2⟩, l3, l4⟩, ⟨i5, i6⟩, i7, i8, T, i9, i10⟩ := id hI
  have om := hX.om
  have ln := hX.len
  have ix : ∀ i : Int32, decide (0 ≤ i ∧ i < nI (jC v).length) = false ∨ ∃ k, k < (jC v).length ∧ i = nI k := fun i => by
    rcases pk_ix i (n := (jC v).length) (by omega) with z | z | z
    · exact Or.inl (decide_eq_false (fun y => absurd z (Int32.not_lt.mpr y.1)))
    · exact Or.inl (decide_eq_false (fun y => absurd y.2 (Int32.not_lt.mpr z)))
    · exact Or.inr z
  have rr : ∀ B, Ms B 526 → ∀ i k, f_X9_domainChar B 526 i k = f_X9_signOf B 526 i k (nI 2) (nI 62) := fun B h i k => by
    unfold f_X9_domainChar
    rw [if_pos h.1]
    show (f_X9_signOf B 526 i k (nI 2) (nI 62)).bind (fun p3 => some (p3.1, p3.2)) = _
    cases f_X9_signOf B 526 i k (nI 2) (nI 62) <;> rfl
  have bad : (decide (0 ≤ i ∧ i < nI (jC v).length) = false ∨ ¬ 0 ≤ k) → StI (f_L_domainChar A 100 i k 549) (fun B => f_X9_domainChar B 526 i k) b := fun hi => hX.bad (k := 1) (by decide) (by unfold f_L_domainChar; rw [if_pos hC.1.1, X_domainBad hC hi]; rfl) (fun B hB => by
    obtain ⟨C, c1, c2⟩ := R_signBad hB.1 hB.2.2.1 hB.2.2.2.1 (i := i) (k := k) (nI 2) (nI 62) (by rw [ln]; exact hi)
    exact ⟨C, (rr B hB.1 i k).trans c1, c2⟩)
  rcases ix i with hi | ⟨j, hj, rfl⟩
  · exact bad (Or.inl hi)
  · by_cases hk : 0 ≤ k
    · obtain ⟨n, hn, rfl⟩ := nI_of (Int32.not_lt.mpr hk)
      exact hX.ok CE.rf hC (by unfold f_L_domainChar; rw [if_pos hC.1.1, X_domain hC hj hn]; exact out_ (hX.o CE.rf)) (hX.same (fun B' hB => (rr B' hB.1 _ _).trans (R_sign hB.1 hB.2.2.2.1 p i1 om.1 (s := 2) (f := 62) hj hn (fun c => cD c) (fun a c h => ⟨h.1.2.2.1, h.2.2.2.1.2.2.1, by have := h.2.2.2.2.2.2.1; omega⟩) (by omega)))) hX.up
    · exact bad (Or.inr hk)
theorem op_pathChar (hT : ST A b) (hb : b < 512) (i k : Int32) : StI (f_L_pathChar A 100 i k 549) (fun B => f_X9_pathChar B 526 i k) b := by
  obtain ⟨t, v, ms, K, hX⟩ := hT
  obtain ⟨⟨hC, hR, hS, hD⟩, ⟨p, hI⟩, ho, hz⟩ := id hX
  obtain ⟨⟨i1, i2, i3, i4⟩, ⟨⟨l1, l2⟩, l3, l4⟩, ⟨i5, i6⟩, i7, i8, T, i9, i10⟩ := id hI
  have om := hX.om
  have ln := hX.len
  have ix : ∀ i : Int32, decide (0 ≤ i ∧ i < nI (jC v).length) = false ∨ ∃ k, k < (jC v).length ∧ i = nI k := fun i => by
    rcases pk_ix i (n := (jC v).length) (by omega) with z | z | z
    · exact Or.inl (decide_eq_false (fun y => absurd z (Int32.not_lt.mpr y.1)))
    · exact Or.inl (decide_eq_false (fun y => absurd y.2 (Int32.not_lt.mpr z)))
    · exact Or.inr z
  have rr : ∀ B, Ms B 526 → ∀ i k, f_X9_pathChar B 526 i k = f_X9_signOf B 526 i k (nI 3) (nI 92) := fun B h i k => by
    unfold f_X9_pathChar
    rw [if_pos h.1]
    show (f_X9_signOf B 526 i k (nI 3) (nI 92)).bind (fun p3 => some (p3.1, p3.2)) = _
    cases f_X9_signOf B 526 i k (nI 3) (nI 92) <;> rfl
  have bad : (decide (0 ≤ i ∧ i < nI (jC v).length) = false ∨ ¬ 0 ≤ k) → StI (f_L_pathChar A 100 i k 549) (fun B => f_X9_pathChar B 526 i k) b := fun hi => hX.bad (k := 1) (by decide) (by unfold f_L_pathChar; rw [if_pos hC.1.1, X_pathBad hC hi]; rfl) (fun B hB => by
    obtain ⟨C, c1, c2⟩ := R_signBad hB.1 hB.2.2.1 hB.2.2.2.1 (i := i) (k := k) (nI 3) (nI 92) (by rw [ln]; exact hi)
    exact ⟨C, (rr B hB.1 i k).trans c1, c2⟩)
  rcases ix i with hi | ⟨j, hj, rfl⟩
  · exact bad (Or.inl hi)
  · by_cases hk : 0 ≤ k
    · obtain ⟨n, hn, rfl⟩ := nI_of (Int32.not_lt.mpr hk)
      exact hX.ok CE.rf hC (by unfold f_L_pathChar; rw [if_pos hC.1.1, X_path hC hj hn]; exact out_ (hX.o CE.rf)) (hX.same (fun B' hB => (rr B' hB.1 _ _).trans (R_sign hB.1 hB.2.2.2.1 p i1 om.1 (s := 3) (f := 92) hj hn (fun c => cP c) (fun a c h => ⟨h.1.2.2.2, h.2.2.2.1.2.2.2, by have := h.2.2.2.2.2.2.2; omega⟩) (by omega)))) hX.up
    · exact bad (Or.inr hk)
theorem op_expiry (hT : ST A b) (hb : b < 512) (i : Int32) : StL (f_L_expiry A 100 i 549) (fun B => f_X9_expiry B 526 i) b := by
  obtain ⟨t, v, ms, K, hX⟩ := hT
  obtain ⟨⟨hC, hR, hS, hD⟩, ⟨p, hI⟩, ho, hz⟩ := id hX
  obtain ⟨⟨i1, i2, i3, i4⟩, ⟨⟨l1, l2⟩, l3, l4⟩, ⟨i5, i6⟩, i7, i8, T, i9, i10⟩ := id hI
  have om := hX.om
  have ln := hX.len
  have ix : ∀ i : Int32, decide (0 ≤ i ∧ i < nI (jC v).length) = false ∨ ∃ k, k < (jC v).length ∧ i = nI k := fun i => by
    rcases pk_ix i (n := (jC v).length) (by omega) with z | z | z
    · exact Or.inl (decide_eq_false (fun y => absurd z (Int32.not_lt.mpr y.1)))
    · exact Or.inl (decide_eq_false (fun y => absurd y.2 (Int32.not_lt.mpr z)))
    · exact Or.inr z
  rcases ix i with hi | ⟨k, hk, rfl⟩
  · exact hX.badL (k := 1) (by decide) (by unfold f_L_expiry; rw [if_pos hC.1.1, Xt_expiryBad hC hi]; rfl) (fun B hB => ⟨_, (by unfold f_X9_expiry; rw [if_pos hB.1.1, show f_X9_told B 526 i (4 : Int32) = _ from R_toldBad hB.1 hB.2.2.2.1 (nI 4) (by rw [ln]; exact hi), Option.bind_some]), RP.th hB.2.2.1 hB.2.2.2.1 1⟩)
  · exact hX.okL CE.rf hC (by unfold f_L_expiry; rw [if_pos hC.1.1, Xt_expiry hC hk]; exact out_ (hX.o CE.rf)) (hX.sameL (fun B' hB => by
      obtain ⟨j, j1, j2, j3⟩ := R_told hB.1 hB.2.2.2.1 p i1 om.1 (w := 4) hk (by omega)
      have cj := hB.2.2.2.1.2.2.2.2.2.2.1 j j1
      rw [j2] at cj
      unfold f_X9_expiry; rw [if_pos hB.1.1, show f_X9_told B' 526 (nI k) (4 : Int32) = _ from j3, Option.bind_some]
      show some (mu B' 526 (2500 + 140 * j + 4), _) = _
      rw [cj.2.1.1])) hX.up
theorem op_created (hT : ST A b) (hb : b < 512) (i : Int32) : StL (f_L_created A 100 i 549) (fun B => f_X9_created B 526 i) b := by
  obtain ⟨t, v, ms, K, hX⟩ := hT
  obtain ⟨⟨hC, hR, hS, hD⟩, ⟨p, hI⟩, ho, hz⟩ := id hX
  obtain ⟨⟨i1, i2, i3, i4⟩, ⟨⟨l1, l2⟩, l3, l4⟩, ⟨i5, i6⟩, i7, i8, T, i9, i10⟩ := id hI
  have om := hX.om
  have ln := hX.len
  have ix : ∀ i : Int32, decide (0 ≤ i ∧ i < nI (jC v).length) = false ∨ ∃ k, k < (jC v).length ∧ i = nI k := fun i => by
    rcases pk_ix i (n := (jC v).length) (by omega) with z | z | z
    · exact Or.inl (decide_eq_false (fun y => absurd z (Int32.not_lt.mpr y.1)))
    · exact Or.inl (decide_eq_false (fun y => absurd y.2 (Int32.not_lt.mpr z)))
    · exact Or.inr z
  rcases ix i with hi | ⟨k, hk, rfl⟩
  · exact hX.badL (k := 1) (by decide) (by unfold f_L_created; rw [if_pos hC.1.1, Xt_createdBad hC hi]; rfl) (fun B hB => ⟨_, (by unfold f_X9_created; rw [if_pos hB.1.1, show f_X9_told B 526 i (5 : Int32) = _ from R_toldBad hB.1 hB.2.2.2.1 (nI 5) (by rw [ln]; exact hi), Option.bind_some]), RP.th hB.2.2.1 hB.2.2.2.1 1⟩)
  · exact hX.okL CE.rf hC (by unfold f_L_created; rw [if_pos hC.1.1, Xt_created hC hk]; exact out_ (hX.o CE.rf)) (hX.sameL (fun B' hB => by
      obtain ⟨j, j1, j2, j3⟩ := R_told hB.1 hB.2.2.2.1 p i1 om.1 (w := 5) hk (by omega)
      have cj := hB.2.2.2.1.2.2.2.2.2.2.1 j j1
      rw [j2] at cj
      unfold f_X9_created; rw [if_pos hB.1.1, show f_X9_told B' 526 (nI k) (5 : Int32) = _ from j3, Option.bind_some]
      show some (mu B' 526 (2500 + 140 * j + 5), _) = _
      rw [cj.2.1.2.1])) hX.up
theorem op_accessed (hT : ST A b) (hb : b < 512) (i : Int32) : StL (f_L_accessed A 100 i 549) (fun B => f_X9_accessed B 526 i) b := by
  obtain ⟨t, v, ms, K, hX⟩ := hT
  obtain ⟨⟨hC, hR, hS, hD⟩, ⟨p, hI⟩, ho, hz⟩ := id hX
  obtain ⟨⟨i1, i2, i3, i4⟩, ⟨⟨l1, l2⟩, l3, l4⟩, ⟨i5, i6⟩, i7, i8, T, i9, i10⟩ := id hI
  have om := hX.om
  have ln := hX.len
  have ix : ∀ i : Int32, decide (0 ≤ i ∧ i < nI (jC v).length) = false ∨ ∃ k, k < (jC v).length ∧ i = nI k := fun i => by
    rcases pk_ix i (n := (jC v).length) (by omega) with z | z | z
    · exact Or.inl (decide_eq_false (fun y => absurd z (Int32.not_lt.mpr y.1)))
    · exact Or.inl (decide_eq_false (fun y => absurd y.2 (Int32.not_lt.mpr z)))
    · exact Or.inr z
  rcases ix i with hi | ⟨k, hk, rfl⟩
  · exact hX.badL (k := 1) (by decide) (by unfold f_L_accessed; rw [if_pos hC.1.1, Xt_accessedBad hC hi]; rfl) (fun B hB => ⟨_, (by unfold f_X9_accessed; rw [if_pos hB.1.1, show f_X9_told B 526 i (6 : Int32) = _ from R_toldBad hB.1 hB.2.2.2.1 (nI 6) (by rw [ln]; exact hi), Option.bind_some]), RP.th hB.2.2.1 hB.2.2.2.1 1⟩)
  · exact hX.okL CE.rf hC (by unfold f_L_accessed; rw [if_pos hC.1.1, Xt_accessed hC hk]; exact out_ (hX.o CE.rf)) (hX.sameL (fun B' hB => by
      obtain ⟨j, j1, j2, j3⟩ := R_told hB.1 hB.2.2.2.1 p i1 om.1 (w := 6) hk (by omega)
      have cj := hB.2.2.2.1.2.2.2.2.2.2.1 j j1
      rw [j2] at cj
      unfold f_X9_accessed; rw [if_pos hB.1.1, show f_X9_told B' 526 (nI k) (6 : Int32) = _ from j3, Option.bind_some]
      show some (mu B' 526 (2500 + 140 * j + 6), _) = _
      rw [cj.2.1.2.2.1])) hX.up
theorem op_serial (hT : ST A b) (hb : b < 512) (i : Int32) : StI (f_L_serial A 100 i 549) (fun B => f_X9_serial B 526 i) b := by
  obtain ⟨t, v, ms, K, hX⟩ := hT
  obtain ⟨⟨hC, hR, hS, hD⟩, ⟨p, hI⟩, ho, hz⟩ := id hX
  obtain ⟨⟨i1, i2, i3, i4⟩, ⟨⟨l1, l2⟩, l3, l4⟩, ⟨i5, i6⟩, i7, i8, T, i9, i10⟩ := id hI
  have om := hX.om
  have ln := hX.len
  have ix : ∀ i : Int32, decide (0 ≤ i ∧ i < nI (jC v).length) = false ∨ ∃ k, k < (jC v).length ∧ i = nI k := fun i => by
    rcases pk_ix i (n := (jC v).length) (by omega) with z | z | z
    · exact Or.inl (decide_eq_false (fun y => absurd z (Int32.not_lt.mpr y.1)))
    · exact Or.inl (decide_eq_false (fun y => absurd y.2 (Int32.not_lt.mpr z)))
    · exact Or.inr z
  rcases ix i with hi | ⟨k, hk, rfl⟩
  · exact hX.bad (k := 1) (by decide) (by unfold f_L_serial; rw [if_pos hC.1.1, Xt_serialBad hC hi]; rfl) (fun B hB => ⟨_, (by unfold f_X9_serial; rw [if_pos hB.1.1, show f_X9_told B 526 i (7 : Int32) = _ from R_toldBad hB.1 hB.2.2.2.1 (nI 7) (by rw [ln]; exact hi), Option.bind_some]; rfl), RP.th hB.2.2.1 hB.2.2.2.1 1⟩)
  · exact hX.ok CE.rf hC (by unfold f_L_serial; rw [if_pos hC.1.1, Xt_serial hC hk]; exact out_ (hX.o CE.rf)) (hX.same (fun B' hB => by
      obtain ⟨j, j1, j2, j3⟩ := R_told hB.1 hB.2.2.2.1 p i1 om.1 (w := 7) hk (by omega)
      have cj := hB.2.2.2.1.2.2.2.2.2.2.1 j j1
      rw [j2] at cj
      unfold f_X9_serial; rw [if_pos hB.1.1, show f_X9_told B' 526 (nI k) (7 : Int32) = _ from j3, Option.bind_some]
      show some ((mu B' 526 (2500 + 140 * j + 7)).toInt32, _) = _
      rw [cj.2.1.2.2.2, lN_i])) hX.up
theorem op_isHostOnly (hT : ST A b) (hb : b < 512) (i : Int32) : StZ (f_L_isHostOnly A 100 i 549) (fun B => f_X9_isHostOnly B 526 i) b := by
  obtain ⟨t, v, ms, K, hX⟩ := hT
  obtain ⟨⟨hC, hR, hS, hD⟩, ⟨p, hI⟩, ho, hz⟩ := id hX
  obtain ⟨⟨i1, i2, i3, i4⟩, ⟨⟨l1, l2⟩, l3, l4⟩, ⟨i5, i6⟩, i7, i8, T, i9, i10⟩ := id hI
  have om := hX.om
  have ln := hX.len
  have ix : ∀ i : Int32, decide (0 ≤ i ∧ i < nI (jC v).length) = false ∨ ∃ k, k < (jC v).length ∧ i = nI k := fun i => by
    rcases pk_ix i (n := (jC v).length) (by omega) with z | z | z
    · exact Or.inl (decide_eq_false (fun y => absurd z (Int32.not_lt.mpr y.1)))
    · exact Or.inl (decide_eq_false (fun y => absurd y.2 (Int32.not_lt.mpr z)))
    · exact Or.inr z
  rcases ix i with hi | ⟨k, hk, rfl⟩
  · exact hX.badZ (k := 1) (by decide) (by unfold f_L_isHostOnly; rw [if_pos hC.1.1, Xt_isHostOnlyBad hC hi]; rfl) (fun B hB => ⟨_, (by unfold f_X9_isHostOnly; rw [if_pos hB.1.1, show f_X9_told B 526 i (8 : Int32) = _ from R_toldBad hB.1 hB.2.2.2.1 (nI 8) (by rw [ln]; exact hi), Option.bind_some]; rfl), RP.th hB.2.2.1 hB.2.2.2.1 1⟩)
  · refine hX.okZ (y := cH (cg (jC v) k)) CE.rf hC ?_ (hX.same (fun B' hB => by
      obtain ⟨j, j1, j2, j3⟩ := R_told hB.1 hB.2.2.2.1 p i1 om.1 (w := 8) hk (by omega)
      have cj := hB.2.2.2.1.2.2.2.2.2.2.1 j j1
      rw [j2] at cj
      unfold f_X9_isHostOnly; rw [if_pos hB.1.1, show f_X9_told B' 526 (nI k) (8 : Int32) = _ from j3, Option.bind_some]
      show (if mu B' 526 (2500 + 140 * j + 8) = 1 then _ else _) = _
      rw [cj.2.2.1.1]
      cases cH (cg (jC v) k)
      · rw [if_neg (by decide)]; rfl
      · rw [if_pos (by rfl)]; rfl)) hX.up
    unfold f_L_isHostOnly k_L_isHostOnly_15
    rw [if_pos hC.1.1, Xt_isHostOnly hC hk]
    cases cH (cg (jC v) k)
    · exact out_ ho
    · exact out_ ho
theorem op_isSecure (hT : ST A b) (hb : b < 512) (i : Int32) : StZ (f_L_isSecure A 100 i 549) (fun B => f_X9_isSecure B 526 i) b := by
  obtain ⟨t, v, ms, K, hX⟩ := hT
  obtain ⟨⟨hC, hR, hS, hD⟩, ⟨p, hI⟩, ho, hz⟩ := id hX
  obtain ⟨⟨i1, i2, i3, i4⟩, ⟨⟨l1, l2⟩, l3, l4⟩, ⟨i5, i6⟩, i7, i8, T, i9, i10⟩ := id hI
  have om := hX.om
  have ln := hX.len
  have ix : ∀ i : Int32, decide (0 ≤ i ∧ i < nI (jC v).length) = false ∨ ∃ k, k < (jC v).length ∧ i = nI k := fun i => by
    rcases pk_ix i (n := (jC v).length) (by omega) with z | z | z
    · exact Or.inl (decide_eq_false (fun y => absurd z (Int32.not_lt.mpr y.1)))
    · exact Or.inl (decide_eq_false (fun y => absurd y.2 (Int32.not_lt.mpr z)))
    · exact Or.inr z
  rcases ix i with hi | ⟨k, hk, rfl⟩
  · exact hX.badZ (k := 1) (by decide) (by unfold f_L_isSecure; rw [if_pos hC.1.1, Xt_isSecureBad hC hi]; rfl) (fun B hB => ⟨_, (by unfold f_X9_isSecure; rw [if_pos hB.1.1, show f_X9_told B 526 i (9 : Int32) = _ from R_toldBad hB.1 hB.2.2.2.1 (nI 9) (by rw [ln]; exact hi), Option.bind_some]; rfl), RP.th hB.2.2.1 hB.2.2.2.1 1⟩)
  · refine hX.okZ (y := cX (cg (jC v) k)) CE.rf hC ?_ (hX.same (fun B' hB => by
      obtain ⟨j, j1, j2, j3⟩ := R_told hB.1 hB.2.2.2.1 p i1 om.1 (w := 9) hk (by omega)
      have cj := hB.2.2.2.1.2.2.2.2.2.2.1 j j1
      rw [j2] at cj
      unfold f_X9_isSecure; rw [if_pos hB.1.1, show f_X9_told B' 526 (nI k) (9 : Int32) = _ from j3, Option.bind_some]
      show (if mu B' 526 (2500 + 140 * j + 9) = 1 then _ else _) = _
      rw [cj.2.2.1.2.1]
      cases cX (cg (jC v) k)
      · rw [if_neg (by decide)]; rfl
      · rw [if_pos (by rfl)]; rfl)) hX.up
    unfold f_L_isSecure k_L_isSecure_15
    rw [if_pos hC.1.1, Xt_isSecure hC hk]
    cases cX (cg (jC v) k)
    · exact out_ ho
    · exact out_ ho
theorem op_isHttpOnly (hT : ST A b) (hb : b < 512) (i : Int32) : StZ (f_L_isHttpOnly A 100 i 549) (fun B => f_X9_isHttpOnly B 526 i) b := by
  obtain ⟨t, v, ms, K, hX⟩ := hT
  obtain ⟨⟨hC, hR, hS, hD⟩, ⟨p, hI⟩, ho, hz⟩ := id hX
  obtain ⟨⟨i1, i2, i3, i4⟩, ⟨⟨l1, l2⟩, l3, l4⟩, ⟨i5, i6⟩, i7, i8, T, i9, i10⟩ := id hI
  have om := hX.om
  have ln := hX.len
  have ix : ∀ i : Int32, decide (0 ≤ i ∧ i < nI (jC v).length) = false ∨ ∃ k, k < (jC v).length ∧ i = nI k := fun i => by
    rcases pk_ix i (n := (jC v).length) (by omega) with z | z | z
    · exact Or.inl (decide_eq_false (fun y => absurd z (Int32.not_lt.mpr y.1)))
    · exact Or.inl (decide_eq_false (fun y => absurd y.2 (Int32.not_lt.mpr z)))
    · exact Or.inr z
  rcases ix i with hi | ⟨k, hk, rfl⟩
  · exact hX.badZ (k := 1) (by decide) (by unfold f_L_isHttpOnly; rw [if_pos hC.1.1, Xt_isHttpOnlyBad hC hi]; rfl) (fun B hB => ⟨_, (by unfold f_X9_isHttpOnly; rw [if_pos hB.1.1, show f_X9_told B 526 i (10 : Int32) = _ from R_toldBad hB.1 hB.2.2.2.1 (nI 10) (by rw [ln]; exact hi), Option.bind_some]; rfl), RP.th hB.2.2.1 hB.2.2.2.1 1⟩)
  · refine hX.okZ (y := cO (cg (jC v) k)) CE.rf hC ?_ (hX.same (fun B' hB => by
      obtain ⟨j, j1, j2, j3⟩ := R_told hB.1 hB.2.2.2.1 p i1 om.1 (w := 10) hk (by omega)
      have cj := hB.2.2.2.1.2.2.2.2.2.2.1 j j1
      rw [j2] at cj
      unfold f_X9_isHttpOnly; rw [if_pos hB.1.1, show f_X9_told B' 526 (nI k) (10 : Int32) = _ from j3, Option.bind_some]
      show (if mu B' 526 (2500 + 140 * j + 10) = 1 then _ else _) = _
      rw [cj.2.2.1.2.2.1]
      cases cO (cg (jC v) k)
      · rw [if_neg (by decide)]; rfl
      · rw [if_pos (by rfl)]; rfl)) hX.up
    unfold f_L_isHttpOnly k_L_isHttpOnly_15
    rw [if_pos hC.1.1, Xt_isHttpOnly hC hk]
    cases cO (cg (jC v) k)
    · exact out_ ho
    · exact out_ ho
theorem op_sameSite (hT : ST A b) (hb : b < 512) (i : Int32) : StI (f_L_sameSite A 100 i 549) (fun B => f_X9_sameSite B 526 i) b := by
  obtain ⟨t, v, ms, K, hX⟩ := hT
  obtain ⟨⟨hC, hR, hS, hD⟩, ⟨p, hI⟩, ho, hz⟩ := id hX
  obtain ⟨⟨i1, i2, i3, i4⟩, ⟨⟨l1, l2⟩, l3, l4⟩, ⟨i5, i6⟩, i7, i8, T, i9, i10⟩ := id hI
  have om := hX.om
  have ln := hX.len
  have ix : ∀ i : Int32, decide (0 ≤ i ∧ i < nI (jC v).length) = false ∨ ∃ k, k < (jC v).length ∧ i = nI k := fun i => by
    rcases pk_ix i (n := (jC v).length) (by omega) with z | z | z
    · exact Or.inl (decide_eq_false (fun y => absurd z (Int32.not_lt.mpr y.1)))
    · exact Or.inl (decide_eq_false (fun y => absurd y.2 (Int32.not_lt.mpr z)))
    · exact Or.inr z
  rcases ix i with hi | ⟨k, hk, rfl⟩
  · exact hX.bad (k := 1) (by decide) (by unfold f_L_sameSite; rw [if_pos hC.1.1, Xt_sameSiteBad hC hi]; rfl) (fun B hB => ⟨_, (by unfold f_X9_sameSite; rw [if_pos hB.1.1, show f_X9_told B 526 i (11 : Int32) = _ from R_toldBad hB.1 hB.2.2.2.1 (nI 11) (by rw [ln]; exact hi), Option.bind_some]; rfl), RP.th hB.2.2.1 hB.2.2.2.1 1⟩)
  · exact hX.ok CE.rf hC (by unfold f_L_sameSite; rw [if_pos hC.1.1, Xt_sameSite hC hk]; exact out_ (hX.o CE.rf)) (hX.same (fun B' hB => by
      obtain ⟨j, j1, j2, j3⟩ := R_told hB.1 hB.2.2.2.1 p i1 om.1 (w := 11) hk (by omega)
      have cj := hB.2.2.2.1.2.2.2.2.2.2.1 j j1
      rw [j2] at cj
      unfold f_X9_sameSite; rw [if_pos hB.1.1, show f_X9_told B' 526 (nI k) (11 : Int32) = _ from j3, Option.bind_some]
      show some ((mu B' 526 (2500 + 140 * j + 11)).toInt32, _) = _
      rw [cj.2.2.1.2.2.2.1, lN_i])) hX.up
theorem op_priority (hT : ST A b) (hb : b < 512) (i : Int32) : StI (f_L_priority A 100 i 549) (fun B => f_X9_priority B 526 i) b := by
  obtain ⟨t, v, ms, K, hX⟩ := hT
  obtain ⟨⟨hC, hR, hS, hD⟩, ⟨p, hI⟩, ho, hz⟩ := id hX
  obtain ⟨⟨i1, i2, i3, i4⟩, ⟨⟨l1, l2⟩, l3, l4⟩, ⟨i5, i6⟩, i7, i8, T, i9, i10⟩ := id hI
  have om := hX.om
  have ln := hX.len
  have ix : ∀ i : Int32, decide (0 ≤ i ∧ i < nI (jC v).length) = false ∨ ∃ k, k < (jC v).length ∧ i = nI k := fun i => by
    rcases pk_ix i (n := (jC v).length) (by omega) with z | z | z
    · exact Or.inl (decide_eq_false (fun y => absurd z (Int32.not_lt.mpr y.1)))
    · exact Or.inl (decide_eq_false (fun y => absurd y.2 (Int32.not_lt.mpr z)))
    · exact Or.inr z
  rcases ix i with hi | ⟨k, hk, rfl⟩
  · exact hX.bad (k := 1) (by decide) (by unfold f_L_priority; rw [if_pos hC.1.1, Xt_priorityBad hC hi]; rfl) (fun B hB => ⟨_, (by unfold f_X9_priority; rw [if_pos hB.1.1, show f_X9_told B 526 i (12 : Int32) = _ from R_toldBad hB.1 hB.2.2.2.1 (nI 12) (by rw [ln]; exact hi), Option.bind_some]; rfl), RP.th hB.2.2.1 hB.2.2.2.1 1⟩)
  · exact hX.ok CE.rf hC (by unfold f_L_priority; rw [if_pos hC.1.1, Xt_priority hC hk]; exact out_ (hX.o CE.rf)) (hX.same (fun B' hB => by
      obtain ⟨j, j1, j2, j3⟩ := R_told hB.1 hB.2.2.2.1 p i1 om.1 (w := 12) hk (by omega)
      have cj := hB.2.2.2.1.2.2.2.2.2.2.1 j j1
      rw [j2] at cj
      unfold f_X9_priority; rw [if_pos hB.1.1, show f_X9_told B' 526 (nI k) (12 : Int32) = _ from j3, Option.bind_some]
      show some ((mu B' 526 (2500 + 140 * j + 12)).toInt32, _) = _
      rw [cj.2.2.1.2.2.2.2, lN_i])) hX.up
end
