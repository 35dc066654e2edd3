section
-- needs: tool2
/-! set -/
variable {X : KXw} {n tot kn D : Nat} {kx : Nat → Nat × Nat} {M : MMw}
theorem Rl.set {len s : Nat} {M M2 : MMw} {c i k : Nat} {v : Int32} (h : Rl kn len s M) (hc : (2 ≤ c ∧ c ≤ 9) ∨ (10 < c ∧ c ≤ 16)) (hk : k < 2034) (hM2 : M2 = up (up (up (up M c i v) 0 5 (nI 0)) 179 k v) 178 4 (nI 0)) (hX : CX (up M c i v) 10 (upW (M 179) k v)) : Rl kn len s M2 := by
  have f1 : Fr [0, 179, 178] (up M c i v) M2 := by
    rw [hM2]
    exact ((Fr.rf.up (by decide)).up (by decide)).up (by decide)
  have e0 : M2 0 = upW (M 0) 5 (nI 0) := by rw [hM2, up_ne (by decide), up_ne (by decide), up_at, up_ne (by omega)]
  have e8 : M2 178 = upW (M 178) 4 (nI 0) := by rw [hM2, up_at, up_ne (by decide), up_ne (by decide), up_ne (by omega)]
  have e9 : M2 179 = upW (M 179) k v := by rw [hM2, up_ne (by decide), up_at, up_ne (by decide), up_ne (by omega)]
  refine h.forget ⟨?_, ?_⟩ ⟨fun d hd => ?_, by rw [e0, upW_n (by decide)], by rw [e8, upW_n (by decide)], by rw [e8, upW_n (by decide)], by rw [e8, upW_n (by decide)], by rw [e8, upW_n (by decide)]⟩ (by rw [e0, upW_s]) (by rw [e0, upW_n (by decide)]) (by rw [e8, upW_s])
  · rw [e9]; exact hX.fr f1 (by decide)
  · rw [e9]
    refine h.1.2.ch (by rw [f1 43 (by decide), up_ne (by omega)]) (fun t ht => upW_n (by omega))
  · unfold Sp at hd
    rw [f1 d (by simp; omega), up_ne (by omega)]
theorem CX.set6 {M : MMw} {W : Nat → Int32} {t j : Nat} (h : CX M 10 W) (ht : t < 8) (hf : fit (21 + 10 * t) j) : CX (up M 6 t (nI j)) 10 (upW W (21 + 10 * t) (nI j)) := by
  obtain ⟨⟨⟨c1, c2, c3, c4, x1, x2, x3, x4, x5, x6, x7⟩, _⟩, _⟩ := id h
  have h98 := h.2.2.1.1.2.2.1.2
  have P : TP (q_n W 96) W := ⟨h.2.2.1, h.2.2.2, by omega, rfl⟩
  have P2 := P.fit hf (by omega)
  refine h.crewup ?_ (sameR.rf.up (by omega)) (fun d h1 h2 => up_ne (by omega)) ?_ P2.1 P2.2.1
  · unfold CRcrew
    simp (disch := omega) only [up_ne, up_at, upW_n, upW_s]
    exact ⟨c1, c2, c3, c4, x1.un (by omega), x2.un (by omega), x3.un (by omega), x4.up (by decide), x5.un (by omega), x6.un (by omega), x7.un (by omega)⟩
  · obtain ⟨m1, m2, m3, m4, b1, b2, b3, b4, b5, b6⟩ := h.2.1
    unfold CRm
    simp (disch := omega) only [up_ne, up_at, upW_n, upW_s]
    exact ⟨m1, m2, m3, m4, b1.un (by omega), b2.un (by omega), b3.un (by omega), b4.un (by omega), b5.un (by omega), b6.un (by omega)⟩
theorem CX.set7 {M : MMw} {W : Nat → Int32} {t j : Nat} (h : CX M 10 W) (ht : t < 8) (hf : fit (22 + 10 * t) j) : CX (up M 7 t (nI j)) 10 (upW W (22 + 10 * t) (nI j)) := by
  obtain ⟨⟨⟨c1, c2, c3, c4, x1, x2, x3, x4, x5, x6, x7⟩, _⟩, _⟩ := id h
  have h98 := h.2.2.1.1.2.2.1.2
  have P : TP (q_n W 96) W := ⟨h.2.2.1, h.2.2.2, by omega, rfl⟩
  have P2 := P.fit hf (by omega)
  refine h.crewup ?_ (sameR.rf.up (by omega)) (fun d h1 h2 => up_ne (by omega)) ?_ P2.1 P2.2.1
  · unfold CRcrew
    simp (disch := omega) only [up_ne, up_at, upW_n, upW_s]
    exact ⟨c1, c2, c3, c4, x1.un (by omega), x2.un (by omega), x3.un (by omega), x4.un (by omega), x5.up (by decide), x6.un (by omega), x7.un (by omega)⟩
  · obtain ⟨m1, m2, m3, m4, b1, b2, b3, b4, b5, b6⟩ := h.2.1
    unfold CRm
    simp (disch := omega) only [up_ne, up_at, upW_n, upW_s]
    exact ⟨m1, m2, m3, m4, b1.un (by omega), b2.un (by omega), b3.un (by omega), b4.un (by omega), b5.un (by omega), b6.un (by omega)⟩
theorem CX.set8 {M : MMw} {W : Nat → Int32} {m j : Nat} (h : CX M 10 W) (hm : m < 4) (hf : fit (130 + 2 * m) j) : CX (up M 8 m (nI j)) 10 (upW W (130 + 2 * m) (nI j)) := by
  obtain ⟨⟨⟨c1, c2, c3, c4, x1, x2, x3, x4, x5, x6, x7⟩, _⟩, _⟩ := id h
  have h98 := h.2.2.1.1.2.2.1.2
  have P : TP (q_n W 96) W := ⟨h.2.2.1, h.2.2.2, by omega, rfl⟩
  have P2 := P.fit hf (by omega)
  refine h.crewup ?_ (sameR.rf.up (by omega)) (fun d h1 h2 => up_ne (by omega)) ?_ P2.1 P2.2.1
  · unfold CRcrew
    simp (disch := omega) only [up_ne, up_at, upW_n, upW_s]
    exact ⟨c1, c2, c3, c4, x1.un (by omega), x2.un (by omega), x3.un (by omega), x4.un (by omega), x5.un (by omega), x6.up (by decide), x7.un (by omega)⟩
  · exact (h.2.1.hi (fun k hk => upW_n (by omega))).fr (L := [8]) (Fr.rf.up (by decide)) (by decide)
theorem CX.cell2 {M : MMw} {W : Nat → Int32} {j : Nat} (h : CX M 10 W) (hf : fit 102 j) : CX (up M 2 2 (nI j)) 10 (upW W 102 (nI j)) := by
  obtain ⟨⟨⟨c1, c2, c3, c4, x1, x2, x3, x4, x5, x6, x7⟩, _⟩, _⟩ := id h
  have h98 := h.2.2.1.1.2.2.1.2
  have P : TP (q_n W 96) W := ⟨h.2.2.1, h.2.2.2, by omega, rfl⟩
  have P2 := P.fit hf (by omega)
  refine h.crewup ?_ (sameR.rf.up (by omega)) (fun d h1 h2 => up_ne (by omega)) ?_ P2.1 P2.2.1
  · unfold CRcrew
    simp (disch := omega) only [up_ne, up_at, upW_n, upW_s]
    exact ⟨c1, c2, trivial, c4, x1.un (by omega), x2.un (by omega), x3.un (by omega), x4.un (by omega), x5.un (by omega), x6.un (by omega), x7.un (by omega)⟩
  · exact (h.2.1.hi (fun k hk => upW_n (by omega))).fr (L := [2]) (Fr.rf.up (by decide)) (by decide)
theorem CX.cell3 {M : MMw} {W : Nat → Int32} {j : Nat} (h : CX M 10 W) (hf : fit 103 j) : CX (up M 2 3 (nI j)) 10 (upW W 103 (nI j)) := by
  obtain ⟨⟨⟨c1, c2, c3, c4, x1, x2, x3, x4, x5, x6, x7⟩, _⟩, _⟩ := id h
  have h98 := h.2.2.1.1.2.2.1.2
  have P : TP (q_n W 96) W := ⟨h.2.2.1, h.2.2.2, by omega, rfl⟩
  have P2 := P.fit hf (by omega)
  refine h.crewup ?_ (sameR.rf.up (by omega)) (fun d h1 h2 => up_ne (by omega)) ?_ P2.1 P2.2.1
  · unfold CRcrew
    simp (disch := omega) only [up_ne, up_at, upW_n, upW_s]
    exact ⟨c1, c2, c3, trivial, x1.un (by omega), x2.un (by omega), x3.un (by omega), x4.un (by omega), x5.un (by omega), x6.un (by omega), x7.un (by omega)⟩
  · exact (h.2.1.hi (fun k hk => upW_n (by omega))).fr (L := [2]) (Fr.rf.up (by decide)) (by decide)
theorem CX.setE {M : MMw} {W : Nat → Int32} {t j : Nat} (h : CX M 10 W) (ht : t < 8) (hj : j < 100) : CX (up M 11 t (nI j)) 10 (upW W (19 + 10 * t) (nI j)) ∧ CX (up M 12 t (nI j)) 10 (upW W (20 + 10 * t) (nI j)) := by
  have h98 := h.2.2.1.1.2.2.1.2
  have y1 : sameY W (upW W (19 + 10 * t) (nI j)) := sameY.rf.up (by unfold mvI; omega)
  have y2 : sameY W (upW W (20 + 10 * t) (nI j)) := sameY.rf.up (by unfold mvI; omega)
  exact ⟨⟨h.1.ch (fun d hd => up_ne (by unfold Yp at hd; omega)) y1 h.2.2.1.1, h.2.1.edge, h.2.2.1.ch y1, h.2.2.2.tool ht (Or.inl rfl) hj (by omega)⟩, ⟨h.1.ch (fun d hd => up_ne (by unfold Yp at hd; omega)) y2 h.2.2.1.1, h.2.1.mood, h.2.2.1.ch y2, h.2.2.2.tool ht (Or.inr rfl) hj (by omega)⟩⟩
theorem b2i_ite {c : Bool} : (if b2i c = nI 0 then nI 0 else nI 1) = b2i c := by cases c <;> rfl
theorem nrw_in {c : Bool} : (nrw 1 (b2i c) = b2i c) = True := eq_true (b2i_nrw c)
/-- no such what -/
theorem P_set_no (hD : 4 ≤ D) {v1 v2 v3 : Int32} {len s : Nat} (h : Rl kn len s M) (hno : q_in v1 0 6 = false) : Pr X D 29 33 [.inr (.inl 0), .inl v1, .inl v2, .inl v3] [.inr (.inl 178), .inl v1, .inl v2, .inl v3] (Gk n tot kn kx) M (Rl kn len s) := by
  have ne : ∀ k, k ≤ 6 → v1 ≠ nI k := by
    intro k hk e
    rw [e] at hno
    unfold q_in at hno
    simp (disch := omega) only [lt_i] at hno
    simp at hno
    omega
  refine Pr.mk (Q1 := fun x M1 => x = nI 0 ∧ M1 = M) (Sq.mk (k := 3) hD (fun D' hD' => ?_)) ?_
  · refine Lq.of (t_29_0_ok X (callw X D') n tot kn kx _ _ _ M) ?_
    unfold t_29_0
    have hc : callw X D' 27 [.inr (.inl 0), .inl v1, .inl v2, .inl v3] (Gk n tot kn kx) M = some (b2i false, Gk n tot kn kx, M) :=
      ex1 (by omega) (fun cl => t_27_0_ok X cl n tot kn kx _ _ _ M) (fun cl => by
        unfold t_27_0
        simp only [o_nI]
        rw [if_neg (ne 0 (by decide)), if_neg (ne 1 (by decide)), if_neg (ne 2 (by decide)), if_neg (ne 3 (by decide)), if_neg (ne 4 (by decide)), if_neg (ne 5 (by decide)), if_neg (ne 6 (by decide))]
        rfl)
    rw [hc, bnd_some, if_pos (by rfl), if_pos (b2i_nrw false), Wq_ret]
    exact ⟨rfl, rfl⟩
  · rintro x M1 ⟨rfl, rfl⟩
    refine Sq.mk (k := 3) hD (fun D' hD' => ?_)
    refine Lq.of (t_33_0_ok X (callw X D') n tot kn kx _ _ _ M1) ?_
    unfold t_33_0
    simp only [o_nI]
    rw [m_in (by omega), bnd_some, hno, if_pos (by rfl), Wq_ret]
    exact ⟨rfl, h⟩
theorem c_canSet0 (hD : 2 ≤ D) {v2 v3 : Int32} {T : Nat} (e20 : M 2 0 = nI T) (hT : T ≤ 8) : callw X D 27 [.inr (.inl 0), .inl (nI 0), .inl v2, .inl v3] (Gk n tot kn kx) M = some (b2i (q_is v2 T && q_in v3 0 99), Gk n tot kn kx, M) :=
  exk (k := 1) hD (fun D' hD' => t_27_0_ok X (callw X D') n tot kn kx _ _ _ M) (fun D' hD' => by
    unfold t_27_0
    simp only [o_nI]
    rw [if_pos trivial]
    rw [c_isTool (by omega) e20 hT, bnd_some]
    cases q_is v2 T with
    | false => rw [if_pos (by rfl)]; rfl
    | true =>
      rw [if_neg (by decide), c_in (by omega), bnd_some, Bool.true_and]
      cases q_in v3 0 99 with
      | false => rw [if_pos (by rfl)]; rfl
      | true => rw [if_neg (by decide)]; rfl)
set_option maxHeartbeats 4000000 in
theorem P_set0 (hD : 4 ≤ D) {v2 v3 : Int32} {len s : Nat} (h : Rl kn len s M) : Pr X D 29 33 [.inr (.inl 0), .inl (nI 0), .inl v2, .inl v3] [.inr (.inl 178), .inl (nI 0), .inl v2, .inl v3] (Gk n tot kn kx) M (Rl kn len s) := by
  have hX := h.1.1
  have h96 := hX.2.2.1.1.1; have h96' := h96.2
  have e20 : M 2 0 = nI (q_n (M 179) 96) := by rw [hX.1.1.1]; exact h96.1
  obtain ⟨T, hT⟩ : ∃ T, q_n (M 179) 96 = T := ⟨_, rfl⟩
  have e96 : M 179 96 = nI T := by rw [← hT]; exact h96.1
  rw [hT] at e20 h96'
  cases hc : q_is v2 T && q_in v3 0 99 with
  | false =>
    refine Pr.mk (Q1 := fun x M1 => x = nI 0 ∧ M1 = M) (Sq.mk (k := 3) hD (fun D' hD' => ?_)) ?_
    · refine Lq.of (t_29_0_ok X (callw X D') n tot kn kx _ _ _ M) ?_
      unfold t_29_0
      rw [c_canSet0 (by omega) e20 (by omega), bnd_some, hc, if_pos (by rfl), if_pos (b2i_nrw false), Wq_ret]
      exact ⟨rfl, rfl⟩
    · rintro x M1 ⟨rfl, rfl⟩
      refine Sq.mk (k := 3) hD (fun D' hD' => ?_)
      refine Lq.of (t_33_0_ok X (callw X D') n tot kn kx _ _ _ M1) ?_
      unfold t_33_0
      simp only [o_nI]
      rw [m_in (by omega), bnd_some, show q_in (nI 0) 0 6 = true by decide +kernel, if_neg (by decide), if_neg (show ¬ nI 0 = nI 6 by decide +kernel)]
      rw [show callw X D' 30 [.inl (nI 0)] (Gk n tot kn kx) M1 = some (nI 99, Gk n tot kn kx, M1) from ex1 (by omega) (fun cl => t_30_0_ok X cl n tot kn kx _ M1) (fun cl => by
        unfold t_30_0
        simp only [o_nI]
        rw [if_neg (show ¬ nI 0 = nI 2 by decide +kernel)]; rw [if_neg (show ¬ nI 0 = nI 3 by decide +kernel)]; rw [if_neg (show ¬ nI 0 = nI 4 by decide +kernel)]; rw [if_neg (show ¬ nI 0 = nI 5 by decide +kernel)]; rw [if_neg (show ¬ nI 0 = nI 6 by decide +kernel)]), bnd_some, m_in (by omega), bnd_some]
      cases hq : q_in v3 0 99 with
      | false => rw [if_pos (by rfl), Wq_ret]; exact ⟨rfl, h⟩
      | true =>
        rw [hq, Bool.and_true] at hc
        rw [if_neg (by decide), if_pos (by decide +kernel), m_isTool (show 2 ≤ D' by omega) e96 (by omega), bnd_some, hc, if_pos (by rfl), Wq_ret]
        exact ⟨rfl, h⟩
  | true =>
    rw [Bool.and_eq_true] at hc
    obtain ⟨hc1, hc2⟩ := hc
    obtain ⟨j, j1, j2, rfl⟩ := q_in_t (by decide) (by decide) hc2
    obtain ⟨t, ht, rfl⟩ := q_is_t (by omega) hc1
    have ht8 : t < 8 := by omega
    have hX2 := (hX.setE ht8 (show j < 100 by omega)).1
    refine Pr.mk (Q1 := fun x M1 => x = nI 1 ∧ M1 = up (up M 11 t (nI j)) 0 5 (nI 0)) (Sq.mk (k := 3) hD (fun D' hD' => ?_)) ?_
    · refine Lq.of (t_29_0_ok X (callw X D') n tot kn kx _ _ _ M) ?_
      unfold t_29_0
      rw [c_canSet0 (by omega) e20 (by omega), bnd_some, hc2, hc1, Bool.true_and, if_neg (by decide)]
      rw [show callw X D' 28 [.inr (.inl 0), .inl (nI 0), .inl (nI t), .inl (nI j)] (Gk n tot kn kx) M = some (0, Gk n tot kn kx, up M 11 t (nI j)) from ex1 (by omega) (fun cl => t_28_0_ok X cl n tot kn kx _ _ _ M) (fun cl => by
        unfold t_28_0
        simp only [o_nI]
        rw [if_pos trivial]
        rw [and7 ht8, inb_nI ht8 (by decide), if_pos rfl, nI_clamp (by omega)]), bnd_some, c_forget (by omega), bnd_some, if_pos (b2i_nrw true), Wq_ret]
      exact ⟨rfl, rfl⟩
    · rintro x M1 ⟨rfl, hM1⟩
      have e9 : M1 179 = M 179 := by rw [hM1, up_ne (by decide), up_ne (by decide)]
      refine Sq.mk (k := 3) hD (fun D' hD' => ?_)
      refine Lq.of (t_33_0_ok X (callw X D') n tot kn kx _ _ _ M1) ?_
      unfold t_33_0
      simp only [o_nI]
      rw [m_in (by omega), bnd_some, show q_in (nI 0) 0 6 = true by decide +kernel, if_neg (by decide), if_neg (show ¬ nI 0 = nI 6 by decide +kernel)]
      rw [show callw X D' 30 [.inl (nI 0)] (Gk n tot kn kx) M1 = some (nI 99, Gk n tot kn kx, M1) from ex1 (by omega) (fun cl => t_30_0_ok X cl n tot kn kx _ M1) (fun cl => by
        unfold t_30_0
        simp only [o_nI]
        rw [if_neg (show ¬ nI 0 = nI 2 by decide +kernel)]; rw [if_neg (show ¬ nI 0 = nI 3 by decide +kernel)]; rw [if_neg (show ¬ nI 0 = nI 4 by decide +kernel)]; rw [if_neg (show ¬ nI 0 = nI 5 by decide +kernel)]; rw [if_neg (show ¬ nI 0 = nI 6 by decide +kernel)]), bnd_some, m_in (by omega), bnd_some]
      rw [hc2, if_neg (by decide)]
      rw [if_pos (by decide +kernel), m_isTool (show 2 ≤ D' by omega) (by rw [e9]; exact e96) (by omega), bnd_some, hc1, if_neg (by decide), if_neg (by decide +kernel), Wq_jmp]
      refine Lq.of (t_33_60_ok X (callw X D') n tot kn kx _ _ _ M1) ?_
      unfold t_33_60
      simp only [o_nI]
      rw [if_pos (by decide +kernel), nI_add, m_tools (by omega) (by omega), bnd_some, m_forget (by omega), bnd_some, Wq_ret]
      refine ⟨rfl, h.set (c := 11) (i := t) (k := 19 + 10 * t) (v := nI j) (by omega) (by omega) ?_ hX2⟩
      rw [← hM1]
      congr 2
      omega
theorem c_canSet1 (hD : 2 ≤ D) {v2 v3 : Int32} {T : Nat} (e20 : M 2 0 = nI T) (hT : T ≤ 8) : callw X D 27 [.inr (.inl 0), .inl (nI 1), .inl v2, .inl v3] (Gk n tot kn kx) M = some (b2i (q_is v2 T && q_in v3 0 99), Gk n tot kn kx, M) :=
  exk (k := 1) hD (fun D' hD' => t_27_0_ok X (callw X D') n tot kn kx _ _ _ M) (fun D' hD' => by
    unfold t_27_0
    simp only [o_nI]
    rw [if_neg (show ¬ nI 1 = nI 0 by decide +kernel)]
    rw [if_pos trivial]
    rw [c_isTool (by omega) e20 hT, bnd_some]
    cases q_is v2 T with
    | false => rw [if_pos (by rfl)]; rfl
    | true =>
      rw [if_neg (by decide), c_in (by omega), bnd_some, Bool.true_and]
      cases q_in v3 0 99 with
      | false => rw [if_pos (by rfl)]; rfl
      | true => rw [if_neg (by decide)]; rfl)
set_option maxHeartbeats 4000000 in
theorem P_set1 (hD : 4 ≤ D) {v2 v3 : Int32} {len s : Nat} (h : Rl kn len s M) : Pr X D 29 33 [.inr (.inl 0), .inl (nI 1), .inl v2, .inl v3] [.inr (.inl 178), .inl (nI 1), .inl v2, .inl v3] (Gk n tot kn kx) M (Rl kn len s) := by
  have hX := h.1.1
  have h96 := hX.2.2.1.1.1; have h96' := h96.2
  have e20 : M 2 0 = nI (q_n (M 179) 96) := by rw [hX.1.1.1]; exact h96.1
  obtain ⟨T, hT⟩ : ∃ T, q_n (M 179) 96 = T := ⟨_, rfl⟩
  have e96 : M 179 96 = nI T := by rw [← hT]; exact h96.1
  rw [hT] at e20 h96'
  cases hc : q_is v2 T && q_in v3 0 99 with
  | false =>
    refine Pr.mk (Q1 := fun x M1 => x = nI 0 ∧ M1 = M) (Sq.mk (k := 3) hD (fun D' hD' => ?_)) ?_
    · refine Lq.of (t_29_0_ok X (callw X D') n tot kn kx _ _ _ M) ?_
      unfold t_29_0
      rw [c_canSet1 (by omega) e20 (by omega), bnd_some, hc, if_pos (by rfl), if_pos (b2i_nrw false), Wq_ret]
      exact ⟨rfl, rfl⟩
    · rintro x M1 ⟨rfl, rfl⟩
      refine Sq.mk (k := 3) hD (fun D' hD' => ?_)
      refine Lq.of (t_33_0_ok X (callw X D') n tot kn kx _ _ _ M1) ?_
      unfold t_33_0
      simp only [o_nI]
      rw [m_in (by omega), bnd_some, show q_in (nI 1) 0 6 = true by decide +kernel, if_neg (by decide), if_neg (show ¬ nI 1 = nI 6 by decide +kernel)]
      rw [show callw X D' 30 [.inl (nI 1)] (Gk n tot kn kx) M1 = some (nI 99, Gk n tot kn kx, M1) from ex1 (by omega) (fun cl => t_30_0_ok X cl n tot kn kx _ M1) (fun cl => by
        unfold t_30_0
        simp only [o_nI]
        rw [if_neg (show ¬ nI 1 = nI 2 by decide +kernel)]; rw [if_neg (show ¬ nI 1 = nI 3 by decide +kernel)]; rw [if_neg (show ¬ nI 1 = nI 4 by decide +kernel)]; rw [if_neg (show ¬ nI 1 = nI 5 by decide +kernel)]; rw [if_neg (show ¬ nI 1 = nI 6 by decide +kernel)]), bnd_some, m_in (by omega), bnd_some]
      cases hq : q_in v3 0 99 with
      | false => rw [if_pos (by rfl), Wq_ret]; exact ⟨rfl, h⟩
      | true =>
        rw [hq, Bool.and_true] at hc
        rw [if_neg (by decide), if_pos (by decide +kernel), m_isTool (show 2 ≤ D' by omega) e96 (by omega), bnd_some, hc, if_pos (by rfl), Wq_ret]
        exact ⟨rfl, h⟩
  | true =>
    rw [Bool.and_eq_true] at hc
    obtain ⟨hc1, hc2⟩ := hc
    obtain ⟨j, j1, j2, rfl⟩ := q_in_t (by decide) (by decide) hc2
    obtain ⟨t, ht, rfl⟩ := q_is_t (by omega) hc1
    have ht8 : t < 8 := by omega
    have hX2 := (hX.setE ht8 (show j < 100 by omega)).2
    refine Pr.mk (Q1 := fun x M1 => x = nI 1 ∧ M1 = up (up M 12 t (nI j)) 0 5 (nI 0)) (Sq.mk (k := 3) hD (fun D' hD' => ?_)) ?_
    · refine Lq.of (t_29_0_ok X (callw X D') n tot kn kx _ _ _ M) ?_
      unfold t_29_0
      rw [c_canSet1 (by omega) e20 (by omega), bnd_some, hc2, hc1, Bool.true_and, if_neg (by decide)]
      rw [show callw X D' 28 [.inr (.inl 0), .inl (nI 1), .inl (nI t), .inl (nI j)] (Gk n tot kn kx) M = some (0, Gk n tot kn kx, up M 12 t (nI j)) from ex1 (by omega) (fun cl => t_28_0_ok X cl n tot kn kx _ _ _ M) (fun cl => by
        unfold t_28_0
        simp only [o_nI]
        rw [if_neg (show ¬ nI 1 = nI 0 by decide +kernel)]
        rw [if_pos trivial]
        rw [and7 ht8, inb_nI ht8 (by decide), if_pos rfl, nI_clamp (by omega)]), bnd_some, c_forget (by omega), bnd_some, if_pos (b2i_nrw true), Wq_ret]
      exact ⟨rfl, rfl⟩
    · rintro x M1 ⟨rfl, hM1⟩
      have e9 : M1 179 = M 179 := by rw [hM1, up_ne (by decide), up_ne (by decide)]
      refine Sq.mk (k := 3) hD (fun D' hD' => ?_)
      refine Lq.of (t_33_0_ok X (callw X D') n tot kn kx _ _ _ M1) ?_
      unfold t_33_0
      simp only [o_nI]
      rw [m_in (by omega), bnd_some, show q_in (nI 1) 0 6 = true by decide +kernel, if_neg (by decide), if_neg (show ¬ nI 1 = nI 6 by decide +kernel)]
      rw [show callw X D' 30 [.inl (nI 1)] (Gk n tot kn kx) M1 = some (nI 99, Gk n tot kn kx, M1) from ex1 (by omega) (fun cl => t_30_0_ok X cl n tot kn kx _ M1) (fun cl => by
        unfold t_30_0
        simp only [o_nI]
        rw [if_neg (show ¬ nI 1 = nI 2 by decide +kernel)]; rw [if_neg (show ¬ nI 1 = nI 3 by decide +kernel)]; rw [if_neg (show ¬ nI 1 = nI 4 by decide +kernel)]; rw [if_neg (show ¬ nI 1 = nI 5 by decide +kernel)]; rw [if_neg (show ¬ nI 1 = nI 6 by decide +kernel)]), bnd_some, m_in (by omega), bnd_some]
      rw [hc2, if_neg (by decide)]
      rw [if_pos (by decide +kernel), m_isTool (show 2 ≤ D' by omega) (by rw [e9]; exact e96) (by omega), bnd_some, hc1, if_neg (by decide), if_neg (by decide +kernel), Wq_jmp]
      refine Lq.of (t_33_60_ok X (callw X D') n tot kn kx _ _ _ M1) ?_
      unfold t_33_60
      simp only [o_nI]
      rw [if_pos (by decide +kernel), nI_add, m_tools (by omega) (by omega), bnd_some, m_forget (by omega), bnd_some, Wq_ret]
      refine ⟨rfl, h.set (c := 12) (i := t) (k := 20 + 10 * t) (v := nI j) (by omega) (by omega) ?_ hX2⟩
      rw [← hM1]
      congr 2
      omega
theorem c_canSet2 (hD : 2 ≤ D) {v2 v3 : Int32} {T : Nat} (e20 : M 2 0 = nI T) (hT : T ≤ 8) : callw X D 27 [.inr (.inl 0), .inl (nI 2), .inl v2, .inl v3] (Gk n tot kn kx) M = some (b2i (q_is v2 T && q_in v3 0 9), Gk n tot kn kx, M) :=
  exk (k := 1) hD (fun D' hD' => t_27_0_ok X (callw X D') n tot kn kx _ _ _ M) (fun D' hD' => by
    unfold t_27_0
    simp only [o_nI]
    rw [if_neg (show ¬ nI 2 = nI 0 by decide +kernel)]
    rw [if_neg (show ¬ nI 2 = nI 1 by decide +kernel)]
    rw [if_pos trivial]
    rw [c_isTool (by omega) e20 hT, bnd_some]
    cases q_is v2 T with
    | false => rw [if_pos (by rfl)]; rfl
    | true =>
      rw [if_neg (by decide), c_in (by omega), bnd_some, Bool.true_and]
      cases q_in v3 0 9 with
      | false => rw [if_pos (by rfl)]; rfl
      | true => rw [if_neg (by decide)]; rfl)
set_option maxHeartbeats 4000000 in
theorem P_set2 (hD : 4 ≤ D) {v2 v3 : Int32} {len s : Nat} (h : Rl kn len s M) : Pr X D 29 33 [.inr (.inl 0), .inl (nI 2), .inl v2, .inl v3] [.inr (.inl 178), .inl (nI 2), .inl v2, .inl v3] (Gk n tot kn kx) M (Rl kn len s) := by
  have hX := h.1.1
  have h96 := hX.2.2.1.1.1; have h96' := h96.2
  have e20 : M 2 0 = nI (q_n (M 179) 96) := by rw [hX.1.1.1]; exact h96.1
  obtain ⟨T, hT⟩ : ∃ T, q_n (M 179) 96 = T := ⟨_, rfl⟩
  have e96 : M 179 96 = nI T := by rw [← hT]; exact h96.1
  rw [hT] at e20 h96'
  cases hc : q_is v2 T && q_in v3 0 9 with
  | false =>
    refine Pr.mk (Q1 := fun x M1 => x = nI 0 ∧ M1 = M) (Sq.mk (k := 3) hD (fun D' hD' => ?_)) ?_
    · refine Lq.of (t_29_0_ok X (callw X D') n tot kn kx _ _ _ M) ?_
      unfold t_29_0
      rw [c_canSet2 (by omega) e20 (by omega), bnd_some, hc, if_pos (by rfl), if_pos (b2i_nrw false), Wq_ret]
      exact ⟨rfl, rfl⟩
    · rintro x M1 ⟨rfl, rfl⟩
      refine Sq.mk (k := 3) hD (fun D' hD' => ?_)
      refine Lq.of (t_33_0_ok X (callw X D') n tot kn kx _ _ _ M1) ?_
      unfold t_33_0
      simp only [o_nI]
      rw [m_in (by omega), bnd_some, show q_in (nI 2) 0 6 = true by decide +kernel, if_neg (by decide), if_neg (show ¬ nI 2 = nI 6 by decide +kernel)]
      rw [show callw X D' 30 [.inl (nI 2)] (Gk n tot kn kx) M1 = some (nI 9, Gk n tot kn kx, M1) from ex1 (by omega) (fun cl => t_30_0_ok X cl n tot kn kx _ M1) (fun cl => by
        unfold t_30_0
        simp only [o_nI]
        rw [if_pos trivial]), bnd_some, m_in (by omega), bnd_some]
      cases hq : q_in v3 0 9 with
      | false => rw [if_pos (by rfl), Wq_ret]; exact ⟨rfl, h⟩
      | true =>
        rw [hq, Bool.and_true] at hc
        rw [if_neg (by decide), if_pos (by decide +kernel), m_isTool (show 2 ≤ D' by omega) e96 (by omega), bnd_some, hc, if_pos (by rfl), Wq_ret]
        exact ⟨rfl, h⟩
  | true =>
    rw [Bool.and_eq_true] at hc
    obtain ⟨hc1, hc2⟩ := hc
    obtain ⟨j, j1, j2, rfl⟩ := q_in_t (by decide) (by decide) hc2
    obtain ⟨t, ht, rfl⟩ := q_is_t (by omega) hc1
    have ht8 : t < 8 := by omega
    have hX2 := hX.set6 (j := j) ht8 (Or.inl ⟨t, ht8, by omega⟩)
    refine Pr.mk (Q1 := fun x M1 => x = nI 1 ∧ M1 = up (up M 6 t (nI j)) 0 5 (nI 0)) (Sq.mk (k := 3) hD (fun D' hD' => ?_)) ?_
    · refine Lq.of (t_29_0_ok X (callw X D') n tot kn kx _ _ _ M) ?_
      unfold t_29_0
      rw [c_canSet2 (by omega) e20 (by omega), bnd_some, hc2, hc1, Bool.true_and, if_neg (by decide)]
      rw [show callw X D' 28 [.inr (.inl 0), .inl (nI 2), .inl (nI t), .inl (nI j)] (Gk n tot kn kx) M = some (0, Gk n tot kn kx, up M 6 t (nI j)) from ex1 (by omega) (fun cl => t_28_0_ok X cl n tot kn kx _ _ _ M) (fun cl => by
        unfold t_28_0
        simp only [o_nI]
        rw [if_neg (show ¬ nI 2 = nI 0 by decide +kernel)]
        rw [if_neg (show ¬ nI 2 = nI 1 by decide +kernel)]
        rw [if_pos trivial]
        rw [and7 ht8, inb_nI ht8 (by decide), if_pos rfl, nI_clamp (by omega)]), bnd_some, c_forget (by omega), bnd_some, if_pos (b2i_nrw true), Wq_ret]
      exact ⟨rfl, rfl⟩
    · rintro x M1 ⟨rfl, hM1⟩
      have e9 : M1 179 = M 179 := by rw [hM1, up_ne (by decide), up_ne (by decide)]
      refine Sq.mk (k := 3) hD (fun D' hD' => ?_)
      refine Lq.of (t_33_0_ok X (callw X D') n tot kn kx _ _ _ M1) ?_
      unfold t_33_0
      simp only [o_nI]
      rw [m_in (by omega), bnd_some, show q_in (nI 2) 0 6 = true by decide +kernel, if_neg (by decide), if_neg (show ¬ nI 2 = nI 6 by decide +kernel)]
      rw [show callw X D' 30 [.inl (nI 2)] (Gk n tot kn kx) M1 = some (nI 9, Gk n tot kn kx, M1) from ex1 (by omega) (fun cl => t_30_0_ok X cl n tot kn kx _ M1) (fun cl => by
        unfold t_30_0
        simp only [o_nI]
        rw [if_pos trivial]), bnd_some, m_in (by omega), bnd_some]
      rw [hc2, if_neg (by decide)]
      rw [if_pos (by decide +kernel), m_isTool (show 2 ≤ D' by omega) (by rw [e9]; exact e96) (by omega), bnd_some, hc1, if_neg (by decide), if_neg (by decide +kernel), Wq_jmp]
      refine Lq.of (t_33_60_ok X (callw X D') n tot kn kx _ _ _ M1) ?_
      unfold t_33_60
      simp only [o_nI]
      rw [if_pos (by decide +kernel), nI_add, m_tools (by omega) (by omega), bnd_some, m_forget (by omega), bnd_some, Wq_ret]
      refine ⟨rfl, h.set (c := 6) (i := t) (k := 21 + 10 * t) (v := nI j) (by omega) (by omega) ?_ hX2⟩
      rw [← hM1]
      congr 2
      omega
theorem c_canSet3 (hD : 2 ≤ D) {v2 v3 : Int32} {T : Nat} (e20 : M 2 0 = nI T) (hT : T ≤ 8) : callw X D 27 [.inr (.inl 0), .inl (nI 3), .inl v2, .inl v3] (Gk n tot kn kx) M = some (b2i (q_is v2 T && q_in v3 0 7), Gk n tot kn kx, M) :=
  exk (k := 1) hD (fun D' hD' => t_27_0_ok X (callw X D') n tot kn kx _ _ _ M) (fun D' hD' => by
    unfold t_27_0
    simp only [o_nI]
    rw [if_neg (show ¬ nI 3 = nI 0 by decide +kernel)]
    rw [if_neg (show ¬ nI 3 = nI 1 by decide +kernel)]
    rw [if_neg (show ¬ nI 3 = nI 2 by decide +kernel)]
    rw [if_pos trivial]
    rw [c_isTool (by omega) e20 hT, bnd_some]
    cases q_is v2 T with
    | false => rw [if_pos (by rfl)]; rfl
    | true =>
      rw [if_neg (by decide), c_in (by omega), bnd_some, Bool.true_and]
      cases q_in v3 0 7 with
      | false => rw [if_pos (by rfl)]; rfl
      | true => rw [if_neg (by decide)]; rfl)
set_option maxHeartbeats 4000000 in
theorem P_set3 (hD : 4 ≤ D) {v2 v3 : Int32} {len s : Nat} (h : Rl kn len s M) : Pr X D 29 33 [.inr (.inl 0), .inl (nI 3), .inl v2, .inl v3] [.inr (.inl 178), .inl (nI 3), .inl v2, .inl v3] (Gk n tot kn kx) M (Rl kn len s) := by
  have hX := h.1.1
  have h96 := hX.2.2.1.1.1; have h96' := h96.2
  have e20 : M 2 0 = nI (q_n (M 179) 96) := by rw [hX.1.1.1]; exact h96.1
  obtain ⟨T, hT⟩ : ∃ T, q_n (M 179) 96 = T := ⟨_, rfl⟩
  have e96 : M 179 96 = nI T := by rw [← hT]; exact h96.1
  rw [hT] at e20 h96'
  cases hc : q_is v2 T && q_in v3 0 7 with
  | false =>
    refine Pr.mk (Q1 := fun x M1 => x = nI 0 ∧ M1 = M) (Sq.mk (k := 3) hD (fun D' hD' => ?_)) ?_
    · refine Lq.of (t_29_0_ok X (callw X D') n tot kn kx _ _ _ M) ?_
      unfold t_29_0
      rw [c_canSet3 (by omega) e20 (by omega), bnd_some, hc, if_pos (by rfl), if_pos (b2i_nrw false), Wq_ret]
      exact ⟨rfl, rfl⟩
    · rintro x M1 ⟨rfl, rfl⟩
      refine Sq.mk (k := 3) hD (fun D' hD' => ?_)
      refine Lq.of (t_33_0_ok X (callw X D') n tot kn kx _ _ _ M1) ?_
      unfold t_33_0
      simp only [o_nI]
      rw [m_in (by omega), bnd_some, show q_in (nI 3) 0 6 = true by decide +kernel, if_neg (by decide), if_neg (show ¬ nI 3 = nI 6 by decide +kernel)]
      rw [show callw X D' 30 [.inl (nI 3)] (Gk n tot kn kx) M1 = some (nI 7, Gk n tot kn kx, M1) from ex1 (by omega) (fun cl => t_30_0_ok X cl n tot kn kx _ M1) (fun cl => by
        unfold t_30_0
        simp only [o_nI]
        rw [if_neg (show ¬ nI 3 = nI 2 by decide +kernel)]; rw [if_pos trivial]), bnd_some, m_in (by omega), bnd_some]
      cases hq : q_in v3 0 7 with
      | false => rw [if_pos (by rfl), Wq_ret]; exact ⟨rfl, h⟩
      | true =>
        rw [hq, Bool.and_true] at hc
        rw [if_neg (by decide), if_pos (by decide +kernel), m_isTool (show 2 ≤ D' by omega) e96 (by omega), bnd_some, hc, if_pos (by rfl), Wq_ret]
        exact ⟨rfl, h⟩
  | true =>
    rw [Bool.and_eq_true] at hc
    obtain ⟨hc1, hc2⟩ := hc
    obtain ⟨j, j1, j2, rfl⟩ := q_in_t (by decide) (by decide) hc2
    obtain ⟨t, ht, rfl⟩ := q_is_t (by omega) hc1
    have ht8 : t < 8 := by omega
    have hX2 := hX.set7 (j := j) ht8 (Or.inl ⟨t, ht8, by omega⟩)
    refine Pr.mk (Q1 := fun x M1 => x = nI 1 ∧ M1 = up (up M 7 t (nI j)) 0 5 (nI 0)) (Sq.mk (k := 3) hD (fun D' hD' => ?_)) ?_
    · refine Lq.of (t_29_0_ok X (callw X D') n tot kn kx _ _ _ M) ?_
      unfold t_29_0
      rw [c_canSet3 (by omega) e20 (by omega), bnd_some, hc2, hc1, Bool.true_and, if_neg (by decide)]
      rw [show callw X D' 28 [.inr (.inl 0), .inl (nI 3), .inl (nI t), .inl (nI j)] (Gk n tot kn kx) M = some (0, Gk n tot kn kx, up M 7 t (nI j)) from ex1 (by omega) (fun cl => t_28_0_ok X cl n tot kn kx _ _ _ M) (fun cl => by
        unfold t_28_0
        simp only [o_nI]
        rw [if_neg (show ¬ nI 3 = nI 0 by decide +kernel)]
        rw [if_neg (show ¬ nI 3 = nI 1 by decide +kernel)]
        rw [if_neg (show ¬ nI 3 = nI 2 by decide +kernel)]
        rw [if_pos trivial]
        rw [and7 ht8, inb_nI ht8 (by decide), if_pos rfl, nI_clamp (by omega)]), bnd_some, c_forget (by omega), bnd_some, if_pos (b2i_nrw true), Wq_ret]
      exact ⟨rfl, rfl⟩
    · rintro x M1 ⟨rfl, hM1⟩
      have e9 : M1 179 = M 179 := by rw [hM1, up_ne (by decide), up_ne (by decide)]
      refine Sq.mk (k := 3) hD (fun D' hD' => ?_)
      refine Lq.of (t_33_0_ok X (callw X D') n tot kn kx _ _ _ M1) ?_
      unfold t_33_0
      simp only [o_nI]
      rw [m_in (by omega), bnd_some, show q_in (nI 3) 0 6 = true by decide +kernel, if_neg (by decide), if_neg (show ¬ nI 3 = nI 6 by decide +kernel)]
      rw [show callw X D' 30 [.inl (nI 3)] (Gk n tot kn kx) M1 = some (nI 7, Gk n tot kn kx, M1) from ex1 (by omega) (fun cl => t_30_0_ok X cl n tot kn kx _ M1) (fun cl => by
        unfold t_30_0
        simp only [o_nI]
        rw [if_neg (show ¬ nI 3 = nI 2 by decide +kernel)]; rw [if_pos trivial]), bnd_some, m_in (by omega), bnd_some]
      rw [hc2, if_neg (by decide)]
      rw [if_pos (by decide +kernel), m_isTool (show 2 ≤ D' by omega) (by rw [e9]; exact e96) (by omega), bnd_some, hc1, if_neg (by decide), if_neg (by decide +kernel), Wq_jmp]
      refine Lq.of (t_33_60_ok X (callw X D') n tot kn kx _ _ _ M1) ?_
      unfold t_33_60
      simp only [o_nI]
      rw [if_pos (by decide +kernel), nI_add, m_tools (by omega) (by omega), bnd_some, m_forget (by omega), bnd_some, Wq_ret]
      refine ⟨rfl, h.set (c := 7) (i := t) (k := 22 + 10 * t) (v := nI j) (by omega) (by omega) ?_ hX2⟩
      rw [← hM1]
      congr 2
      omega
theorem c_canSet4 (hD : 2 ≤ D) {v2 v3 : Int32} {T : Nat} (e20 : M 2 1 = nI T) (hT : T ≤ 4) : callw X D 27 [.inr (.inl 0), .inl (nI 4), .inl v2, .inl v3] (Gk n tot kn kx) M = some (b2i (q_is v2 T && q_in v3 0 99), Gk n tot kn kx, M) :=
  exk (k := 1) hD (fun D' hD' => t_27_0_ok X (callw X D') n tot kn kx _ _ _ M) (fun D' hD' => by
    unfold t_27_0
    simp only [o_nI]
    rw [if_neg (show ¬ nI 4 = nI 0 by decide +kernel)]
    rw [if_neg (show ¬ nI 4 = nI 1 by decide +kernel)]
    rw [if_neg (show ¬ nI 4 = nI 2 by decide +kernel)]
    rw [if_neg (show ¬ nI 4 = nI 3 by decide +kernel)]
    rw [if_pos trivial]
    rw [c_isMan (by omega) e20 hT, bnd_some]
    cases q_is v2 T with
    | false => rw [if_pos (by rfl)]; rfl
    | true =>
      rw [if_neg (by decide), c_in (by omega), bnd_some, Bool.true_and]
      cases q_in v3 0 99 with
      | false => rw [if_pos (by rfl)]; rfl
      | true => rw [if_neg (by decide)]; rfl)
set_option maxHeartbeats 4000000 in
theorem P_set4 (hD : 4 ≤ D) {v2 v3 : Int32} {len s : Nat} (h : Rl kn len s M) : Pr X D 29 33 [.inr (.inl 0), .inl (nI 4), .inl v2, .inl v3] [.inr (.inl 178), .inl (nI 4), .inl v2, .inl v3] (Gk n tot kn kx) M (Rl kn len s) := by
  have hX := h.1.1
  have h96 := hX.2.2.1.1.2.1; have h96' := h96.2
  have e20 : M 2 1 = nI (q_n (M 179) 97) := by rw [hX.1.1.2.1]; exact h96.1
  obtain ⟨T, hT⟩ : ∃ T, q_n (M 179) 97 = T := ⟨_, rfl⟩
  have e96 : M 179 97 = nI T := by rw [← hT]; exact h96.1
  rw [hT] at e20 h96'
  cases hc : q_is v2 T && q_in v3 0 99 with
  | false =>
    refine Pr.mk (Q1 := fun x M1 => x = nI 0 ∧ M1 = M) (Sq.mk (k := 3) hD (fun D' hD' => ?_)) ?_
    · refine Lq.of (t_29_0_ok X (callw X D') n tot kn kx _ _ _ M) ?_
      unfold t_29_0
      rw [c_canSet4 (by omega) e20 (by omega), bnd_some, hc, if_pos (by rfl), if_pos (b2i_nrw false), Wq_ret]
      exact ⟨rfl, rfl⟩
    · rintro x M1 ⟨rfl, rfl⟩
      refine Sq.mk (k := 3) hD (fun D' hD' => ?_)
      refine Lq.of (t_33_0_ok X (callw X D') n tot kn kx _ _ _ M1) ?_
      unfold t_33_0
      simp only [o_nI]
      rw [m_in (by omega), bnd_some, show q_in (nI 4) 0 6 = true by decide +kernel, if_neg (by decide), if_neg (show ¬ nI 4 = nI 6 by decide +kernel)]
      rw [show callw X D' 30 [.inl (nI 4)] (Gk n tot kn kx) M1 = some (nI 99, Gk n tot kn kx, M1) from ex1 (by omega) (fun cl => t_30_0_ok X cl n tot kn kx _ M1) (fun cl => by
        unfold t_30_0
        simp only [o_nI]
        rw [if_neg (show ¬ nI 4 = nI 2 by decide +kernel)]; rw [if_neg (show ¬ nI 4 = nI 3 by decide +kernel)]; rw [if_pos trivial]), bnd_some, m_in (by omega), bnd_some]
      cases hq : q_in v3 0 99 with
      | false => rw [if_pos (by rfl), Wq_ret]; exact ⟨rfl, h⟩
      | true =>
        rw [hq, Bool.and_true] at hc
        rw [if_neg (by decide), if_neg (by decide +kernel), if_pos trivial, m_isMan (show 2 ≤ D' by omega) e96 (by omega), bnd_some, hc, if_pos (by rfl), Wq_ret]
        exact ⟨rfl, h⟩
  | true =>
    rw [Bool.and_eq_true] at hc
    obtain ⟨hc1, hc2⟩ := hc
    obtain ⟨j, j1, j2, rfl⟩ := q_in_t (by decide) (by decide) hc2
    obtain ⟨t, ht, rfl⟩ := q_is_t (by omega) hc1
    have ht8 : t < 4 := by omega
    have hX2 := hX.set8 (j := j) ht8 (Or.inr (Or.inl ⟨t, ht8, by omega⟩))
    refine Pr.mk (Q1 := fun x M1 => x = nI 1 ∧ M1 = up (up M 8 t (nI j)) 0 5 (nI 0)) (Sq.mk (k := 3) hD (fun D' hD' => ?_)) ?_
    · refine Lq.of (t_29_0_ok X (callw X D') n tot kn kx _ _ _ M) ?_
      unfold t_29_0
      rw [c_canSet4 (by omega) e20 (by omega), bnd_some, hc2, hc1, Bool.true_and, if_neg (by decide)]
      rw [show callw X D' 28 [.inr (.inl 0), .inl (nI 4), .inl (nI t), .inl (nI j)] (Gk n tot kn kx) M = some (0, Gk n tot kn kx, up M 8 t (nI j)) from ex1 (by omega) (fun cl => t_28_0_ok X cl n tot kn kx _ _ _ M) (fun cl => by
        unfold t_28_0
        simp only [o_nI]
        rw [if_neg (show ¬ nI 4 = nI 0 by decide +kernel)]
        rw [if_neg (show ¬ nI 4 = nI 1 by decide +kernel)]
        rw [if_neg (show ¬ nI 4 = nI 2 by decide +kernel)]
        rw [if_neg (show ¬ nI 4 = nI 3 by decide +kernel)]
        rw [if_pos trivial]
        rw [and3 ht8, inb_nI ht8 (by decide), if_pos rfl, nI_clamp (by omega)]), bnd_some, c_forget (by omega), bnd_some, if_pos (b2i_nrw true), Wq_ret]
      exact ⟨rfl, rfl⟩
    · rintro x M1 ⟨rfl, hM1⟩
      have e9 : M1 179 = M 179 := by rw [hM1, up_ne (by decide), up_ne (by decide)]
      refine Sq.mk (k := 3) hD (fun D' hD' => ?_)
      refine Lq.of (t_33_0_ok X (callw X D') n tot kn kx _ _ _ M1) ?_
      unfold t_33_0
      simp only [o_nI]
      rw [m_in (by omega), bnd_some, show q_in (nI 4) 0 6 = true by decide +kernel, if_neg (by decide), if_neg (show ¬ nI 4 = nI 6 by decide +kernel)]
      rw [show callw X D' 30 [.inl (nI 4)] (Gk n tot kn kx) M1 = some (nI 99, Gk n tot kn kx, M1) from ex1 (by omega) (fun cl => t_30_0_ok X cl n tot kn kx _ M1) (fun cl => by
        unfold t_30_0
        simp only [o_nI]
        rw [if_neg (show ¬ nI 4 = nI 2 by decide +kernel)]; rw [if_neg (show ¬ nI 4 = nI 3 by decide +kernel)]; rw [if_pos trivial]), bnd_some, m_in (by omega), bnd_some]
      rw [hc2, if_neg (by decide)]
      rw [if_neg (by decide +kernel), if_pos trivial, m_isMan (show 2 ≤ D' by omega) (by rw [e9]; exact e96) (by omega), bnd_some, hc1, if_neg (by decide), Wq_jmp]
      refine Lq.of (t_33_60_ok X (callw X D') n tot kn kx _ _ _ M1) ?_
      unfold t_33_60
      simp only [o_nI]
      rw [if_neg (by decide +kernel), if_pos trivial, nI_mul, nI_add, nI_add, inb_nI (by omega) (by decide), if_pos rfl, nI_clamp (by omega), m_forget (by omega), bnd_some, Wq_ret]
      exact ⟨rfl, h.set (c := 8) (i := t) (k := 130 + 2 * t) (v := nI j) (by omega) (by omega) (by rw [hM1, Nat.add_zero]) hX2⟩
theorem c_canSet5 (hD : 2 ≤ D) {v2 v3 : Int32}  : callw X D 27 [.inr (.inl 0), .inl (nI 5), .inl v2, .inl v3] (Gk n tot kn kx) M = some (b2i (true && q_in v3 0 1000), Gk n tot kn kx, M) :=
  exk (k := 1) hD (fun D' hD' => t_27_0_ok X (callw X D') n tot kn kx _ _ _ M) (fun D' hD' => by
    unfold t_27_0
    simp only [o_nI]
    rw [if_neg (show ¬ nI 5 = nI 0 by decide +kernel)]
    rw [if_neg (show ¬ nI 5 = nI 1 by decide +kernel)]
    rw [if_neg (show ¬ nI 5 = nI 2 by decide +kernel)]
    rw [if_neg (show ¬ nI 5 = nI 3 by decide +kernel)]
    rw [if_neg (show ¬ nI 5 = nI 4 by decide +kernel)]
    rw [if_pos trivial]
    rw [c_in (by omega), bnd_some, if_pos (b2i_nrw _), Bool.true_and])
set_option maxHeartbeats 4000000 in
theorem P_set5 (hD : 4 ≤ D) {v2 v3 : Int32} {len s : Nat} (h : Rl kn len s M) : Pr X D 29 33 [.inr (.inl 0), .inl (nI 5), .inl v2, .inl v3] [.inr (.inl 178), .inl (nI 5), .inl v2, .inl v3] (Gk n tot kn kx) M (Rl kn len s) := by
  have hX := h.1.1
  cases hc : true && q_in v3 0 1000 with
  | false =>
    refine Pr.mk (Q1 := fun x M1 => x = nI 0 ∧ M1 = M) (Sq.mk (k := 3) hD (fun D' hD' => ?_)) ?_
    · refine Lq.of (t_29_0_ok X (callw X D') n tot kn kx _ _ _ M) ?_
      unfold t_29_0
      rw [c_canSet5 (by omega), bnd_some, hc, if_pos (by rfl), if_pos (b2i_nrw false), Wq_ret]
      exact ⟨rfl, rfl⟩
    · rintro x M1 ⟨rfl, rfl⟩
      refine Sq.mk (k := 3) hD (fun D' hD' => ?_)
      refine Lq.of (t_33_0_ok X (callw X D') n tot kn kx _ _ _ M1) ?_
      unfold t_33_0
      simp only [o_nI]
      rw [m_in (by omega), bnd_some, show q_in (nI 5) 0 6 = true by decide +kernel, if_neg (by decide), if_neg (show ¬ nI 5 = nI 6 by decide +kernel)]
      rw [show callw X D' 30 [.inl (nI 5)] (Gk n tot kn kx) M1 = some (nI 1000, Gk n tot kn kx, M1) from ex1 (by omega) (fun cl => t_30_0_ok X cl n tot kn kx _ M1) (fun cl => by
        unfold t_30_0
        simp only [o_nI]
        rw [if_neg (show ¬ nI 5 = nI 2 by decide +kernel)]; rw [if_neg (show ¬ nI 5 = nI 3 by decide +kernel)]; rw [if_neg (show ¬ nI 5 = nI 4 by decide +kernel)]; rw [if_pos trivial]), bnd_some, m_in (by omega), bnd_some]
      rw [Bool.true_and] at hc
      rw [hc, if_pos (by rfl), Wq_ret]
      exact ⟨rfl, h⟩
  | true =>
    rw [Bool.and_eq_true] at hc
    obtain ⟨hc1, hc2⟩ := hc
    obtain ⟨j, j1, j2, rfl⟩ := q_in_t (by decide) (by decide) hc2
    have hX2 := hX.cell2 (j := j) (Or.inr (Or.inr (Or.inl ⟨rfl, by omega⟩)))
    refine Pr.mk (Q1 := fun x M1 => x = nI 1 ∧ M1 = up (up M 2 2 (nI j)) 0 5 (nI 0)) (Sq.mk (k := 3) hD (fun D' hD' => ?_)) ?_
    · refine Lq.of (t_29_0_ok X (callw X D') n tot kn kx _ _ _ M) ?_
      unfold t_29_0
      rw [c_canSet5 (by omega), bnd_some, hc2, Bool.true_and, if_neg (by decide)]
      rw [show callw X D' 28 [.inr (.inl 0), .inl (nI 5), .inl v2, .inl (nI j)] (Gk n tot kn kx) M = some (0, Gk n tot kn kx, up M 2 2 (nI j)) from ex1 (by omega) (fun cl => t_28_0_ok X cl n tot kn kx _ _ _ M) (fun cl => by
        unfold t_28_0
        simp only [o_nI]
        rw [if_neg (show ¬ nI 5 = nI 0 by decide +kernel)]
        rw [if_neg (show ¬ nI 5 = nI 1 by decide +kernel)]
        rw [if_neg (show ¬ nI 5 = nI 2 by decide +kernel)]
        rw [if_neg (show ¬ nI 5 = nI 3 by decide +kernel)]
        rw [if_neg (show ¬ nI 5 = nI 4 by decide +kernel)]
        rw [if_pos trivial]
        skip), bnd_some, c_forget (by omega), bnd_some, if_pos (b2i_nrw true), Wq_ret]
      exact ⟨rfl, rfl⟩
    · rintro x M1 ⟨rfl, hM1⟩
      have e9 : M1 179 = M 179 := by rw [hM1, up_ne (by decide), up_ne (by decide)]
      refine Sq.mk (k := 3) hD (fun D' hD' => ?_)
      refine Lq.of (t_33_0_ok X (callw X D') n tot kn kx _ _ _ M1) ?_
      unfold t_33_0
      simp only [o_nI]
      rw [m_in (by omega), bnd_some, show q_in (nI 5) 0 6 = true by decide +kernel, if_neg (by decide), if_neg (show ¬ nI 5 = nI 6 by decide +kernel)]
      rw [show callw X D' 30 [.inl (nI 5)] (Gk n tot kn kx) M1 = some (nI 1000, Gk n tot kn kx, M1) from ex1 (by omega) (fun cl => t_30_0_ok X cl n tot kn kx _ M1) (fun cl => by
        unfold t_30_0
        simp only [o_nI]
        rw [if_neg (show ¬ nI 5 = nI 2 by decide +kernel)]; rw [if_neg (show ¬ nI 5 = nI 3 by decide +kernel)]; rw [if_neg (show ¬ nI 5 = nI 4 by decide +kernel)]; rw [if_pos trivial]), bnd_some, m_in (by omega), bnd_some]
      rw [hc2, if_neg (by decide)]
      rw [if_neg (by decide +kernel), if_neg (by decide +kernel), Wq_jmp]
      refine Lq.of (t_33_60_ok X (callw X D') n tot kn kx _ _ _ M1) ?_
      unfold t_33_60
      simp only [o_nI]
      rw [if_neg (by decide +kernel), if_neg (by decide +kernel), nI_add, nI_sub (by decide), inb_nI (by decide) (by decide), if_pos rfl, nI_clamp (by decide), m_forget (by omega), bnd_some, Wq_ret]
      exact ⟨rfl, h.set (c := 2) (i := 2) (k := 102) (v := nI j) (by omega) (by omega) (by rw [hM1]) hX2⟩
theorem c_canSet6 (hD : 2 ≤ D) {v2 v3 : Int32}  : callw X D 27 [.inr (.inl 0), .inl (nI 6), .inl v2, .inl v3] (Gk n tot kn kx) M = some (b2i (true && q_in v3 1 80), Gk n tot kn kx, M) :=
  exk (k := 1) hD (fun D' hD' => t_27_0_ok X (callw X D') n tot kn kx _ _ _ M) (fun D' hD' => by
    unfold t_27_0
    simp only [o_nI]
    rw [if_neg (show ¬ nI 6 = nI 0 by decide +kernel)]
    rw [if_neg (show ¬ nI 6 = nI 1 by decide +kernel)]
    rw [if_neg (show ¬ nI 6 = nI 2 by decide +kernel)]
    rw [if_neg (show ¬ nI 6 = nI 3 by decide +kernel)]
    rw [if_neg (show ¬ nI 6 = nI 4 by decide +kernel)]
    rw [if_neg (show ¬ nI 6 = nI 5 by decide +kernel)]
    rw [if_pos trivial]
    rw [Bool.true_and]
    unfold q_in
    by_cases h1 : v3 < nI 1
    · rw [if_pos h1, decide_eq_true h1]; rfl
    · rw [if_neg h1, decide_eq_false h1]
      by_cases h2 : nI 80 < v3
      · rw [if_pos h2, decide_eq_true h2]; rfl
      · rw [if_neg h2, decide_eq_false h2]; rfl)
set_option maxHeartbeats 4000000 in
theorem P_set6 (hD : 4 ≤ D) {v2 v3 : Int32} {len s : Nat} (h : Rl kn len s M) : Pr X D 29 33 [.inr (.inl 0), .inl (nI 6), .inl v2, .inl v3] [.inr (.inl 178), .inl (nI 6), .inl v2, .inl v3] (Gk n tot kn kx) M (Rl kn len s) := by
  have hX := h.1.1
  cases hc : true && q_in v3 1 80 with
  | false =>
    refine Pr.mk (Q1 := fun x M1 => x = nI 0 ∧ M1 = M) (Sq.mk (k := 3) hD (fun D' hD' => ?_)) ?_
    · refine Lq.of (t_29_0_ok X (callw X D') n tot kn kx _ _ _ M) ?_
      unfold t_29_0
      rw [c_canSet6 (by omega), bnd_some, hc, if_pos (by rfl), if_pos (b2i_nrw false), Wq_ret]
      exact ⟨rfl, rfl⟩
    · rintro x M1 ⟨rfl, rfl⟩
      refine Sq.mk (k := 3) hD (fun D' hD' => ?_)
      refine Lq.of (t_33_0_ok X (callw X D') n tot kn kx _ _ _ M1) ?_
      unfold t_33_0
      simp only [o_nI]
      rw [m_in (by omega), bnd_some, show q_in (nI 6) 0 6 = true by decide +kernel, if_neg (by decide), if_pos trivial]
      rw [show callw X D' 30 [.inl (nI 6)] (Gk n tot kn kx) M1 = some (nI 80, Gk n tot kn kx, M1) from ex1 (by omega) (fun cl => t_30_0_ok X cl n tot kn kx _ M1) (fun cl => by
        unfold t_30_0
        simp only [o_nI]
        rw [if_neg (show ¬ nI 6 = nI 2 by decide +kernel)]; rw [if_neg (show ¬ nI 6 = nI 3 by decide +kernel)]; rw [if_neg (show ¬ nI 6 = nI 4 by decide +kernel)]; rw [if_neg (show ¬ nI 6 = nI 5 by decide +kernel)]; rw [if_pos trivial]), bnd_some, m_in (by omega), bnd_some]
      rw [Bool.true_and] at hc
      rw [hc, if_pos (by rfl), Wq_ret]
      exact ⟨rfl, h⟩
  | true =>
    rw [Bool.and_eq_true] at hc
    obtain ⟨hc1, hc2⟩ := hc
    obtain ⟨j, j1, j2, rfl⟩ := q_in_t (by decide) (by decide) hc2
    have hX2 := hX.cell3 (j := j) (Or.inr (Or.inr (Or.inr ⟨rfl, by omega⟩)))
    refine Pr.mk (Q1 := fun x M1 => x = nI 1 ∧ M1 = up (up M 2 3 (nI j)) 0 5 (nI 0)) (Sq.mk (k := 3) hD (fun D' hD' => ?_)) ?_
    · refine Lq.of (t_29_0_ok X (callw X D') n tot kn kx _ _ _ M) ?_
      unfold t_29_0
      rw [c_canSet6 (by omega), bnd_some, hc2, Bool.true_and, if_neg (by decide)]
      rw [show callw X D' 28 [.inr (.inl 0), .inl (nI 6), .inl v2, .inl (nI j)] (Gk n tot kn kx) M = some (0, Gk n tot kn kx, up M 2 3 (nI j)) from ex1 (by omega) (fun cl => t_28_0_ok X cl n tot kn kx _ _ _ M) (fun cl => by
        unfold t_28_0
        simp only [o_nI]
        rw [if_neg (show ¬ nI 6 = nI 0 by decide +kernel)]
        rw [if_neg (show ¬ nI 6 = nI 1 by decide +kernel)]
        rw [if_neg (show ¬ nI 6 = nI 2 by decide +kernel)]
        rw [if_neg (show ¬ nI 6 = nI 3 by decide +kernel)]
        rw [if_neg (show ¬ nI 6 = nI 4 by decide +kernel)]
        rw [if_neg (show ¬ nI 6 = nI 5 by decide +kernel)]
        skip), bnd_some, c_forget (by omega), bnd_some, if_pos (b2i_nrw true), Wq_ret]
      exact ⟨rfl, rfl⟩
    · rintro x M1 ⟨rfl, hM1⟩
      have e9 : M1 179 = M 179 := by rw [hM1, up_ne (by decide), up_ne (by decide)]
      refine Sq.mk (k := 3) hD (fun D' hD' => ?_)
      refine Lq.of (t_33_0_ok X (callw X D') n tot kn kx _ _ _ M1) ?_
      unfold t_33_0
      simp only [o_nI]
      rw [m_in (by omega), bnd_some, show q_in (nI 6) 0 6 = true by decide +kernel, if_neg (by decide), if_pos trivial]
      rw [show callw X D' 30 [.inl (nI 6)] (Gk n tot kn kx) M1 = some (nI 80, Gk n tot kn kx, M1) from ex1 (by omega) (fun cl => t_30_0_ok X cl n tot kn kx _ M1) (fun cl => by
        unfold t_30_0
        simp only [o_nI]
        rw [if_neg (show ¬ nI 6 = nI 2 by decide +kernel)]; rw [if_neg (show ¬ nI 6 = nI 3 by decide +kernel)]; rw [if_neg (show ¬ nI 6 = nI 4 by decide +kernel)]; rw [if_neg (show ¬ nI 6 = nI 5 by decide +kernel)]; rw [if_pos trivial]), bnd_some, m_in (by omega), bnd_some]
      rw [hc2, if_neg (by decide)]
      rw [if_neg (by decide +kernel), if_neg (by decide +kernel), Wq_jmp]
      refine Lq.of (t_33_60_ok X (callw X D') n tot kn kx _ _ _ M1) ?_
      unfold t_33_60
      simp only [o_nI]
      rw [if_neg (by decide +kernel), if_neg (by decide +kernel), nI_add, nI_sub (by decide), inb_nI (by decide) (by decide), if_pos rfl, nI_clamp (by decide), m_forget (by omega), bnd_some, Wq_ret]
      exact ⟨rfl, h.set (c := 2) (i := 3) (k := 103) (v := nI j) (by omega) (by omega) (by rw [hM1]) hX2⟩
theorem P_set (hD : 4 ≤ D) {v1 v2 v3 : Int32} {len s : Nat} (h : Rl kn len s M) : Pr X D 29 33 [.inr (.inl 0), .inl v1, .inl v2, .inl v3] [.inr (.inl 178), .inl v1, .inl v2, .inl v3] (Gk n tot kn kx) M (Rl kn len s) := by
  cases hq : q_in v1 0 6 with
  | false => exact P_set_no hD h hq
  | true =>
    obtain ⟨w, _, hw, rfl⟩ := q_in_t (by decide) (by decide) hq
    have : w = 0 ∨ w = 1 ∨ w = 2 ∨ w = 3 ∨ w = 4 ∨ w = 5 ∨ w = 6 := by omega
    rcases this with rfl | rfl | rfl | rfl | rfl | rfl | rfl
    · exact P_set0 hD h
    · exact P_set1 hD h
    · exact P_set2 hD h
    · exact P_set3 hD h
    · exact P_set4 hD h
    · exact P_set5 hD h
    · exact P_set6 hD h
end
