section
-- needs: set
/-! questions at once answered; the tape -/
variable {X : KXw} {n tot kn D : Nat} {kx : Nat → Nat × Nat} {M : MMw}
theorem q_in_no {v : Int32} {a b : Nat} (ha : a < 2 ^ 31) (hb : b < 2 ^ 31) (h : q_in v a b = false) : ∀ k, a ≤ k → k ≤ b → v ≠ nI k := by
  intro k h1 h2 e
  rw [e] at h
  unfold q_in at h
  simp (disch := omega) only [lt_i] at h
  simp at h
  omega
set_option maxHeartbeats 2000000 in
theorem P_look (hD : 2 ≤ D) {v : Int32} {len s : Nat} (h : Rl kn len s M) : Pr X D 310 311 [.inr (.inl 0), .inl v] [.inr (.inl 178), .inl v] (Gk n tot kn kx) M (Rl kn len s) := by
  obtain ⟨b, p, Bs, hb, hp, h3, h6, h8⟩ := h.2.2.1
  have hX := h.1.1
  obtain ⟨⟨⟨c1, c2, c3, c4, _⟩, ⟨g1, g2, _⟩, ⟨r1, _⟩, ⟨l0, _⟩, ⟨l1, _⟩⟩, ⟨m1, m2, m3, m4, _, _, _, _, _, b6⟩, _⟩ := id hX
  cases hq : q_in v 20 23 with
  | true =>
    obtain ⟨j, j1, j2, rfl⟩ := q_in_t (by decide) (by decide) hq
    obtain ⟨i, rfl⟩ : ∃ i, j = 20 + i := ⟨j - 20, by omega⟩
    have hi : i < 4 := by omega
    have e6 : M 16 i = M 179 (4 + i) := by
      have := b6 i hi
      rw [Nat.one_mul] at this
      exact this
    refine Pr.mk (Q1 := fun x M1 => x = M 179 (4 + i) ∧ M1 = M) (Sq.mk (k := 1) hD (fun D' hD' => ?_)) ?_
    · refine Lq.of (t_310_0_ok X (callw X D') n tot kn kx _ M) ?_
      unfold t_310_0
      simp only [o_nI]
      rw [if_neg (by rw [lt_i (by omega) (by omega)]; omega), if_pos (by rw [lt_i (by omega) (by omega)]; omega), nI_sub (by omega), Nat.add_sub_cancel_left, inb_nI hi (by decide), if_pos rfl, nI_clamp (by omega), e6, Wq_ret]
      exact ⟨rfl, rfl⟩
    · rintro x M1 ⟨rfl, rfl⟩
      refine Sq.mk (k := 1) hD (fun D' hD' => ?_)
      refine Lq.of (t_311_0_ok X (callw X D') n tot kn kx _ M1) ?_
      unfold t_311_0
      simp only [o_nI]
      rw [if_neg (show ¬ nI (20 + i) = nI 0 by rw [eq_i (by omega) (by omega)]; omega)]
      rw [if_neg (show ¬ nI (20 + i) = nI 1 by rw [eq_i (by omega) (by omega)]; omega)]
      rw [if_neg (show ¬ nI (20 + i) = nI 2 by rw [eq_i (by omega) (by omega)]; omega)]
      rw [if_neg (show ¬ nI (20 + i) = nI 3 by rw [eq_i (by omega) (by omega)]; omega)]
      rw [if_neg (show ¬ nI (20 + i) = nI 4 by rw [eq_i (by omega) (by omega)]; omega)]
      rw [if_neg (show ¬ nI (20 + i) = nI 5 by rw [eq_i (by omega) (by omega)]; omega)]
      rw [if_neg (show ¬ nI (20 + i) = nI 6 by rw [eq_i (by omega) (by omega)]; omega)]
      rw [if_neg (show ¬ nI (20 + i) = nI 7 by rw [eq_i (by omega) (by omega)]; omega)]
      rw [if_neg (show ¬ nI (20 + i) = nI 8 by rw [eq_i (by omega) (by omega)]; omega)]
      rw [if_neg (show ¬ nI (20 + i) = nI 9 by rw [eq_i (by omega) (by omega)]; omega)]
      rw [if_neg (show ¬ nI (20 + i) = nI 10 by rw [eq_i (by omega) (by omega)]; omega)]
      rw [if_neg (show ¬ nI (20 + i) = nI 11 by rw [eq_i (by omega) (by omega)]; omega)]
      rw [if_neg (show ¬ nI (20 + i) = nI 12 by rw [eq_i (by omega) (by omega)]; omega)]
      rw [if_neg (show ¬ nI (20 + i) = nI 13 by rw [eq_i (by omega) (by omega)]; omega)]
      rw [m_in (by omega), bnd_some, hq, if_neg (by decide), nI_add, nI_sub (by omega), inb_nI (by omega) (by decide), if_pos rfl, nI_clamp (by omega), Wq_ret, show 4 + (20 + i) - 20 = 4 + i by omega]
      exact ⟨rfl, h⟩
  | false =>
    have go : ∀ D', ∀ Q : Int32 → MMw → Prop, Lq X (callw X D') 310 28 [some (.inr (.inl 0)), some (.inl v)] (Gk n tot kn kx) M Q → Lq X (callw X D') 310 0 (cin 310 [.inr (.inl 0), .inl v]) (Gk n tot kn kx) M Q := by
      intro D' Q hL
      refine Lq.of (t_310_0_ok X (callw X D') n tot kn kx _ M) ?_
      unfold t_310_0
      simp only [o_nI]
      by_cases h20 : v < nI 20
      · rw [if_pos h20, Wq_jmp]; exact hL
      · rw [if_neg h20, if_neg (by
          intro h24
          unfold q_in at hq
          rw [decide_eq_false h20] at hq
          have : ¬ nI 23 < v := by
            rw [Int32.lt_iff_toInt_lt] at h24 ⊢
            have e1 : (nI 24).toInt = 24 := by decide +kernel
            have e2 : (nI 23).toInt = 23 := by decide +kernel
            rw [e1] at h24
            rw [e2]
            omega
          rw [decide_eq_false this] at hq
          cases hq), Wq_jmp]
        exact hL
    have e05 : M 0 5 = M 178 4 := by rw [h3.1, h6.1]
    have l0 : M 31 0 = M 179 100 := l0
    have l1 : M 37 0 = M 179 101 := l1
    by_cases v0 : v = nI 0
    · subst v0
      refine Pr.mk (Q1 := fun x M1 => x = M 179 96 ∧ M1 = M) (Sq.mk (k := 1) hD (fun D' hD' => go D' _ ?_)) ?_
      · refine Lq.of (t_310_28_ok X (callw X D') n tot kn kx _ M) ?_
        unfold t_310_28
        simp only [o_nI]
        rw [if_pos trivial, Wq_ret]
        exact ⟨c1, rfl⟩
      · rintro x M1 ⟨rfl, rfl⟩
        refine Sq.mk (k := 1) hD (fun D' hD' => ?_)
        refine Lq.of (t_311_0_ok X (callw X D') n tot kn kx _ M1) ?_
        unfold t_311_0
        simp only [o_nI]
        rw [if_pos trivial, Wq_ret]
        exact ⟨rfl, h⟩
    by_cases v1 : v = nI 1
    · subst v1
      refine Pr.mk (Q1 := fun x M1 => x = M 179 97 ∧ M1 = M) (Sq.mk (k := 1) hD (fun D' hD' => go D' _ ?_)) ?_
      · refine Lq.of (t_310_28_ok X (callw X D') n tot kn kx _ M) ?_
        unfold t_310_28
        simp only [o_nI]
        rw [if_neg (show ¬ nI 1 = nI 0 by decide +kernel)]
        rw [if_pos trivial, Wq_ret]
        exact ⟨c2, rfl⟩
      · rintro x M1 ⟨rfl, rfl⟩
        refine Sq.mk (k := 1) hD (fun D' hD' => ?_)
        refine Lq.of (t_311_0_ok X (callw X D') n tot kn kx _ M1) ?_
        unfold t_311_0
        simp only [o_nI]
        rw [if_neg (show ¬ nI 1 = nI 0 by decide +kernel)]
        rw [if_pos trivial, Wq_ret]
        exact ⟨rfl, h⟩
    by_cases v2 : v = nI 2
    · subst v2
      refine Pr.mk (Q1 := fun x M1 => x = M 179 98 ∧ M1 = M) (Sq.mk (k := 1) hD (fun D' hD' => go D' _ ?_)) ?_
      · refine Lq.of (t_310_28_ok X (callw X D') n tot kn kx _ M) ?_
        unfold t_310_28
        simp only [o_nI]
        rw [if_neg (show ¬ nI 2 = nI 0 by decide +kernel)]
        rw [if_neg (show ¬ nI 2 = nI 1 by decide +kernel)]
        rw [if_pos trivial, Wq_ret]
        exact ⟨g1, rfl⟩
      · rintro x M1 ⟨rfl, rfl⟩
        refine Sq.mk (k := 1) hD (fun D' hD' => ?_)
        refine Lq.of (t_311_0_ok X (callw X D') n tot kn kx _ M1) ?_
        unfold t_311_0
        simp only [o_nI]
        rw [if_neg (show ¬ nI 2 = nI 0 by decide +kernel)]
        rw [if_neg (show ¬ nI 2 = nI 1 by decide +kernel)]
        rw [if_pos trivial, Wq_ret]
        exact ⟨rfl, h⟩
    by_cases v3 : v = nI 3
    · subst v3
      refine Pr.mk (Q1 := fun x M1 => x = M 179 0 ∧ M1 = M) (Sq.mk (k := 1) hD (fun D' hD' => go D' _ ?_)) ?_
      · refine Lq.of (t_310_28_ok X (callw X D') n tot kn kx _ M) ?_
        unfold t_310_28
        simp only [o_nI]
        rw [if_neg (show ¬ nI 3 = nI 0 by decide +kernel)]
        rw [if_neg (show ¬ nI 3 = nI 1 by decide +kernel)]
        rw [if_neg (show ¬ nI 3 = nI 2 by decide +kernel)]
        rw [if_pos trivial, Wq_ret]
        exact ⟨m1, rfl⟩
      · rintro x M1 ⟨rfl, rfl⟩
        refine Sq.mk (k := 1) hD (fun D' hD' => ?_)
        refine Lq.of (t_311_0_ok X (callw X D') n tot kn kx _ M1) ?_
        unfold t_311_0
        simp only [o_nI]
        rw [if_neg (show ¬ nI 3 = nI 0 by decide +kernel)]
        rw [if_neg (show ¬ nI 3 = nI 1 by decide +kernel)]
        rw [if_neg (show ¬ nI 3 = nI 2 by decide +kernel)]
        rw [if_pos trivial, Wq_ret]
        exact ⟨rfl, h⟩
    by_cases v4 : v = nI 4
    · subst v4
      refine Pr.mk (Q1 := fun x M1 => x = M 179 1 ∧ M1 = M) (Sq.mk (k := 1) hD (fun D' hD' => go D' _ ?_)) ?_
      · refine Lq.of (t_310_28_ok X (callw X D') n tot kn kx _ M) ?_
        unfold t_310_28
        simp only [o_nI]
        rw [if_neg (show ¬ nI 4 = nI 0 by decide +kernel)]
        rw [if_neg (show ¬ nI 4 = nI 1 by decide +kernel)]
        rw [if_neg (show ¬ nI 4 = nI 2 by decide +kernel)]
        rw [if_neg (show ¬ nI 4 = nI 3 by decide +kernel)]
        rw [if_pos trivial, Wq_ret]
        exact ⟨m3, rfl⟩
      · rintro x M1 ⟨rfl, rfl⟩
        refine Sq.mk (k := 1) hD (fun D' hD' => ?_)
        refine Lq.of (t_311_0_ok X (callw X D') n tot kn kx _ M1) ?_
        unfold t_311_0
        simp only [o_nI]
        rw [if_neg (show ¬ nI 4 = nI 0 by decide +kernel)]
        rw [if_neg (show ¬ nI 4 = nI 1 by decide +kernel)]
        rw [if_neg (show ¬ nI 4 = nI 2 by decide +kernel)]
        rw [if_neg (show ¬ nI 4 = nI 3 by decide +kernel)]
        rw [if_pos trivial, Wq_ret]
        exact ⟨rfl, h⟩
    by_cases v5 : v = nI 5
    · subst v5
      refine Pr.mk (Q1 := fun x M1 => x = M 179 2 ∧ M1 = M) (Sq.mk (k := 1) hD (fun D' hD' => go D' _ ?_)) ?_
      · refine Lq.of (t_310_28_ok X (callw X D') n tot kn kx _ M) ?_
        unfold t_310_28
        simp only [o_nI]
        rw [if_neg (show ¬ nI 5 = nI 0 by decide +kernel)]
        rw [if_neg (show ¬ nI 5 = nI 1 by decide +kernel)]
        rw [if_neg (show ¬ nI 5 = nI 2 by decide +kernel)]
        rw [if_neg (show ¬ nI 5 = nI 3 by decide +kernel)]
        rw [if_neg (show ¬ nI 5 = nI 4 by decide +kernel)]
        rw [if_pos trivial, Wq_ret]
        exact ⟨m4, rfl⟩
      · rintro x M1 ⟨rfl, rfl⟩
        refine Sq.mk (k := 1) hD (fun D' hD' => ?_)
        refine Lq.of (t_311_0_ok X (callw X D') n tot kn kx _ M1) ?_
        unfold t_311_0
        simp only [o_nI]
        rw [if_neg (show ¬ nI 5 = nI 0 by decide +kernel)]
        rw [if_neg (show ¬ nI 5 = nI 1 by decide +kernel)]
        rw [if_neg (show ¬ nI 5 = nI 2 by decide +kernel)]
        rw [if_neg (show ¬ nI 5 = nI 3 by decide +kernel)]
        rw [if_neg (show ¬ nI 5 = nI 4 by decide +kernel)]
        rw [if_pos trivial, Wq_ret]
        exact ⟨rfl, h⟩
    by_cases v6 : v = nI 6
    · subst v6
      refine Pr.mk (Q1 := fun x M1 => x = M 179 3 ∧ M1 = M) (Sq.mk (k := 1) hD (fun D' hD' => go D' _ ?_)) ?_
      · refine Lq.of (t_310_28_ok X (callw X D') n tot kn kx _ M) ?_
        unfold t_310_28
        simp only [o_nI]
        rw [if_neg (show ¬ nI 6 = nI 0 by decide +kernel)]
        rw [if_neg (show ¬ nI 6 = nI 1 by decide +kernel)]
        rw [if_neg (show ¬ nI 6 = nI 2 by decide +kernel)]
        rw [if_neg (show ¬ nI 6 = nI 3 by decide +kernel)]
        rw [if_neg (show ¬ nI 6 = nI 4 by decide +kernel)]
        rw [if_neg (show ¬ nI 6 = nI 5 by decide +kernel)]
        rw [if_pos trivial, Wq_ret]
        exact ⟨m2, rfl⟩
      · rintro x M1 ⟨rfl, rfl⟩
        refine Sq.mk (k := 1) hD (fun D' hD' => ?_)
        refine Lq.of (t_311_0_ok X (callw X D') n tot kn kx _ M1) ?_
        unfold t_311_0
        simp only [o_nI]
        rw [if_neg (show ¬ nI 6 = nI 0 by decide +kernel)]
        rw [if_neg (show ¬ nI 6 = nI 1 by decide +kernel)]
        rw [if_neg (show ¬ nI 6 = nI 2 by decide +kernel)]
        rw [if_neg (show ¬ nI 6 = nI 3 by decide +kernel)]
        rw [if_neg (show ¬ nI 6 = nI 4 by decide +kernel)]
        rw [if_neg (show ¬ nI 6 = nI 5 by decide +kernel)]
        rw [if_pos trivial, Wq_ret]
        exact ⟨rfl, h⟩
    by_cases v7 : v = nI 7
    · subst v7
      refine Pr.mk (Q1 := fun x M1 => x = M 179 100 ∧ M1 = M) (Sq.mk (k := 1) hD (fun D' hD' => go D' _ ?_)) ?_
      · refine Lq.of (t_310_28_ok X (callw X D') n tot kn kx _ M) ?_
        unfold t_310_28
        simp only [o_nI]
        rw [if_neg (show ¬ nI 7 = nI 0 by decide +kernel)]
        rw [if_neg (show ¬ nI 7 = nI 1 by decide +kernel)]
        rw [if_neg (show ¬ nI 7 = nI 2 by decide +kernel)]
        rw [if_neg (show ¬ nI 7 = nI 3 by decide +kernel)]
        rw [if_neg (show ¬ nI 7 = nI 4 by decide +kernel)]
        rw [if_neg (show ¬ nI 7 = nI 5 by decide +kernel)]
        rw [if_neg (show ¬ nI 7 = nI 6 by decide +kernel)]
        rw [if_pos trivial, Wq_ret]
        exact ⟨l0, rfl⟩
      · rintro x M1 ⟨rfl, rfl⟩
        refine Sq.mk (k := 1) hD (fun D' hD' => ?_)
        refine Lq.of (t_311_0_ok X (callw X D') n tot kn kx _ M1) ?_
        unfold t_311_0
        simp only [o_nI]
        rw [if_neg (show ¬ nI 7 = nI 0 by decide +kernel)]
        rw [if_neg (show ¬ nI 7 = nI 1 by decide +kernel)]
        rw [if_neg (show ¬ nI 7 = nI 2 by decide +kernel)]
        rw [if_neg (show ¬ nI 7 = nI 3 by decide +kernel)]
        rw [if_neg (show ¬ nI 7 = nI 4 by decide +kernel)]
        rw [if_neg (show ¬ nI 7 = nI 5 by decide +kernel)]
        rw [if_neg (show ¬ nI 7 = nI 6 by decide +kernel)]
        rw [if_pos trivial, Wq_ret]
        exact ⟨rfl, h⟩
    by_cases v8 : v = nI 8
    · subst v8
      refine Pr.mk (Q1 := fun x M1 => x = M 179 101 ∧ M1 = M) (Sq.mk (k := 1) hD (fun D' hD' => go D' _ ?_)) ?_
      · refine Lq.of (t_310_28_ok X (callw X D') n tot kn kx _ M) ?_
        unfold t_310_28
        simp only [o_nI]
        rw [if_neg (show ¬ nI 8 = nI 0 by decide +kernel)]
        rw [if_neg (show ¬ nI 8 = nI 1 by decide +kernel)]
        rw [if_neg (show ¬ nI 8 = nI 2 by decide +kernel)]
        rw [if_neg (show ¬ nI 8 = nI 3 by decide +kernel)]
        rw [if_neg (show ¬ nI 8 = nI 4 by decide +kernel)]
        rw [if_neg (show ¬ nI 8 = nI 5 by decide +kernel)]
        rw [if_neg (show ¬ nI 8 = nI 6 by decide +kernel)]
        rw [if_neg (show ¬ nI 8 = nI 7 by decide +kernel)]
        rw [if_pos trivial, Wq_ret]
        exact ⟨l1, rfl⟩
      · rintro x M1 ⟨rfl, rfl⟩
        refine Sq.mk (k := 1) hD (fun D' hD' => ?_)
        refine Lq.of (t_311_0_ok X (callw X D') n tot kn kx _ M1) ?_
        unfold t_311_0
        simp only [o_nI]
        rw [if_neg (show ¬ nI 8 = nI 0 by decide +kernel)]
        rw [if_neg (show ¬ nI 8 = nI 1 by decide +kernel)]
        rw [if_neg (show ¬ nI 8 = nI 2 by decide +kernel)]
        rw [if_neg (show ¬ nI 8 = nI 3 by decide +kernel)]
        rw [if_neg (show ¬ nI 8 = nI 4 by decide +kernel)]
        rw [if_neg (show ¬ nI 8 = nI 5 by decide +kernel)]
        rw [if_neg (show ¬ nI 8 = nI 6 by decide +kernel)]
        rw [if_neg (show ¬ nI 8 = nI 7 by decide +kernel)]
        rw [if_pos trivial, Wq_ret]
        exact ⟨rfl, h⟩
    by_cases v9 : v = nI 9
    · subst v9
      refine Pr.mk (Q1 := fun x M1 => x = M 179 99 ∧ M1 = M) (Sq.mk (k := 1) hD (fun D' hD' => go D' _ ?_)) ?_
      · refine Lq.of (t_310_28_ok X (callw X D') n tot kn kx _ M) ?_
        unfold t_310_28
        simp only [o_nI]
        rw [if_neg (show ¬ nI 9 = nI 0 by decide +kernel)]
        rw [if_neg (show ¬ nI 9 = nI 1 by decide +kernel)]
        rw [if_neg (show ¬ nI 9 = nI 2 by decide +kernel)]
        rw [if_neg (show ¬ nI 9 = nI 3 by decide +kernel)]
        rw [if_neg (show ¬ nI 9 = nI 4 by decide +kernel)]
        rw [if_neg (show ¬ nI 9 = nI 5 by decide +kernel)]
        rw [if_neg (show ¬ nI 9 = nI 6 by decide +kernel)]
        rw [if_neg (show ¬ nI 9 = nI 7 by decide +kernel)]
        rw [if_neg (show ¬ nI 9 = nI 8 by decide +kernel)]
        rw [if_pos trivial, Wq_ret]
        exact ⟨r1, rfl⟩
      · rintro x M1 ⟨rfl, rfl⟩
        refine Sq.mk (k := 1) hD (fun D' hD' => ?_)
        refine Lq.of (t_311_0_ok X (callw X D') n tot kn kx _ M1) ?_
        unfold t_311_0
        simp only [o_nI]
        rw [if_neg (show ¬ nI 9 = nI 0 by decide +kernel)]
        rw [if_neg (show ¬ nI 9 = nI 1 by decide +kernel)]
        rw [if_neg (show ¬ nI 9 = nI 2 by decide +kernel)]
        rw [if_neg (show ¬ nI 9 = nI 3 by decide +kernel)]
        rw [if_neg (show ¬ nI 9 = nI 4 by decide +kernel)]
        rw [if_neg (show ¬ nI 9 = nI 5 by decide +kernel)]
        rw [if_neg (show ¬ nI 9 = nI 6 by decide +kernel)]
        rw [if_neg (show ¬ nI 9 = nI 7 by decide +kernel)]
        rw [if_neg (show ¬ nI 9 = nI 8 by decide +kernel)]
        rw [if_pos trivial, Wq_ret]
        exact ⟨rfl, h⟩
    by_cases v10 : v = nI 10
    · subst v10
      refine Pr.mk (Q1 := fun x M1 => x = M 178 4 ∧ M1 = M) (Sq.mk (k := 1) hD (fun D' hD' => go D' _ ?_)) ?_
      · refine Lq.of (t_310_28_ok X (callw X D') n tot kn kx _ M) ?_
        unfold t_310_28
        simp only [o_nI]
        rw [if_neg (show ¬ nI 10 = nI 0 by decide +kernel)]
        rw [if_neg (show ¬ nI 10 = nI 1 by decide +kernel)]
        rw [if_neg (show ¬ nI 10 = nI 2 by decide +kernel)]
        rw [if_neg (show ¬ nI 10 = nI 3 by decide +kernel)]
        rw [if_neg (show ¬ nI 10 = nI 4 by decide +kernel)]
        rw [if_neg (show ¬ nI 10 = nI 5 by decide +kernel)]
        rw [if_neg (show ¬ nI 10 = nI 6 by decide +kernel)]
        rw [if_neg (show ¬ nI 10 = nI 7 by decide +kernel)]
        rw [if_neg (show ¬ nI 10 = nI 8 by decide +kernel)]
        rw [if_neg (show ¬ nI 10 = nI 9 by decide +kernel)]
        rw [if_pos trivial, Wq_ret]
        exact ⟨e05, rfl⟩
      · rintro x M1 ⟨rfl, rfl⟩
        refine Sq.mk (k := 1) hD (fun D' hD' => ?_)
        refine Lq.of (t_311_0_ok X (callw X D') n tot kn kx _ M1) ?_
        unfold t_311_0
        simp only [o_nI]
        rw [if_neg (show ¬ nI 10 = nI 0 by decide +kernel)]
        rw [if_neg (show ¬ nI 10 = nI 1 by decide +kernel)]
        rw [if_neg (show ¬ nI 10 = nI 2 by decide +kernel)]
        rw [if_neg (show ¬ nI 10 = nI 3 by decide +kernel)]
        rw [if_neg (show ¬ nI 10 = nI 4 by decide +kernel)]
        rw [if_neg (show ¬ nI 10 = nI 5 by decide +kernel)]
        rw [if_neg (show ¬ nI 10 = nI 6 by decide +kernel)]
        rw [if_neg (show ¬ nI 10 = nI 7 by decide +kernel)]
        rw [if_neg (show ¬ nI 10 = nI 8 by decide +kernel)]
        rw [if_neg (show ¬ nI 10 = nI 9 by decide +kernel)]
        rw [if_pos trivial, Wq_ret]
        exact ⟨rfl, h⟩
    by_cases v11 : v = nI 11
    · subst v11
      refine Pr.mk (Q1 := fun x M1 => x = M 179 104 ∧ M1 = M) (Sq.mk (k := 1) hD (fun D' hD' => go D' _ ?_)) ?_
      · refine Lq.of (t_310_28_ok X (callw X D') n tot kn kx _ M) ?_
        unfold t_310_28
        simp only [o_nI]
        rw [if_neg (show ¬ nI 11 = nI 0 by decide +kernel)]
        rw [if_neg (show ¬ nI 11 = nI 1 by decide +kernel)]
        rw [if_neg (show ¬ nI 11 = nI 2 by decide +kernel)]
        rw [if_neg (show ¬ nI 11 = nI 3 by decide +kernel)]
        rw [if_neg (show ¬ nI 11 = nI 4 by decide +kernel)]
        rw [if_neg (show ¬ nI 11 = nI 5 by decide +kernel)]
        rw [if_neg (show ¬ nI 11 = nI 6 by decide +kernel)]
        rw [if_neg (show ¬ nI 11 = nI 7 by decide +kernel)]
        rw [if_neg (show ¬ nI 11 = nI 8 by decide +kernel)]
        rw [if_neg (show ¬ nI 11 = nI 9 by decide +kernel)]
        rw [if_neg (show ¬ nI 11 = nI 10 by decide +kernel)]
        rw [if_pos trivial, Wq_ret]
        exact ⟨g2, rfl⟩
      · rintro x M1 ⟨rfl, rfl⟩
        refine Sq.mk (k := 1) hD (fun D' hD' => ?_)
        refine Lq.of (t_311_0_ok X (callw X D') n tot kn kx _ M1) ?_
        unfold t_311_0
        simp only [o_nI]
        rw [if_neg (show ¬ nI 11 = nI 0 by decide +kernel)]
        rw [if_neg (show ¬ nI 11 = nI 1 by decide +kernel)]
        rw [if_neg (show ¬ nI 11 = nI 2 by decide +kernel)]
        rw [if_neg (show ¬ nI 11 = nI 3 by decide +kernel)]
        rw [if_neg (show ¬ nI 11 = nI 4 by decide +kernel)]
        rw [if_neg (show ¬ nI 11 = nI 5 by decide +kernel)]
        rw [if_neg (show ¬ nI 11 = nI 6 by decide +kernel)]
        rw [if_neg (show ¬ nI 11 = nI 7 by decide +kernel)]
        rw [if_neg (show ¬ nI 11 = nI 8 by decide +kernel)]
        rw [if_neg (show ¬ nI 11 = nI 9 by decide +kernel)]
        rw [if_neg (show ¬ nI 11 = nI 10 by decide +kernel)]
        rw [if_pos trivial, Wq_ret]
        exact ⟨rfl, h⟩
    by_cases v12 : v = nI 12
    · subst v12
      refine Pr.mk (Q1 := fun x M1 => x = M 179 102 ∧ M1 = M) (Sq.mk (k := 1) hD (fun D' hD' => go D' _ ?_)) ?_
      · refine Lq.of (t_310_28_ok X (callw X D') n tot kn kx _ M) ?_
        unfold t_310_28
        simp only [o_nI]
        rw [if_neg (show ¬ nI 12 = nI 0 by decide +kernel)]
        rw [if_neg (show ¬ nI 12 = nI 1 by decide +kernel)]
        rw [if_neg (show ¬ nI 12 = nI 2 by decide +kernel)]
        rw [if_neg (show ¬ nI 12 = nI 3 by decide +kernel)]
        rw [if_neg (show ¬ nI 12 = nI 4 by decide +kernel)]
        rw [if_neg (show ¬ nI 12 = nI 5 by decide +kernel)]
        rw [if_neg (show ¬ nI 12 = nI 6 by decide +kernel)]
        rw [if_neg (show ¬ nI 12 = nI 7 by decide +kernel)]
        rw [if_neg (show ¬ nI 12 = nI 8 by decide +kernel)]
        rw [if_neg (show ¬ nI 12 = nI 9 by decide +kernel)]
        rw [if_neg (show ¬ nI 12 = nI 10 by decide +kernel)]
        rw [if_neg (show ¬ nI 12 = nI 11 by decide +kernel)]
        rw [if_pos trivial, Wq_ret]
        exact ⟨c3, rfl⟩
      · rintro x M1 ⟨rfl, rfl⟩
        refine Sq.mk (k := 1) hD (fun D' hD' => ?_)
        refine Lq.of (t_311_0_ok X (callw X D') n tot kn kx _ M1) ?_
        unfold t_311_0
        simp only [o_nI]
        rw [if_neg (show ¬ nI 12 = nI 0 by decide +kernel)]
        rw [if_neg (show ¬ nI 12 = nI 1 by decide +kernel)]
        rw [if_neg (show ¬ nI 12 = nI 2 by decide +kernel)]
        rw [if_neg (show ¬ nI 12 = nI 3 by decide +kernel)]
        rw [if_neg (show ¬ nI 12 = nI 4 by decide +kernel)]
        rw [if_neg (show ¬ nI 12 = nI 5 by decide +kernel)]
        rw [if_neg (show ¬ nI 12 = nI 6 by decide +kernel)]
        rw [if_neg (show ¬ nI 12 = nI 7 by decide +kernel)]
        rw [if_neg (show ¬ nI 12 = nI 8 by decide +kernel)]
        rw [if_neg (show ¬ nI 12 = nI 9 by decide +kernel)]
        rw [if_neg (show ¬ nI 12 = nI 10 by decide +kernel)]
        rw [if_neg (show ¬ nI 12 = nI 11 by decide +kernel)]
        rw [if_pos trivial, Wq_ret]
        exact ⟨rfl, h⟩
    by_cases v13 : v = nI 13
    · subst v13
      refine Pr.mk (Q1 := fun x M1 => x = M 179 103 ∧ M1 = M) (Sq.mk (k := 1) hD (fun D' hD' => go D' _ ?_)) ?_
      · refine Lq.of (t_310_28_ok X (callw X D') n tot kn kx _ M) ?_
        unfold t_310_28
        simp only [o_nI]
        rw [if_neg (show ¬ nI 13 = nI 0 by decide +kernel)]
        rw [if_neg (show ¬ nI 13 = nI 1 by decide +kernel)]
        rw [if_neg (show ¬ nI 13 = nI 2 by decide +kernel)]
        rw [if_neg (show ¬ nI 13 = nI 3 by decide +kernel)]
        rw [if_neg (show ¬ nI 13 = nI 4 by decide +kernel)]
        rw [if_neg (show ¬ nI 13 = nI 5 by decide +kernel)]
        rw [if_neg (show ¬ nI 13 = nI 6 by decide +kernel)]
        rw [if_neg (show ¬ nI 13 = nI 7 by decide +kernel)]
        rw [if_neg (show ¬ nI 13 = nI 8 by decide +kernel)]
        rw [if_neg (show ¬ nI 13 = nI 9 by decide +kernel)]
        rw [if_neg (show ¬ nI 13 = nI 10 by decide +kernel)]
        rw [if_neg (show ¬ nI 13 = nI 11 by decide +kernel)]
        rw [if_neg (show ¬ nI 13 = nI 12 by decide +kernel)]
        rw [if_pos trivial, Wq_ret]
        exact ⟨c4, rfl⟩
      · rintro x M1 ⟨rfl, rfl⟩
        refine Sq.mk (k := 1) hD (fun D' hD' => ?_)
        refine Lq.of (t_311_0_ok X (callw X D') n tot kn kx _ M1) ?_
        unfold t_311_0
        simp only [o_nI]
        rw [if_neg (show ¬ nI 13 = nI 0 by decide +kernel)]
        rw [if_neg (show ¬ nI 13 = nI 1 by decide +kernel)]
        rw [if_neg (show ¬ nI 13 = nI 2 by decide +kernel)]
        rw [if_neg (show ¬ nI 13 = nI 3 by decide +kernel)]
        rw [if_neg (show ¬ nI 13 = nI 4 by decide +kernel)]
        rw [if_neg (show ¬ nI 13 = nI 5 by decide +kernel)]
        rw [if_neg (show ¬ nI 13 = nI 6 by decide +kernel)]
        rw [if_neg (show ¬ nI 13 = nI 7 by decide +kernel)]
        rw [if_neg (show ¬ nI 13 = nI 8 by decide +kernel)]
        rw [if_neg (show ¬ nI 13 = nI 9 by decide +kernel)]
        rw [if_neg (show ¬ nI 13 = nI 10 by decide +kernel)]
        rw [if_neg (show ¬ nI 13 = nI 11 by decide +kernel)]
        rw [if_neg (show ¬ nI 13 = nI 12 by decide +kernel)]
        rw [if_pos trivial, Wq_ret]
        exact ⟨rfl, h⟩
    refine Pr.mk (Q1 := fun x M1 => x = -1 ∧ M1 = M) (Sq.mk (k := 1) hD (fun D' hD' => go D' _ ?_)) ?_
    · refine Lq.of (t_310_28_ok X (callw X D') n tot kn kx _ M) ?_
      unfold t_310_28
      simp only [o_nI, m1n]
      rw [if_neg v0, if_neg v1, if_neg v2, if_neg v3, if_neg v4, if_neg v5, if_neg v6, if_neg v7, if_neg v8, if_neg v9, if_neg v10, if_neg v11, if_neg v12, if_neg v13, Wq_ret]
      exact ⟨rfl, rfl⟩
    · rintro x M1 ⟨rfl, rfl⟩
      refine Sq.mk (k := 1) hD (fun D' hD' => ?_)
      refine Lq.of (t_311_0_ok X (callw X D') n tot kn kx _ M1) ?_
      unfold t_311_0
      simp only [o_nI, m1n]
      rw [if_neg v0, if_neg v1, if_neg v2, if_neg v3, if_neg v4, if_neg v5, if_neg v6, if_neg v7, if_neg v8, if_neg v9, if_neg v10, if_neg v11, if_neg v12, if_neg v13, m_in (by omega), bnd_some, hq, if_pos (by rfl), Wq_ret]
      exact ⟨rfl, h⟩
theorem P_book (hD : 2 ≤ D) {v v2 : Int32} {len s : Nat} (h : Rl kn len s M) : Pr X D 224 225 [.inr (.inl 0), .inl v, .inl v2] [.inr (.inl 178), .inl v, .inl v2] (Gk n tot kn kx) M (Rl kn len s) := by
  have hX := h.1.1
  have hB := hX.2.2.2.1
  have e9 : M 10 9 = M 179 2 := hX.2.1.2.2.2.1
  obtain ⟨B, hBe⟩ : ∃ B, q_n (M 179) 2 = B := ⟨_, rfl⟩
  have hB1 := hB.1; have hB2 := hB.2
  rw [hBe] at hB1 hB2
  cases hq : q_is v B with
  | false =>
    refine Pr.mk (Q1 := fun x M1 => x = -1 ∧ M1 = M) (Sq.mk (k := 1) hD (fun D' hD' => ?_)) ?_
    · refine Lq.of (t_224_0_ok X (callw X D') n tot kn kx _ _ M) ?_
      unfold t_224_0
      simp only [o_nI, m1n]
      rw [e9, hB1]
      by_cases h0 : v < nI 0
      · rw [if_pos (show v < 0 from h0), Wq_ret]; exact ⟨rfl, rfl⟩
      · rw [if_neg (show ¬ v < 0 from h0)]
        by_cases h1 : v < nI B
        · exfalso
          unfold q_is at hq
          rw [decide_eq_false h0, decide_eq_true h1] at hq
          cases hq
        · rw [if_neg h1, Wq_ret]; exact ⟨rfl, rfl⟩
    · rintro x M1 ⟨rfl, rfl⟩
      refine Sq.mk (k := 1) hD (fun D' hD' => ?_)
      refine Lq.of (t_225_0_ok X (callw X D') n tot kn kx _ _ M1) ?_
      unfold t_225_0
      simp only [o_nI, m1n]
      rw [hB1, m_is (by omega) (by omega), bnd_some, hq, if_pos (by rfl), Wq_ret]
      exact ⟨rfl, h⟩
  | true =>
    obtain ⟨i, hi, rfl⟩ := q_is_t (by omega) hq
    have c0 : ¬ nI i < (0 : Int32) := by rw [z_nI, lt_i (by omega) (by omega)]; omega
    have c1 : nI i < nI B := by rw [lt_i (by omega) (by omega)]; exact hi
    have c2 : nI i < nI 200 := by rw [lt_i (by omega) (by omega)]; omega
    cases hq2 : q_in v2 0 3 with
    | false =>
      refine Pr.mk (Q1 := fun x M1 => x = -1 ∧ M1 = M) (Sq.mk (k := 1) hD (fun D' hD' => ?_)) ?_
      · refine Lq.of (t_224_0_ok X (callw X D') n tot kn kx _ _ M) ?_
        unfold t_224_0
        simp only [o_nI, m1n]
        rw [e9, hB1, if_neg c0, if_pos c1, if_pos c2, c_in (by omega), bnd_some, hq2, if_pos (by rfl), Wq_ret]
        exact ⟨rfl, rfl⟩
      · rintro x M1 ⟨rfl, rfl⟩
        refine Sq.mk (k := 1) hD (fun D' hD' => ?_)
        refine Lq.of (t_225_0_ok X (callw X D') n tot kn kx _ _ M1) ?_
        unfold t_225_0
        simp only [o_nI, m1n]
        rw [hB1, m_is (by omega) (by omega), bnd_some, hq, if_neg (by decide), m_in (by omega), bnd_some, hq2, if_pos (by rfl), Wq_ret]
        exact ⟨rfl, h⟩
    | true =>
      obtain ⟨j, _, hj, rfl⟩ := q_in_t (by decide) (by decide) hq2
      refine Pr.mk (Q1 := fun x M1 => x = M 179 (2034 + 4 * i + j) ∧ M1 = M) (Sq.mk (k := 1) hD (fun D' hD' => ?_)) ?_
      · refine Lq.of (t_224_0_ok X (callw X D') n tot kn kx _ _ M) ?_
        unfold t_224_0
        simp only [o_nI, m1n]
        rw [e9, hB1, if_neg c0, if_pos c1, if_pos c2, c_in (by omega), bnd_some, hq2, if_neg (by decide), nI_mul, nI_add, inb_nI (by omega) (by decide), if_pos rfl, nI_clamp (by omega), Wq_ret]
        refine ⟨?_, rfl⟩
        rw [h.1.2 (4 * i + j) (by omega), Nat.one_mul, Nat.add_assoc]
      · rintro x M1 ⟨rfl, rfl⟩
        refine Sq.mk (k := 1) hD (fun D' hD' => ?_)
        refine Lq.of (t_225_0_ok X (callw X D') n tot kn kx _ _ M1) ?_
        unfold t_225_0
        simp only [o_nI, m1n]
        rw [hB1, m_is (by omega) (by omega), bnd_some, hq, if_neg (by decide), m_in (by omega), bnd_some, hq2, if_neg (by decide), nI_mul, nI_add, nI_add, inb_nI (by omega) (by decide), if_pos rfl, nI_clamp (by omega), Wq_ret]
        exact ⟨rfl, h⟩
theorem P_fault (hD : 1 ≤ D) {v : Int32} {len s : Nat} (h : Rl kn len s M) : Pr X D 178 179 [.inr (.inl 0), .inl v] [.inr (.inl 178), .inl v] (Gk n tot kn kx) M (Rl kn len s) := by
  obtain ⟨t2, t3, _⟩ := h.2.2.2.1
  refine Pr.mk (Q1 := fun x M1 => x = (if v = nI 0 then M 178 23 else if v = nI 1 then M 178 25 else -1) ∧ M1 = M) (Sq.mk (k := 0) hD (fun D' hD' => ?_)) ?_
  · refine Lq.of (t_178_0_ok X (callw X D') n tot kn kx _ M) ?_
    unfold t_178_0
    simp only [o_nI, m1n]
    by_cases h0 : v = nI 0
    · rw [if_pos h0, if_pos h0, Wq_ret]; exact ⟨t2, rfl⟩
    · rw [if_neg h0, if_neg h0]
      by_cases h1 : v = nI 1
      · rw [if_pos h1, if_pos h1, Wq_ret]; exact ⟨t3, rfl⟩
      · rw [if_neg h1, if_neg h1, Wq_ret]; exact ⟨rfl, rfl⟩
  · rintro x M1 ⟨rfl, rfl⟩
    refine Sq.mk (k := 0) hD (fun D' hD' => ?_)
    refine Lq.of (t_179_0_ok X (callw X D') n tot kn kx _ M1) ?_
    unfold t_179_0
    simp only [o_nI, m1n, z_nI]
    by_cases h0 : v = nI 0
    · rw [if_pos h0, if_pos h0, Wq_ret]; exact ⟨rfl, h⟩
    · rw [if_neg h0, if_neg h0]
      by_cases h1 : v = nI 1
      · rw [if_pos h1, if_pos h1, Wq_ret]; exact ⟨rfl, h⟩
      · rw [if_neg h1, if_neg h1, Wq_ret]; exact ⟨rfl, h⟩
/-- what every question about a tool and a man begins with -/
theorem P_serves (hD : 7 ≤ D) {v1 v2 : Int32} {len s : Nat} (h : Rl kn len s M) : Pr X D 220 221 [.inr (.inl 0), .inl v1, .inl v2] [.inr (.inl 178), .inl v1, .inl v2] (Gk n tot kn kx) M (Rl kn len s) := by
  have hX := h.1.1
  obtain ⟨T, hT⟩ : ∃ T, q_n (M 179) 96 = T := ⟨_, rfl⟩
  obtain ⟨N, hN⟩ : ∃ N, q_n (M 179) 97 = N := ⟨_, rfl⟩
  obtain ⟨w1, w2⟩ := hX.2.2.1.1.1
  obtain ⟨w3, w4⟩ := hX.2.2.1.1.2.1
  rw [hT] at w1 w2; rw [hN] at w3 w4
  have e20 : M 2 0 = nI T := by rw [hX.1.1.1]; exact w1
  have e21 : M 2 1 = nI N := by rw [hX.1.1.2.1]; exact w3
  have bad : (q_is v1 T && q_is v2 N) = false → Pr X D 220 221 [.inr (.inl 0), .inl v1, .inl v2] [.inr (.inl 178), .inl v1, .inl v2] (Gk n tot kn kx) M (Rl kn len s) := by
    intro hq
    refine Pr.mk (Q1 := fun x M1 => x = -1 ∧ M1 = M) (Sq.mk (k := 6) hD (fun D' hD' => ?_)) ?_
    · refine Lq.of (t_220_0_ok X (callw X D') n tot kn kx _ _ M) ?_
      unfold t_220_0
      simp only [o_nI, m1n]
      rw [c_isTool (by omega) e20 (by omega), bnd_some]
      cases q1 : q_is v1 T with
      | false => rw [if_pos (by rfl), Wq_ret]; exact ⟨rfl, rfl⟩
      | true =>
        rw [q1, Bool.true_and] at hq
        rw [if_neg (by decide), c_isMan (by omega) e21 (by omega), bnd_some, hq, if_pos (by rfl), Wq_ret]
        exact ⟨rfl, rfl⟩
    · rintro x M1 ⟨rfl, rfl⟩
      refine Sq.mk (k := 6) hD (fun D' hD' => ?_)
      refine Lq.of (t_221_0_ok X (callw X D') n tot kn kx _ _ M1) ?_
      unfold t_221_0
      simp only [o_nI, m1n]
      rw [m_isTool (by omega) w1 (by omega), bnd_some]
      cases q1 : q_is v1 T with
      | false => rw [if_pos (by rfl), Wq_ret]; exact ⟨rfl, h⟩
      | true =>
        rw [q1, Bool.true_and] at hq
        rw [if_neg (by decide), m_isMan (by omega) w3 (by omega), bnd_some, hq, if_pos (by rfl), Wq_ret]
        exact ⟨rfl, h⟩
  cases q1 : q_is v1 T with
  | false => exact bad (by rw [q1]; rfl)
  | true =>
  cases q2 : q_is v2 N with
  | false => exact bad (by rw [q1, q2]; rfl)
  | true =>
  obtain ⟨t, ht, rfl⟩ := q_is_t (by omega) q1
  obtain ⟨m, hm, rfl⟩ := q_is_t (by omega) q2
  refine Pr.mk (Q1 := fun x M1 => x = b2i (q_serve (M 179) t m) ∧ Fr [121, 122] M M1) (Sq.mk (k := 6) hD (fun D' hD' => ?_)) ?_
  · refine Lq.of (t_220_0_ok X (callw X D') n tot kn kx _ _ M) ?_
    unfold t_220_0
    simp only [o_nI, m1n]
    rw [c_isTool (by omega) e20 (by omega), bnd_some, q1, if_neg (by decide), c_isMan (by omega) e21 (by omega), bnd_some, q2, if_neg (by decide)]
    refine Wq.call (c_serve10 (show 4 ≤ D' by omega) (show t < 8 by omega) (show m < 4 by omega) hX) ?_
    rintro x M1 ⟨rfl, hf⟩
    cases q_serve (M 179) t m with
    | false => rw [if_pos (by rfl), Wq_ret]; exact ⟨rfl, hf⟩
    | true => rw [if_neg (by decide), Wq_ret]; exact ⟨rfl, hf⟩
  · rintro x M1 ⟨rfl, hf⟩
    have e9 : M1 179 = M 179 := hf 179 (by decide)
    refine Sq.mk (k := 6) hD (fun D' hD' => ?_)
    refine Lq.of (t_221_0_ok X (callw X D') n tot kn kx _ _ M1) ?_
    unfold t_221_0
    simp only [o_nI, m1n]
    rw [m_isTool (by omega) (by rw [e9]; exact w1) (by omega), bnd_some, q1, if_neg (by decide), m_isMan (by omega) (by rw [e9]; exact w3) (by omega), bnd_some, q2, if_neg (by decide)]
    refine Wq.call (m_serve (show 6 ≤ D' by omega) (show t < 8 by omega) (show m < 4 by omega) (by rw [e9]; exact hX.1.2.2.2.1.2.2) (by rw [e9]; exact (hX.2.2.1.2.2.2.1 t (by omega)).1)) ?_
    rintro x M2 ⟨rfl, hf2⟩
    have hR : Rl kn len s M2 := h.ask (L := [121, 122, 187, 188]) ((hf.mono (by decide)).tr (hf2.mono (by decide))) (by decide)
    rw [e9]
    cases q_serve (M 179) t m with
    | false => rw [if_pos (by rfl), Wq_ret]; exact ⟨rfl, hR⟩
    | true => rw [if_neg (by decide), Wq_ret]; exact ⟨rfl, hR⟩
theorem P_tells (hD : 7 ≤ D) {v1 v2 v3 : Int32} {len s : Nat} (h : Rl kn len s M) : Pr X D 222 223 [.inr (.inl 0), .inl v1, .inl v2, .inl v3] [.inr (.inl 178), .inl v1, .inl v2, .inl v3] (Gk n tot kn kx) M (Rl kn len s) := by
  have hX := h.1.1
  obtain ⟨T, hT⟩ : ∃ T, q_n (M 179) 96 = T := ⟨_, rfl⟩
  obtain ⟨N, hN⟩ : ∃ N, q_n (M 179) 97 = N := ⟨_, rfl⟩
  obtain ⟨w1, w2⟩ := hX.2.2.1.1.1
  obtain ⟨w3, w4⟩ := hX.2.2.1.1.2.1
  rw [hT] at w1 w2; rw [hN] at w3 w4
  have e20 : M 2 0 = nI T := by rw [hX.1.1.1]; exact w1
  have e21 : M 2 1 = nI N := by rw [hX.1.1.2.1]; exact w3
  have bad : (q_is v1 T && (q_is v2 N && q_in v3 0 2)) = false → Pr X D 222 223 [.inr (.inl 0), .inl v1, .inl v2, .inl v3] [.inr (.inl 178), .inl v1, .inl v2, .inl v3] (Gk n tot kn kx) M (Rl kn len s) := by
    intro hq
    refine Pr.mk (Q1 := fun x M1 => x = nI 4294966296 ∧ M1 = M) (Sq.mk (k := 6) hD (fun D' hD' => ?_)) ?_
    · refine Lq.of (t_222_0_ok X (callw X D') n tot kn kx _ _ _ M) ?_
      unfold t_222_0
      simp only [o_nI]
      rw [c_isTool (by omega) e20 (by omega), bnd_some]
      cases q1 : q_is v1 T with
      | false => rw [if_pos (by rfl), Wq_ret]; exact ⟨rfl, rfl⟩
      | true =>
        rw [q1, Bool.true_and] at hq
        rw [if_neg (by decide), c_isMan (by omega) e21 (by omega), bnd_some]
        cases q2 : q_is v2 N with
        | false => rw [if_pos (by rfl), Wq_ret]; exact ⟨rfl, rfl⟩
        | true =>
          rw [q2, Bool.true_and] at hq
          rw [if_neg (by decide), c_in (by omega), bnd_some, hq, if_pos (by rfl), Wq_ret]
          exact ⟨rfl, rfl⟩
    · rintro x M1 ⟨rfl, rfl⟩
      refine Sq.mk (k := 6) hD (fun D' hD' => ?_)
      refine Lq.of (t_223_0_ok X (callw X D') n tot kn kx _ _ _ M1) ?_
      unfold t_223_0
      simp only [o_nI]
      rw [m_isTool (by omega) w1 (by omega), bnd_some]
      cases q1 : q_is v1 T with
      | false => rw [if_pos (by rfl), Wq_ret]; exact ⟨rfl, h⟩
      | true =>
        rw [q1, Bool.true_and] at hq
        rw [if_neg (by decide), m_isMan (by omega) w3 (by omega), bnd_some]
        cases q2 : q_is v2 N with
        | false => rw [if_pos (by rfl), Wq_ret]; exact ⟨rfl, h⟩
        | true =>
          rw [q2, Bool.true_and] at hq
          rw [if_neg (by decide), m_in (by omega), bnd_some, hq, if_pos (by rfl), Wq_ret]
          exact ⟨rfl, h⟩
  cases q1 : q_is v1 T with
  | false => exact bad (by rw [q1]; rfl)
  | true =>
  cases q2 : q_is v2 N with
  | false => exact bad (by rw [q1, q2]; rfl)
  | true =>
  cases q3 : q_in v3 0 2 with
  | false => exact bad (by rw [q1, q2, q3]; rfl)
  | true =>
  obtain ⟨t, ht, rfl⟩ := q_is_t (by omega) q1
  obtain ⟨m, hm, rfl⟩ := q_is_t (by omega) q2
  obtain ⟨w, _, hw, rfl⟩ := q_in_t (by decide) (by decide) q3
  refine Pr.mk (Q1 := fun x M1 => x = q_tell (M 179) t m w ∧ Fr [121, 122] M M1) (Sq.mk (k := 6) hD (fun D' hD' => ?_)) ?_
  · refine Lq.of (t_222_0_ok X (callw X D') n tot kn kx _ _ _ M) ?_
    unfold t_222_0
    simp only [o_nI]
    rw [c_isTool (by omega) e20 (by omega), bnd_some, q1, if_neg (by decide), c_isMan (by omega) e21 (by omega), bnd_some, q2, if_neg (by decide), c_in (by omega), bnd_some, q3, if_neg (by decide)]
    refine Wq.call (c_tell10 (show 3 ≤ D' by omega) (show t < 8 by omega) (show m < 4 by omega) (show w < 3 by omega) hX) ?_
    rintro x M1 hf
    rw [Wq_ret]
    exact hf
  · rintro x M1 ⟨rfl, hf⟩
    have e9 : M1 179 = M 179 := hf 179 (by decide)
    have hl : q_law (M1 179) 1 (M (1 + 36 + 5)) := by rw [e9]; exact hX.1.2.2.2.2.2.2
    refine Sq.mk (k := 6) hD (fun D' hD' => ?_)
    refine Lq.of (t_223_0_ok X (callw X D') n tot kn kx _ _ _ M1) ?_
    unfold t_223_0
    simp only [o_nI, z_nI]
    rw [m_isTool (by omega) (by rw [e9]; exact w1) (by omega), bnd_some, q1]
    simp only [b2i_0, reduceCtorEq, ↓reduceIte, Bool.true_eq_false]
    rw [m_isMan (by omega) (by rw [e9]; exact w3) (by omega), bnd_some, q2]
    simp only [b2i_0, reduceCtorEq, ↓reduceIte, Bool.true_eq_false]
    rw [m_in (by omega), bnd_some, q3]
    simp only [b2i_0, reduceCtorEq, ↓reduceIte, Bool.true_eq_false]
    have fin : ∀ (y : Int32) M2, (y = q_tell (M1 179) t m w ∧ Fr [187, 188] M1 M2) → y = q_tell (M 179) t m w ∧ Rl kn len s M2 := by
      rintro y M2 ⟨hy, hf2⟩
      rw [e9] at hy
      exact ⟨hy, h.ask (L := [121, 122, 187, 188]) ((hf.mono (by decide)).tr (hf2.mono (by decide))) (by decide)⟩
    have h3 : w = 0 ∨ w = 1 ∨ w = 2 := by omega
    rcases h3 with rfl | rfl | rfl
    · rw [if_pos rfl]
      refine Wq.call (m_wear (show 5 ≤ D' by omega) (show t < 8 by omega) (show m < 4 by omega) hl) ?_
      rintro y M2 hy
      rw [Wq_ret]; exact fin y M2 hy
    · rw [if_neg (by decide +kernel), if_pos rfl]
      refine Wq.call (m_mood (show 5 ≤ D' by omega) (show t < 8 by omega) (show m < 4 by omega) hl) ?_
      rintro y M2 hy
      rw [Wq_ret]; exact fin y M2 hy
    · rw [if_neg (by decide +kernel), if_neg (by decide +kernel)]
      refine Wq.call (m_like (show 5 ≤ D' by omega) (show t < 8 by omega) (show m < 4 by omega) hl) ?_
      rintro y M2 hy
      rw [Wq_ret]; exact fin y M2 hy
end
