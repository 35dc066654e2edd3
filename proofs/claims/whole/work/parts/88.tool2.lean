section
-- needs: tool
/-! tool, man, set: the calls -/
variable {X : KXw} {n tot kn D : Nat} {kx : Nat → Nat × Nat} {M : MMw}
theorem c_mbegin (hD : 1 ≤ D) {t : Nat} (ht : t < 8) : callw X D 18 [.inr (.inl 10), .inl (nI t)] (Gk n tot kn kx) M = some (0, Gk n tot kn kx, up (up (up (up M 11 t (nI 60)) 12 t (nI 50)) 13 t (nI 0)) 14 t (nI 0)) :=
  ex1 hD (fun cl => t_18_p10_0_ok X cl n tot kn kx _ M) (fun cl => by
    unfold t_18_p10_0
    simp (disch := omega) only [m1_nI, m1n, o_nI, z_nI, i1_nI, im1_nI, bnd_some, Wq_ret, Wq_jmp, up_ne, up_at, upW_s, upW_n, inb_nI, nI_clamp, ↓reduceIte, b2i_0, reduceCtorEq, Bool.true_eq_false, Bool.false_eq_true])
theorem b0 : (b2i false = 0) = True := eq_true rfl
theorem b1 : (b2i true = 0) = False := eq_false (by decide)
set_option maxHeartbeats 4000000 in
theorem P_tool (hD : 2 ≤ D) {v1 v2 v3 : Int32} {len s : Nat} (h : Rl kn len s M) : Pr X D 19 22 [.inr (.inl 0), .inl v1, .inl v2, .inl v3] [.inr (.inl 178), .inl v1, .inl v2, .inl v3] (Gk n tot kn kx) M (Rl kn len s) := by
  have hX := h.1.1
  have h96 := hX.2.2.1.1.1; have h96' := h96.2
  have e20 : M 2 0 = nI (q_n (M 179) 96) := by rw [hX.1.1.1]; exact h96.1
  obtain ⟨T, hT⟩ : ∃ T, q_n (M 179) 96 = T := ⟨_, rfl⟩
  have e96 : M 179 96 = nI T := by rw [← hT]; exact h96.1
  rw [hT] at e20 h96'
  by_cases ok : T < 8 ∧ q_in v1 0 3 = true ∧ q_in v2 0 3 = true ∧ q_in v3 0 1 = true
  · obtain ⟨h8, o1, o2, o3⟩ := ok
    obtain ⟨a1, _, g1, rfl⟩ := q_in_t (by decide) (by decide) o1
    obtain ⟨a2, _, g2, rfl⟩ := q_in_t (by decide) (by decide) o2
    obtain ⟨a3, _, g3, rfl⟩ := q_in_t (by decide) (by decide) o3
    refine Pr.mk (Q1 := fun x M1 => x = nI T ∧ M1 = up (up (up (up (up (up (up (up (up (up (up M 3 T (nI a1)) 4 T (nI a2)) 5 T (nI a3)) 6 T (nI 1)) 7 T (nI 7)) 2 0 (nI (T + 1))) 11 T (nI 60)) 12 T (nI 50)) 13 T (nI 0)) 14 T (nI 0)) 0 5 (nI 0)) (Sq.mk (k := 1) hD (fun D' hD' => ?_)) ?_
    · refine Lq.of (t_19_0_ok X (callw X D') n tot kn kx _ _ _ M) ?_
      unfold t_19_0
      simp (disch := omega) only [Nat.one_mul, m1_nI, m1n, o_nI, z_nI, i1_nI, im1_nI, nI_add, nI_mul, lt_i, eq_i, inb_nI, ↓reduceIte, nI_clamp, bnd_some, b2i_0, b2i_1, b2i_t, b2i_f, Wq_ret, Wq_jmp, up_ne, up_at, upW_s, upW_n, Nat.reduceAdd, Nat.reduceMul, Nat.reduceLT, Nat.reduceEqDiff, Nat.add_zero, Nat.zero_add, reduceCtorEq, e20, h8, c_in hD', o1, o2, o3, b1, c_mbegin hD' h8, c_forget hD']
      exact ⟨by trivial, by trivial⟩
    · rintro x M1 ⟨rfl, hM1⟩
      have hX1 := q_tool_X hX hT.symm h8 (show a1 < 4 by omega) (show a2 < 4 by omega) (show a3 < 2 by omega) hM1
      have f1 : Fr [3, 4, 5, 6, 7, 2, 11, 12, 13, 14, 0] M M1 := by
        rw [hM1]
        exact ((((((((((Fr.rf.up (by decide)).up (by decide)).up (by decide)).up (by decide)).up (by decide)).up (by decide)).up (by decide)).up (by decide)).up (by decide)).up (by decide)).up (by decide)
      have e0 : M1 0 = upW (M 0) 5 (nI 0) := by rw [hM1]; simp (disch := omega) only [Nat.one_mul, m1_nI, m1n, o_nI, z_nI, i1_nI, im1_nI, nI_add, nI_mul, lt_i, eq_i, inb_nI, ↓reduceIte, nI_clamp, bnd_some, b2i_0, b2i_1, b2i_t, b2i_f, Wq_ret, Wq_jmp, up_ne, up_at, upW_s, upW_n, Nat.reduceAdd, Nat.reduceMul, Nat.reduceLT, Nat.reduceEqDiff, Nat.add_zero, Nat.zero_add, reduceCtorEq]
      have e9 : M1 179 = M 179 := f1 179 (by decide)
      clear hM1
      refine Sq.mk (k := 1) hD (fun D' hD' => ?_)
      refine Lq.of (t_22_0_ok X (callw X D') n tot kn kx _ _ _ M1) ?_
      unfold t_22_0
      have hne : ¬ T = 8 := by omega
      simp (disch := omega) only [o_nI, m1n, m_in hD', bnd_some, o1, o2, o3, b1, ↓reduceIte, e9, e96, eq_i, hne, m_tools hD', m_forget hD', up_at, up_ne, upW_n, nI_add, Wq_ret]
      refine ⟨trivial, ?_⟩
      generalize hM2 : up (up (up (up (up (up (up (up (up (up (up (up M1 179 _ _) 179 _ _) 179 _ _) 179 _ _) 179 _ _) 179 _ _) 179 _ _) 179 _ _) 179 _ _) 179 _ _) 179 _ _) 178 4 (nI 0) = M2
      have g9 : M2 179 = q_tool (M 179) T (nI a1) (nI a2) (nI a3) := by
        rw [← hM2]
        unfold q_tool
        rw [up_ne (by decide)]
        simp only [up_at]
        rw [e9]
        simp only [show 16 + 10 * T + 0 = 16 + 10 * T by omega, show 16 + 10 * T + 1 = 17 + 10 * T by omega, show 16 + 10 * T + 2 = 18 + 10 * T by omega, show 16 + 10 * T + 3 = 19 + 10 * T by omega, show 16 + 10 * T + 4 = 20 + 10 * T by omega, show 16 + 10 * T + 5 = 21 + 10 * T by omega, show 16 + 10 * T + 6 = 22 + 10 * T by omega, show 16 + 10 * T + 7 = 23 + 10 * T by omega, show 16 + 10 * T + 8 = 24 + 10 * T by omega, show 16 + 10 * T + 9 = 25 + 10 * T by omega]
      have f2 : Fr [178, 179] M1 M2 := by
        rw [← hM2]
        exact (((((((((((Fr.rf.up (by decide)).up (by decide)).up (by decide)).up (by decide)).up (by decide)).up (by decide)).up (by decide)).up (by decide)).up (by decide)).up (by decide)).up (by decide)).up (by decide)
      have e8 : M2 178 = upW (M 178) 4 (nI 0) := by rw [← hM2]; simp (disch := omega) only [Nat.one_mul, m1_nI, m1n, o_nI, z_nI, i1_nI, im1_nI, nI_add, nI_mul, lt_i, eq_i, inb_nI, ↓reduceIte, nI_clamp, bnd_some, b2i_0, b2i_1, b2i_t, b2i_f, Wq_ret, Wq_jmp, up_ne, up_at, upW_s, upW_n, Nat.reduceAdd, Nat.reduceMul, Nat.reduceLT, Nat.reduceEqDiff, Nat.add_zero, Nat.zero_add, reduceCtorEq]; rw [f1 178 (by decide)]
      clear hM2
      have g0 : M2 0 = upW (M 0) 5 (nI 0) := by rw [f2 0 (by decide)]; exact e0
      refine h.forget ⟨?_, ?_⟩ (Stat.of2 (L := [3, 4, 5, 6, 7, 2, 11, 12, 13, 14, 0, 178, 179]) ((f1.mono (by decide)).tr (f2.mono (by decide))) (by decide) (by rw [g0, upW_n (by decide)]) (fun k hk => by rw [e8, upW_n (by omega)])) (by rw [g0, upW_s]) (by rw [g0, upW_n (by decide)]) (by rw [e8, upW_s])
      · rw [g9]; exact hX1.fr f2 (by decide)
      · rw [g9]
        refine h.1.2.ch (by rw [f2 43 (by decide), f1 43 (by decide)]) (fun t ht => ?_)
        unfold q_tool
        simp (disch := omega) only [upW_n]
  · refine Pr.mk (Q1 := fun x M1 => x = -1 ∧ M1 = M) (Sq.mk (k := 1) hD (fun D' hD' => ?_)) ?_
    · refine Lq.of (t_19_0_ok X (callw X D') n tot kn kx _ _ _ M) ?_
      unfold t_19_0
      simp only [o_nI, m1n, e20]
      by_cases h8 : T < 8
      · rw [if_pos (by rw [lt_i (by omega) (by omega)]; exact h8), c_in hD', bnd_some]
        cases o1 : q_in v1 0 3 with
        | false => rw [if_pos (by rfl), Wq_ret]; exact ⟨rfl, rfl⟩
        | true =>
        rw [if_neg (by decide), c_in hD', bnd_some]
        cases o2 : q_in v2 0 3 with
        | false => rw [if_pos (by rfl), Wq_ret]; exact ⟨rfl, rfl⟩
        | true =>
        rw [if_neg (by decide), c_in hD', bnd_some]
        cases o3 : q_in v3 0 1 with
        | false => rw [if_pos (by rfl), Wq_ret]; exact ⟨rfl, rfl⟩
        | true => exact absurd ⟨h8, o1, o2, o3⟩ ok
      · rw [if_neg (by rw [lt_i (by omega) (by omega)]; exact h8), Wq_ret]; exact ⟨rfl, rfl⟩
    · rintro x M1 ⟨rfl, rfl⟩
      refine Sq.mk (k := 1) hD (fun D' hD' => ?_)
      refine Lq.of (t_22_0_ok X (callw X D') n tot kn kx _ _ _ M1) ?_
      unfold t_22_0
      simp (disch := omega) only [o_nI, m1n, m_in hD', bnd_some, e96, eq_i]
      cases o1 : q_in v1 0 3 with
      | false => rw [if_pos (by rfl), Wq_ret]; exact ⟨rfl, h⟩
      | true =>
      cases o2 : q_in v2 0 3 with
      | false => rw [if_neg (by decide), if_pos (by rfl), Wq_ret]; exact ⟨rfl, h⟩
      | true =>
      cases o3 : q_in v3 0 1 with
      | false => rw [if_neg (by decide), if_neg (by decide), if_pos (by rfl), Wq_ret]; exact ⟨rfl, h⟩
      | true =>
      rw [if_neg (by decide), if_neg (by decide), if_neg (by decide), if_pos (by
        refine Classical.byContradiction (fun hc => ok ⟨?_, o1, o2, o3⟩)
        omega), Wq_ret]
      exact ⟨rfl, h⟩
theorem CRcrew.man {M : MMw} {W : Nat → Int32} {m : Nat} {v1 v2 v3 : Int32} (h : CRcrew M 2 W) : CRcrew (up (up (up M 8 m v1) 9 m v2) 2 1 v3) 2 (upW (upW (upW W (130 + 2 * m) v1) (131 + 2 * m) v2) 97 v3) := by
  obtain ⟨c1, c2, c3, c4, x1, x2, x3, x4, x5, x6, x7⟩ := h
  unfold CRcrew
  simp (disch := omega) only [up_ne, up_at, upW_n, upW_s]
  exact ⟨c1, trivial, c3, c4, ((x1.un (by omega)).un (by omega)).un (by omega), ((x2.un (by omega)).un (by omega)).un (by omega), ((x3.un (by omega)).un (by omega)).un (by omega), ((x4.un (by omega)).un (by omega)).un (by omega), ((x5.un (by omega)).un (by omega)).un (by omega), ((x6.up (by decide)).un (by omega)).un (by omega), ((x7.un (by omega)).up (by decide)).un (by omega)⟩
theorem CRm.hi {M : MMw} {p : Nat} {W W' : Nat → Int32} (h : CRm M p W) (hw : ∀ k, k < 96 → W' k = W k) : CRm M p W' := h.eqs (fun k h1 _ => hw k h1)
set_option maxHeartbeats 4000000 in
theorem P_man (hD : 2 ≤ D) {v1 v2 : Int32} {len s : Nat} (h : Rl kn len s M) : Pr X D 23 24 [.inr (.inl 0), .inl v1, .inl v2] [.inr (.inl 178), .inl v1, .inl v2] (Gk n tot kn kx) M (Rl kn len s) := by
  have hX := h.1.1
  have h97 := hX.2.2.1.1.2.1; have h97' := h97.2; have h98' := hX.2.2.1.1.2.2.1.2
  have e21 : M 2 1 = nI (q_n (M 179) 97) := by rw [hX.1.1.2.1]; exact h97.1
  obtain ⟨T, hT⟩ : ∃ T, q_n (M 179) 97 = T := ⟨_, rfl⟩
  have e97 : M 179 97 = nI T := by rw [← hT]; exact h97.1
  rw [hT] at e21 h97'
  by_cases ok : T < 4 ∧ q_in v1 0 99 = true ∧ q_in v2 0 1 = true
  · obtain ⟨h8, o1, o2⟩ := ok
    obtain ⟨a1, _, g1, rfl⟩ := q_in_t (by decide) (by decide) o1
    obtain ⟨a2, _, g2, rfl⟩ := q_in_t (by decide) (by decide) o2
    refine Pr.mk (Q1 := fun x M1 => x = nI T ∧ M1 = up (up (up (up M 8 T (nI a1)) 9 T (nI a2)) 2 1 (nI (T + 1))) 0 5 (nI 0)) (Sq.mk (k := 1) hD (fun D' hD' => ?_)) ?_
    · refine Lq.of (t_23_0_ok X (callw X D') n tot kn kx _ _ M) ?_
      unfold t_23_0
      simp (disch := omega) only [Nat.one_mul, m1_nI, m1n, o_nI, z_nI, i1_nI, im1_nI, nI_add, nI_mul, lt_i, eq_i, inb_nI, ↓reduceIte, nI_clamp, bnd_some, b2i_0, b2i_1, b2i_t, b2i_f, Wq_ret, Wq_jmp, up_ne, up_at, upW_s, upW_n, Nat.reduceAdd, Nat.reduceMul, Nat.reduceLT, Nat.reduceEqDiff, Nat.add_zero, Nat.zero_add, reduceCtorEq, e21, h8, c_in hD', o1, o2, b1, c_forget hD']
      exact ⟨by trivial, by trivial⟩
    · rintro x M1 ⟨rfl, hM1⟩
      have f1 : Fr [8, 9, 2, 0] M M1 := by
        rw [hM1]
        exact (((Fr.rf.up (by decide)).up (by decide)).up (by decide)).up (by decide)
      have e0 : M1 0 = upW (M 0) 5 (nI 0) := by rw [hM1]; simp (disch := omega) only [Nat.one_mul, m1_nI, m1n, o_nI, z_nI, i1_nI, im1_nI, nI_add, nI_mul, lt_i, eq_i, inb_nI, ↓reduceIte, nI_clamp, bnd_some, b2i_0, b2i_1, b2i_t, b2i_f, Wq_ret, Wq_jmp, up_ne, up_at, upW_s, upW_n, Nat.reduceAdd, Nat.reduceMul, Nat.reduceLT, Nat.reduceEqDiff, Nat.add_zero, Nat.zero_add, reduceCtorEq]
      have e9 : M1 179 = M 179 := f1 179 (by decide)
      have hcr : CRcrew M1 2 (upW (upW (upW (M 179) (130 + 2 * T) (nI a1)) (131 + 2 * T) (nI a2)) 97 (nI (T + 1))) := by
        have e := hX.1.1.man (m := T) (v1 := nI a1) (v2 := nI a2) (v3 := nI (T + 1))
        exact e.ch (fun d h1 h2 => by rw [hM1, up_ne (show d ≠ 0 by omega)]) sameY.rf
      clear hM1
      refine Sq.mk (k := 1) hD (fun D' hD' => ?_)
      refine Lq.of (t_24_0_ok X (callw X D') n tot kn kx _ _ M1) ?_
      unfold t_24_0
      have hne : ¬ T = 4 := by omega
      simp (disch := omega) only [o_nI, m1n, m_in hD', bnd_some, o1, o2, b1, ↓reduceIte, e9, e97, eq_i, hne, nI_mul, nI_add, inb_nI, nI_clamp, Wq_jmp]
      refine Lq.of (t_24_70_ok X (callw X D') n tot kn kx _ _) ?_
      unfold t_24_70
      simp (disch := omega) only [o_nI, m_forget hD', bnd_some, up_at, up_ne, upW_n, e9, e97, nI_add, Wq_ret]
      refine ⟨trivial, ?_⟩
      generalize hM2 : up (up (up (up M1 179 _ _) 179 _ _) 179 _ _) 178 4 (nI 0) = M2
      have g9 : M2 179 = upW (upW (upW (M 179) (130 + 2 * T) (nI a1)) (131 + 2 * T) (nI a2)) 97 (nI (T + 1)) := by
        rw [← hM2, up_ne (by decide), up_at, up_at, up_at, e9, Nat.add_zero, show 130 + 2 * T + 1 = 131 + 2 * T by omega]
      have f2 : Fr [178, 179] M1 M2 := by
        rw [← hM2]
        exact (((Fr.rf.up (by decide)).up (by decide)).up (by decide)).up (by decide)
      have e8 : M2 178 = upW (M 178) 4 (nI 0) := by rw [← hM2]; simp (disch := omega) only [Nat.one_mul, m1_nI, m1n, o_nI, z_nI, i1_nI, im1_nI, nI_add, nI_mul, lt_i, eq_i, inb_nI, ↓reduceIte, nI_clamp, bnd_some, b2i_0, b2i_1, b2i_t, b2i_f, Wq_ret, Wq_jmp, up_ne, up_at, upW_s, upW_n, Nat.reduceAdd, Nat.reduceMul, Nat.reduceLT, Nat.reduceEqDiff, Nat.add_zero, Nat.zero_add, reduceCtorEq]; rw [f1 178 (by decide)]
      clear hM2
      have g0 : M2 0 = upW (M 0) 5 (nI 0) := by rw [f2 0 (by decide)]; exact e0
      refine h.forget ⟨?_, ?_⟩ (Stat.of2 (L := [8, 9, 2, 0, 178, 179]) ((f1.mono (by decide)).tr (f2.mono (by decide))) (by decide) (by rw [g0, upW_n (by decide)]) (fun k hk => by rw [e8, upW_n (by omega)])) (by rw [g0, upW_s]) (by rw [g0, upW_n (by decide)]) (by rw [e8, upW_s])
      · rw [g9]
        have P0 : TP (q_n (M 179) 96) (M 179) := ⟨hX.2.2.1, hX.2.2.2, by omega, rfl⟩
        have ft : ∀ k j, ((k = 130 + 2 * T ∧ j < 100) ∨ (k = 131 + 2 * T ∧ j < 2)) → fit k j := fun k j hh => Or.inr (Or.inl ⟨T, h8, hh⟩)
        have P2 := (P0.fit (ft (130 + 2 * T) a1 (by omega)) (by omega)).fit (ft (131 + 2 * T) a2 (by omega)) (by omega)
        have n97 : T = q_n (upW (upW (M 179) (130 + 2 * T) (nI a1)) (131 + 2 * T) (nI a2)) 97 := by rw [q_n_up (by omega), q_n_up (by omega)]; exact hT.symm
        refine hX.crewup (hcr.ch (fun d h1 h2 => f2 d (by simp; omega)) sameY.rf) (((sameR.rf.up (by omega)).up (by omega)).up (by omega)) (fun d h1 h2 => by rw [f2 d (by unfold Yp at h1; simp; omega), f1 d (by unfold Yp at h1; simp; omega)]) ?_ (P2.1.up97 n97 h8) (P2.2.1.un3 (by omega) (fun h => by omega) P2.2.2.1)
        exact (hX.2.1.hi (fun k hk => by rw [upW_n (by omega), upW_n (by omega), upW_n (by omega)])).fr ((f1.mono (L' := [8, 9, 2, 0, 178, 179]) (by decide)).tr (f2.mono (by decide))) (by decide)
      · rw [g9]
        refine h.1.2.ch (by rw [f2 43 (by decide), f1 43 (by decide)]) (fun t ht => ?_)
        simp (disch := omega) only [upW_n]
  · refine Pr.mk (Q1 := fun x M1 => x = -1 ∧ M1 = M) (Sq.mk (k := 1) hD (fun D' hD' => ?_)) ?_
    · refine Lq.of (t_23_0_ok X (callw X D') n tot kn kx _ _ M) ?_
      unfold t_23_0
      simp (disch := omega) only [o_nI, m1n, e21, lt_i, c_in hD', bnd_some]
      by_cases h8 : T < 4
      · rw [if_pos h8]
        cases o1 : q_in v1 0 99 with
        | false => rw [if_pos (by rfl), Wq_ret]; exact ⟨rfl, rfl⟩
        | true =>
        cases o2 : q_in v2 0 1 with
        | false => rw [if_neg (by decide), if_pos (by rfl), Wq_ret]; exact ⟨rfl, rfl⟩
        | true => exact absurd ⟨h8, o1, o2⟩ ok
      · rw [if_neg h8, Wq_ret]; exact ⟨rfl, rfl⟩
    · rintro x M1 ⟨rfl, rfl⟩
      refine Sq.mk (k := 1) hD (fun D' hD' => ?_)
      refine Lq.of (t_24_0_ok X (callw X D') n tot kn kx _ _ M1) ?_
      unfold t_24_0
      simp (disch := omega) only [o_nI, m1n, m_in hD', bnd_some, e97, eq_i]
      cases o1 : q_in v1 0 99 with
      | false => rw [if_pos (by rfl), Wq_ret]; exact ⟨rfl, h⟩
      | true =>
      cases o2 : q_in v2 0 1 with
      | false => rw [if_neg (by decide), if_pos (by rfl), Wq_ret]; exact ⟨rfl, h⟩
      | true =>
      rw [if_neg (by decide), if_neg (by decide), if_pos (by
        refine Classical.byContradiction (fun hc => ok ⟨?_, o1, o2⟩)
        omega), Wq_ret]
      exact ⟨rfl, h⟩
end
