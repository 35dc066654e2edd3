section
-- needs: tell2
/-! hours -/
theorem q_lines_rf {tr : Bool} {W : Nat → Int32} : ∀ n, (q_for (q_line tr) n (q_begun W)).2.2.2.1 ≤ n
  | 0 => Nat.le_refl 0
  | n + 1 => by
    have h1 := q_lines_rf (tr := tr) (W := W) n
    have h2 := q_line_rf (tr := tr) (l := n) (s := q_for (q_line tr) n (q_begun W))
    rw [q_for_s]
    omega
theorem q_hour_rf {tr : Bool} {W : Nat → Int32} : (q_hour tr W).2.2.2.1 ≤ q_n W 99 := q_lines_rf _
/-- W, how many lines were refused, what is kept -/
abbrev It : Type := (Nat → Int32) × Nat × Nat × Nat × (Nat → Nat → Int32)
def q_it1 (s : It) : It := ((q_hour true s.1).1, s.2.1 + (q_hour true s.1).2.2.2.1, min (s.2.2.1 + 1) 6, (s.2.2.2.1 + 1) % 6, q_push s.2.2.2.2 s.2.2.1 s.1)
def q_it (s : It) : Nat → It
  | 0 => s
  | n + 1 => q_it1 (q_it s n)
/-- what holds of it -/
def ItP (W0 : Nat → Int32) (k : Nat) (s : It) : Prop := sameY W0 s.1 ∧ q_invM s.1 ∧ s.2.1 ≤ 20 * k ∧ s.2.2.1 ≤ 6 ∧ s.2.2.2.1 < 6 ∧ BCp s.1 s.2.2.1 s.2.2.2.2
theorem ItP.step {W0 : Nat → Int32} {k : Nat} {s : It} (hy : q_invY W0) (h : ItP W0 k s) : ItP W0 (k + 1) (q_it1 s) := by
  obtain ⟨h1, h2, h3, h4, h5, h6⟩ := h
  have ok := q_hour_ok (tr := true) (hy.ch h1) h2
  have hrf := q_hour_rf (tr := true) (W := s.1)
  have h99 := (hy.ch h1).1.2.2.2.1.2
  refine ⟨h1.tr ok.1, ok.2, ?_, ?_, ?_, h6.push h4 h2 ok.1⟩
  · show s.2.1 + _ ≤ _; omega
  · show min (s.2.2.1 + 1) 6 ≤ 6; omega
  · show (s.2.2.2.1 + 1) % 6 < 6; omega
theorem ItP.all {W0 : Nat → Int32} {s : It} (hy : q_invY W0) (h : ItP W0 0 s) : ∀ n, ItP W0 n (q_it s n)
  | 0 => h
  | n + 1 => (ItP.all hy h n).step hy
variable {X : KXw} {n tot kn D : Nat} {kx : Nat → Nat × Nat} {M : MMw}
theorem c_begin (hD : 1 ≤ D) : Sq X D 55 [.inr (.inl 123)] (Gk n tot kn kx) M (fun _ M' => Fr [123] M M' ∧ M' 123 0 = nI 0 ∧ M' 123 1 = nI 0 ∧ M' 123 2 = -1 ∧ M' 123 3 = -1 ∧ M' 123 4 = nI 0) :=
  Sq.mk (k := 0) hD (fun D' hD' => by
    refine Lq.of (t_55_p123_0_ok X (callw X D') n tot kn kx M) ?_
    unfold t_55_p123_0
    rw [Wq_ret]
    refine ⟨((((Fr.rf.up (by decide)).up (by decide)).up (by decide)).up (by decide)).up (by decide), ?_⟩
    simp (disch := omega) only [Nat.one_mul, m1_nI, m1n, o_nI, z_nI, i1_nI, im1_nI, nI_add, nI_mul, lt_i, eq_i, inb_nI, ↓reduceIte, nI_clamp, bnd_some, b2i_0, b2i_1, b2i_t, b2i_f, Wq_ret, Wq_jmp, up_ne, up_at, upW_s, upW_n, Nat.reduceAdd, Nat.reduceMul, Nat.reduceLT, Nat.reduceEqDiff, Nat.add_zero, Nat.zero_add, reduceCtorEq]
    simp)
/-- the class through k hours -/
def HcP (M0 : MMw) (s : It) (M1 : MMw) : Prop := CX M1 10 s.1 ∧ CRbook M1 43 s.1 ∧ BCc M1 s.2.2.1 s.2.2.2.1 s.2.2.2.2 ∧ M1 123 1 = nI s.2.1 ∧ M1 0 2 = M0 0 2 ∧ ∀ c, ((44 ≤ c ∧ c ≤ 120) ∨ (124 ≤ c ∧ c ≤ 135) ∨ 178 ≤ c) → M1 c = M0 c
theorem c_hours_loop (hD : 6 ≤ D) {M0 : MMw} {s0 : It} {N : Nat} (hN : N ≤ 60) (hy : q_invY s0.1) (h0 : ItP s0.1 0 s0) : ∀ (c k : Nat) (M1 : MMw), k + c = N → HcP M0 (q_it s0 k) M1 → Lq X (callw X D) 75 40 [some (.inr (.inl 0)), some (.inl (nI N)), some (.inl (nI k))] (Gk n tot kn kx) M1 (fun x M' => x = nI (q_it s0 N).2.1 ∧ HcP M0 (q_it s0 N) M')
  | 0, k, M1, hkc, h => by
    refine Lq.of (t_75_40_ok X (callw X D) n tot kn kx _ _ M1) ?_
    unfold t_75_40
    rw [if_neg (by rw [lt_i (by omega) (by omega)]; omega), Wq_ret]
    rw [show k = N by omega] at h
    exact ⟨h.2.2.2.1, h⟩
  | c + 1, k, M1, hkc, h => by
    refine Lq.of (t_75_40_ok X (callw X D) n tot kn kx _ _ M1) ?_
    unfold t_75_40
    rw [if_pos (by rw [lt_i (by omega) (by omega)]; omega)]
    have hp := ItP.all hy h0 k
    have hok := q_hour_ok (tr := true) (hy.ch hp.1) hp.2.1
    have hs : q_it s0 (k + 1) = q_it1 (q_it s0 k) := rfl
    generalize q_it s0 k = s at h hp hok hs
    obtain ⟨i1, i2, i3, i4, i5, i6⟩ := hp
    obtain ⟨g1, g2, g3, g4, g5, g6⟩ := h
    refine Wq.call (c_keep (W := s.1) (show 4 ≤ D by omega) i4 i5 g3.1 g3.2.1 g1.2.1) ?_
    rintro x M2 hk
    have kk := hk.2.2.2.2
    have e43 : M2 43 = M1 43 := kk 43 (by omega) (by omega)
    have e123 : M2 123 = M1 123 := kk 123 (by omega) (by omega)
    rw [o_nI]
    refine Wq.call (c_pass10 (r0 := s.2.1) hD (hk.cx g1) (by rw [e123]; exact g4) (by omega) (fun _ => by unfold CRbook at g2 ⊢; rw [e43]; exact g2)) ?_
    rintro y M3 ⟨⟨p1, p2, p3, p4, _⟩, hf3⟩
    rw [Wq_jmp, i1_nI, nI_add]
    refine c_hours_loop hD hN hy h0 c (k + 1) M3 (by omega) ?_
    rw [hs]
    refine ⟨p1, p2 rfl, ?_, p4, ?_, fun c hc => ?_⟩
    · exact (g3.push i4 i5 hk).st (fun c h1 h2 => hf3 c (by simp; omega)) (by rw [hf3 0 (by decide)]) (by rw [hf3 0 (by decide)])
    · rw [hf3 0 (by decide), hk.2.2.1 2 (by decide) (by decide)]; exact g5
    · rw [hf3 c (by simp; omega), kk c (by omega) (by omega)]; exact g6 c hc
/-- the reference through k hours -/
def HmP (M0 : MMw) (s : It) (M1 : MMw) : Prop := M1 179 = s.1 ∧ BCm M1 s.2.2.1 s.2.2.2.2 ∧ Fr [178, 179, 181, 187, 188] M0 M1 ∧ ∀ k, k ≠ 4 → k < 27 → M1 178 k = M0 178 k
theorem m_hours_loop (hD : 8 ≤ D) {M0 : MMw} {s0 : It} {C0 C1 : Nat → Int32} {N : Nat} (hN : N ≤ 60) (hy : q_invY s0.1) (hl0 : q_law s0.1 0 C0) (hl1 : q_law s0.1 1 C1) (h0 : ItP s0.1 0 s0) (hz : s0.2.1 = 0) : ∀ (c k : Nat) (M1 : MMw), k + c = N → HmP M0 (q_it s0 k) M1 → Lq X (callw X D) 97 30 [some (.inr (.inl 178)), some (.inl (nI N)), some (.inl (nI (q_it s0 k).2.1)), some (.inl (nI k))] (Gk n tot kn kx) M1 (fun x M' => x = nI (q_it s0 N).2.1 ∧ HmP M0 (q_it s0 N) M')
  | 0, k, M1, hkc, h => by
    refine Lq.of (t_97_30_ok X (callw X D) n tot kn kx _ _ _ M1) ?_
    unfold t_97_30
    rw [if_neg (by rw [lt_i (by omega) (by omega)]; omega), Wq_ret]
    rw [show k = N by omega] at h ⊢
    exact ⟨rfl, h⟩
  | c + 1, k, M1, hkc, h => by
    refine Lq.of (t_97_30_ok X (callw X D) n tot kn kx _ _ _ M1) ?_
    unfold t_97_30
    rw [if_pos (by rw [lt_i (by omega) (by omega)]; omega)]
    have hp := ItP.all hy h0 k
    have hs : q_it s0 (k + 1) = q_it1 (q_it s0 k) := rfl
    have next : ∀ M2, HmP M0 (q_it1 (q_it s0 k)) M2 → Lq X (callw X D) 97 30 [some (.inr (.inl 178)), some (.inl (nI N)), some (.inl (nI (q_it1 (q_it s0 k)).2.1)), some (.inl (nI (k + 1)))] (Gk n tot kn kx) M2 (fun x M' => x = nI (q_it s0 N).2.1 ∧ HmP M0 (q_it s0 N) M') := fun M2 h2 => m_hours_loop hD hN hy hl0 hl1 h0 hz c (k + 1) M2 (by omega) (by rw [hs]; exact h2)
    generalize q_it s0 k = s at h hp hs next
    obtain ⟨i1, i2, i3, i4, i5, i6⟩ := hp
    obtain ⟨g1, g2, g3, g4⟩ := h
    refine Wq.call (m_keeps (show 1 ≤ D by omega) i4 g2.1) ?_
    rintro x M2 ⟨k8, k1, kf⟩
    have e9 : M2 179 = s.1 := by rw [kf 179 (by decide)]; exact g1
    rw [o_nI]
    refine Wq.call (m_anHour (tr := true) (C0 := C0) (C1 := C1) hD (by rw [e9]; exact hl0.ch (by decide) i1) (by rw [e9]; exact hl1.ch (by decide) i1) (by rw [e9]; exact hy.ch i1) (by rw [e9]; exact i2)) ?_
    rintro y M3 ⟨hy3, h93, hf3, hh3, _⟩
    subst hy3
    rw [Wq_jmp, i1_nI, nI_add, nI_add, e9]
    rw [e9] at h93
    refine next M3 ⟨h93, ?_, ?_, fun k hk1 hk2 => ?_⟩
    · have e84 : M3 178 4 = nI (min (s.2.2.1 + 1) 6) := by rw [hh3 4 (by omega), k8, upW_s]
      have := g2.push i4 e84 (show M3 181 = q_kept (M1 181) (M1 179) s.2.2.1 by rw [hf3 181 (by decide)]; exact k1)
      rw [g1] at this
      exact this
    · exact (g3.tr (kf.mono (by decide))).tr (hf3.mono (by decide))
    · rw [hh3 k (by omega), k8, upW_n hk1]; exact g4 k hk1 hk2
set_option maxHeartbeats 4000000 in
theorem P_hours (hD : 9 ≤ D) {v : Int32} {len s : Nat} (h : Rl kn len s M) : Pr X D 75 97 [.inr (.inl 0), .inl v] [.inr (.inl 178), .inl v] (Gk n tot kn kx) M (Rl kn len s) := by
  obtain ⟨b, p, Bs, hb, hp, h3, h6, h8⟩ := h.2.2.1
  have hX := h.1.1
  have e6 : M 10 6 = M 179 0 := hX.2.1.1
  by_cases hv : q_in v 1 60 = true ∧ ¬ nI 9999 < M 179 0 + v
  · obtain ⟨hv1, hv2⟩ := hv
    obtain ⟨N, n1, n2, rfl⟩ := q_in_t (by decide) (by decide) hv1
    have hI : ItP (M 179) 0 (M 179, 0, b, p, Bs) := ⟨sameY.rf, hX.2.2.2, Nat.le_refl 0, hb, hp, h8⟩
    refine Pr.mk (Q1 := fun x M1 => x = nI (q_it (M 179, 0, b, p, Bs) N).2.1 ∧ HcP M (q_it (M 179, 0, b, p, Bs) N) M1) (Sq.mk (k := 8) hD (fun D' hD' => ?_)) ?_
    · refine Lq.of (t_75_0_ok X (callw X D') n tot kn kx _ M) ?_
      unfold t_75_0
      simp only [o_nI, m1n]
      rw [e6, if_neg (by rw [lt_i (by omega) (by omega)]; omega), if_neg (by rw [lt_i (by omega) (by omega)]; omega), if_neg hv2]
      refine Wq.call (c_begin (show 1 ≤ D' by omega)) ?_
      rintro x M1 ⟨hf1, _, q1, _⟩
      rw [Wq_jmp]
      refine c_hours_loop (s0 := (M 179, 0, b, p, Bs)) (show 6 ≤ D' by omega) n2 hX.2.2.1 hI N 0 M1 (by omega) ?_
      refine ⟨hX.fr hf1 (by decide), ?_, h3.st (fun c h1 h2 => hf1 c (by simp; omega)) (by rw [hf1 0 (by decide)]) (by rw [hf1 0 (by decide)]), q1, by rw [hf1 0 (by decide)], fun c hc => hf1 c (by simp; omega)⟩
      have := h.1.2
      show CRbook M1 43 (M 179)
      unfold CRbook at this ⊢
      rw [hf1 43 (by decide)]; exact this
    · rintro x M1 ⟨rfl, g1, g2, g3, g4, g5, g6⟩
      have e9 : M1 179 = M 179 := g6 179 (by omega)
      have e8 : M1 178 = M 178 := g6 178 (by omega)
      refine Sq.mk (k := 8) hD (fun D' hD' => ?_)
      refine Lq.of (t_97_0_ok X (callw X D') n tot kn kx _ M1) ?_
      unfold t_97_0
      simp only [o_nI, m1n]
      rw [m_in (by omega), bnd_some, hv1, if_neg (by decide), e9, if_neg hv2, Wq_jmp]
      refine Lq.mono (m_hours_loop (M0 := M1) (s0 := (M 179, 0, b, p, Bs)) (show 8 ≤ D' by omega) n2 hX.2.2.1 hX.1.2.2.2.1.2.2 hX.1.2.2.2.2.2.2 hI rfl N 0 M1 (by omega) ⟨e9, ⟨by rw [e8]; exact h6.1, by rw [g6 181 (by omega)]; exact h6.2⟩, Fr.rf, fun _ _ _ => rfl⟩) ?_
      rintro y M2 ⟨hy, k1, k2, k3, k4⟩
      refine ⟨hy, ?_⟩
      have hP := ItP.all hX.2.2.1 hI N
      generalize q_it (M 179, 0, b, p, Bs) N = s at g1 g2 g3 g4 k1 k2 hP
      have st : Stat M M2 := by
        refine ⟨fun c hc => ?_, by rw [k3 0 (by decide)]; exact g5, ?_, ?_, ?_, ?_⟩
        · rw [k3 c (by unfold Sp at hc; simp; omega), g6 c (by unfold Sp at hc; omega)]
        all_goals (rw [k4 _ (by decide) (by decide), e8])
      refine ⟨⟨?_, ?_⟩, h.2.1.st st, ?_, h.2.2.2.1.st st, h.2.2.2.2.st st⟩
      · rw [k1]; exact g1.fr k3 (by decide)
      · rw [k1]
        unfold CRbook at g2 ⊢
        rw [k3 43 (by decide)]; exact g2
      · exact ⟨s.2.2.1, s.2.2.2.1, s.2.2.2.2, hP.2.2.2.1, hP.2.2.2.2.1, g3.st (fun c h1 h2 => k3 c (by simp; omega)) (by rw [k3 0 (by decide)]) (by rw [k3 0 (by decide)]), k2, by rw [k1]; exact hP.2.2.2.2.2⟩
  · refine Pr.mk (Q1 := fun x M1 => x = -1 ∧ M1 = M) (Sq.mk (k := 8) hD (fun D' hD' => ?_)) ?_
    · refine Lq.of (t_75_0_ok X (callw X D') n tot kn kx _ M) ?_
      unfold t_75_0
      simp only [o_nI, m1n]
      rw [e6]
      by_cases c1 : v < nI 1
      · rw [if_pos c1, Wq_ret]; exact ⟨rfl, rfl⟩
      · rw [if_neg c1]
        by_cases c2 : nI 60 < v
        · rw [if_pos c2, Wq_ret]; exact ⟨rfl, rfl⟩
        · rw [if_neg c2, if_pos (by
            refine Classical.byContradiction (fun hc => hv ⟨?_, hc⟩)
            unfold q_in
            rw [decide_eq_false c1, decide_eq_false c2]
            rfl), Wq_ret]
          exact ⟨rfl, rfl⟩
    · rintro x M1 ⟨rfl, rfl⟩
      refine Sq.mk (k := 8) hD (fun D' hD' => ?_)
      refine Lq.of (t_97_0_ok X (callw X D') n tot kn kx _ M1) ?_
      unfold t_97_0
      simp only [o_nI, m1n]
      rw [m_in (by omega), bnd_some]
      cases hq : q_in v 1 60 with
      | false => rw [if_pos (show b2i false = 0 from rfl), Wq_ret]; exact ⟨rfl, h⟩
      | true =>
        rw [if_neg (by decide), if_pos (Classical.byContradiction (fun hc => hv ⟨hq, hc⟩)), Wq_ret]
        exact ⟨rfl, h⟩
end
