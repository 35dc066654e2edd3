section
-- needs: copies
/-! image, undo, seen -/
variable {X : KXw} {n tot kn D : Nat} {kx : Nat → Nat × Nat} {M : MMw}
set_option maxHeartbeats 4000000 in
theorem c_ycopy_44 (hD : 4 ≤ D) {W : Nat → Int32} (ht : q_top W) (hy : CRy M 1 W) (hm : CRm M 10 W) (hb : CRbook M 43 W) : Sq X D 307 [.inr (.inl 44), .inr (.inl 1)] (Gk n tot kn kx) M (fun _ M' => Fr [45, 46, 47, 48, 49, 50, 51, 52, 53, 54, 55, 56, 57, 58, 59, 60, 61, 62, 63, 64, 65, 66, 67, 68, 69, 70, 71, 72, 73, 74, 75, 76, 77, 78, 79, 80, 81, 82, 83, 84, 85, 86] M M' ∧ CRy M' 44 W ∧ CRm M' 53 W ∧ CRbook M' 86 W) :=
  Sq.mk (k := 3) hD (fun D' hD' => by
    refine Lq.of (t_307_p44_p1_0_ok X (callw X D') n tot kn kx M) ?_
    unfold t_307_p44_p1_0
    obtain ⟨_, _, h98, h99, h104⟩ := id ht
    have e98 := h98.2; have e99 := h99.2; have e104 := h104.2
    obtain ⟨y1, y2, y3, y4, y5⟩ := hy
    have low : ∀ (L2 : List Nat) (Ma Mb : MMw), Fr L2 Ma Mb → (∀ d, d ∈ L2 → 44 < d ∧ d ≤ 86) → Fr [45, 46, 47, 48, 49, 50, 51, 52, 53, 54, 55, 56, 57, 58, 59, 60, 61, 62, 63, 64, 65, 66, 67, 68, 69, 70, 71, 72, 73, 74, 75, 76, 77, 78, 79, 80, 81, 82, 83, 84, 85, 86] Ma Mb := by
      intro L2 Ma Mb h hl c hc
      refine h c (fun hd => hc ?_)
      have := hl c hd
      simp
      omega
    refine Wq.call (c_ccopy_45_2 hD') ?_
    rintro x1 M1 ⟨f1, g1⟩
    have z1 := CRcrew.cp g1 y1
    have k1 := low _ _ _ f1 (by decide)
    refine Wq.call (c_mcopy_53_10 hD') ?_
    rintro x2 M2 ⟨f2, _, g2⟩
    have z2 := g2 W (hm.fr k1 (by decide))
    have k2 := k1.tr (low _ _ _ f2 (by decide))
    refine Wq.call (c_hcopy_60_17 hD') ?_
    rintro x3 M3 ⟨f3, g3⟩
    have z3 := CRhull.cp g3 (by omega) (by omega) (y2.chE (W' := W) (fun d h1 h2 => k2 d (by simp; omega)) (fun _ _ => rfl) (by omega) (by omega))
    have k3 := k2.tr (low _ _ _ f3 (by decide))
    refine Wq.call (c_rcopy_68_25 hD') ?_
    rintro x4 M4 ⟨f4, g4⟩
    have z4 := CRrota.cp g4 (by omega) (y3.chE (W' := W) (fun d h1 h2 => k3 d (by simp; omega)) (fun _ _ => rfl) (by omega))
    have k4 := k3.tr (low _ _ _ f4 (by decide))
    refine Wq.call (c_lcopy_74_31 hD') ?_
    rintro x5 M5 ⟨f5, g5⟩
    have z5 := CRlaw.cp g5 (y4.chE (W' := W) (by decide) (fun d h1 h2 => k4 d (by simp; omega)) (fun _ _ => rfl))
    have k5 := k4.tr (low _ _ _ f5 (by decide))
    refine Wq.call (c_lcopy_80_37 hD') ?_
    rintro x6 M6 ⟨f6, g6⟩
    have z6 := CRlaw.cp g6 (y5.chE (W' := W) (by decide) (fun d h1 h2 => k5 d (by simp; omega)) (fun _ _ => rfl))
    have k6 := k5.tr (low _ _ _ f6 (by decide))
    rw [c_copyRow (L := 800) (by omega) rfl rfl (by decide) (by decide), bnd_some, Wq_ret]
    have f7 : Fr [86] M6 (cpy M6 43 86 800) := Fr.rf.cpy (by decide)
    refine ⟨k6.tr (low _ _ _ f7 (by decide)), ⟨?_, ?_, ?_, ?_, ?_⟩, ?_, ?_⟩
    · exact z1.chE (W' := W) (fun d h1 h2 => by rw [f7 d (by simp; omega), f6 d (by simp; omega), f5 d (by simp; omega), f4 d (by simp; omega), f3 d (by simp; omega), f2 d (by simp; omega)]) (fun _ _ => rfl)
    · exact z3.chE (W' := W) (fun d h1 h2 => by rw [f7 d (by simp; omega), f6 d (by simp; omega), f5 d (by simp; omega), f4 d (by simp; omega)]) (fun _ _ => rfl) (by omega) (by omega)
    · exact z4.chE (W' := W) (fun d h1 h2 => by rw [f7 d (by simp; omega), f6 d (by simp; omega), f5 d (by simp; omega)]) (fun _ _ => rfl) (by omega)
    · exact z5.chE (W' := W) (by decide) (fun d h1 h2 => by rw [f7 d (by simp; omega), f6 d (by simp; omega)]) (fun _ _ => rfl)
    · exact z6.chE (W' := W) (by decide) (fun d h1 h2 => f7 d (by simp; omega)) (fun _ _ => rfl)
    · exact ((((z2.fr f3 (by decide)).fr f4 (by decide)).fr f5 (by decide)).fr f6 (by decide)).fr f7 (by decide)
    · unfold CRbook at hb ⊢
      intro t ht
      rw [cpy_at ht, k6 43 (by decide)]
      exact hb t ht)
set_option maxHeartbeats 4000000 in
theorem c_ycopy_1 (hD : 4 ≤ D) {W : Nat → Int32} (ht : q_top W) (hy : CRy M 44 W) (hm : CRm M 53 W) (hb : CRbook M 86 W) : Sq X D 307 [.inr (.inl 1), .inr (.inl 44)] (Gk n tot kn kx) M (fun _ M' => Fr [2, 3, 4, 5, 6, 7, 8, 9, 10, 11, 12, 13, 14, 15, 16, 17, 18, 19, 20, 21, 22, 23, 24, 25, 26, 27, 28, 29, 30, 31, 32, 33, 34, 35, 36, 37, 38, 39, 40, 41, 42, 43] M M' ∧ CRy M' 1 W ∧ CRm M' 10 W ∧ CRbook M' 43 W) :=
  Sq.mk (k := 3) hD (fun D' hD' => by
    refine Lq.of (t_307_p1_p44_0_ok X (callw X D') n tot kn kx M) ?_
    unfold t_307_p1_p44_0
    obtain ⟨_, _, h98, h99, h104⟩ := id ht
    have e98 := h98.2; have e99 := h99.2; have e104 := h104.2
    obtain ⟨y1, y2, y3, y4, y5⟩ := hy
    have low : ∀ (L2 : List Nat) (Ma Mb : MMw), Fr L2 Ma Mb → (∀ d, d ∈ L2 → 1 < d ∧ d ≤ 43) → Fr [2, 3, 4, 5, 6, 7, 8, 9, 10, 11, 12, 13, 14, 15, 16, 17, 18, 19, 20, 21, 22, 23, 24, 25, 26, 27, 28, 29, 30, 31, 32, 33, 34, 35, 36, 37, 38, 39, 40, 41, 42, 43] Ma Mb := by
      intro L2 Ma Mb h hl c hc
      refine h c (fun hd => hc ?_)
      have := hl c hd
      simp
      omega
    refine Wq.call (c_ccopy_2_45 hD') ?_
    rintro x1 M1 ⟨f1, g1⟩
    have z1 := CRcrew.cp g1 y1
    have k1 := low _ _ _ f1 (by decide)
    refine Wq.call (c_mcopy_10_53 hD') ?_
    rintro x2 M2 ⟨f2, _, g2⟩
    have z2 := g2 W (hm.fr k1 (by decide))
    have k2 := k1.tr (low _ _ _ f2 (by decide))
    refine Wq.call (c_hcopy_17_60 hD') ?_
    rintro x3 M3 ⟨f3, g3⟩
    have z3 := CRhull.cp g3 (by omega) (by omega) (y2.chE (W' := W) (fun d h1 h2 => k2 d (by simp; omega)) (fun _ _ => rfl) (by omega) (by omega))
    have k3 := k2.tr (low _ _ _ f3 (by decide))
    refine Wq.call (c_rcopy_25_68 hD') ?_
    rintro x4 M4 ⟨f4, g4⟩
    have z4 := CRrota.cp g4 (by omega) (y3.chE (W' := W) (fun d h1 h2 => k3 d (by simp; omega)) (fun _ _ => rfl) (by omega))
    have k4 := k3.tr (low _ _ _ f4 (by decide))
    refine Wq.call (c_lcopy_31_74 hD') ?_
    rintro x5 M5 ⟨f5, g5⟩
    have z5 := CRlaw.cp g5 (y4.chE (W' := W) (by decide) (fun d h1 h2 => k4 d (by simp; omega)) (fun _ _ => rfl))
    have k5 := k4.tr (low _ _ _ f5 (by decide))
    refine Wq.call (c_lcopy_37_80 hD') ?_
    rintro x6 M6 ⟨f6, g6⟩
    have z6 := CRlaw.cp g6 (y5.chE (W' := W) (by decide) (fun d h1 h2 => k5 d (by simp; omega)) (fun _ _ => rfl))
    have k6 := k5.tr (low _ _ _ f6 (by decide))
    rw [c_copyRow (L := 800) (by omega) rfl rfl (by decide) (by decide), bnd_some, Wq_ret]
    have f7 : Fr [43] M6 (cpy M6 86 43 800) := Fr.rf.cpy (by decide)
    refine ⟨k6.tr (low _ _ _ f7 (by decide)), ⟨?_, ?_, ?_, ?_, ?_⟩, ?_, ?_⟩
    · exact z1.chE (W' := W) (fun d h1 h2 => by rw [f7 d (by simp; omega), f6 d (by simp; omega), f5 d (by simp; omega), f4 d (by simp; omega), f3 d (by simp; omega), f2 d (by simp; omega)]) (fun _ _ => rfl)
    · exact z3.chE (W' := W) (fun d h1 h2 => by rw [f7 d (by simp; omega), f6 d (by simp; omega), f5 d (by simp; omega), f4 d (by simp; omega)]) (fun _ _ => rfl) (by omega) (by omega)
    · exact z4.chE (W' := W) (fun d h1 h2 => by rw [f7 d (by simp; omega), f6 d (by simp; omega), f5 d (by simp; omega)]) (fun _ _ => rfl) (by omega)
    · exact z5.chE (W' := W) (by decide) (fun d h1 h2 => by rw [f7 d (by simp; omega), f6 d (by simp; omega)]) (fun _ _ => rfl)
    · exact z6.chE (W' := W) (by decide) (fun d h1 h2 => f7 d (by simp; omega)) (fun _ _ => rfl)
    · exact ((((z2.fr f3 (by decide)).fr f4 (by decide)).fr f5 (by decide)).fr f6 (by decide)).fr f7 (by decide)
    · unfold CRbook at hb ⊢
      intro t ht
      rw [cpy_at ht, k6 86 (by decide)]
      exact hb t ht)
theorem m_image_loop {a : Bool} {W K : Nat → Int32} {cl : CLw} {M0 : MMw} {Q : Int32 → MMw → Prop} (hend : ∀ M1 : MMw, Fr [179, 180] M0 M1 → M1 179 = (if a then W else fun i => if i < 2834 then K i else W i) → M1 180 = (if a then fun i => if i < 2834 then W i else K i else K) → Lq X cl 309 15 [some (.inr (.inl 178)), some (.inl (b2i a)), some (.inl (nI 2834))] (Gk n tot kn kx) M1 Q) :
    ∀ (c k : Nat) (M1 : MMw), k + c = 2834 → Fr [179, 180] M0 M1 → M1 179 = (if a then W else fun i => if i < k then K i else W i) → M1 180 = (if a then fun i => if i < k then W i else K i else K) → Lq X cl 309 15 [some (.inr (.inl 178)), some (.inl (b2i a)), some (.inl (nI k))] (Gk n tot kn kx) M1 Q
  | 0, k, M1, hk, hf, h9, h0 => by
    have e : k = 2834 := by omega
    subst e
    exact hend M1 hf h9 h0
  | c + 1, k, M1, hk, hf, h9, h0 => by
    refine Lq.of (t_309_15_ok X cl n tot kn kx _ _ M1) ?_
    unfold t_309_15
    simp only [o_nI, i1_nI]
    rw [if_pos (by rw [lt_i (by omega) (by omega)]; omega), inb_nI (by omega) (by decide), nI_clamp (by omega), nI_add]
    have step : ∀ P V : Nat → Int32, upW (fun i => if i < k then P i else V i) k (P k) = fun i => if i < k + 1 then P i else V i := by
      intro P V
      funext i
      unfold upW
      by_cases e : i = k
      · subst e; rw [if_pos rfl, if_pos (Nat.lt_succ_self i)]
      · rw [if_neg e]
        dsimp only
        by_cases e2 : i < k
        · rw [if_pos e2, if_pos (by omega)]
        · rw [if_neg e2, if_neg (by omega)]
    cases a with
    | true =>
      rw [if_neg (by decide), if_pos rfl, if_pos rfl, Wq_jmp]
      rw [if_pos rfl] at h9 h0
      refine m_image_loop (W := W) (K := K) hend c (k + 1) _ (by omega) (hf.up (by decide)) ?_ ?_
      · rw [up_ne (by decide), h9, if_pos rfl]
      · rw [up_at, h0, h9, step, if_pos rfl]
    | false =>
      rw [if_pos (by rfl), if_pos rfl, if_pos rfl, Wq_jmp]
      rw [if_neg (by decide)] at h9 h0
      refine m_image_loop (W := W) (K := K) hend c (k + 1) _ (by omega) (hf.up (by decide)) ?_ ?_
      · rw [up_at, h9, h0, step, if_neg (by decide)]
      · rw [up_ne (by decide), h0, if_neg (by decide)]
theorem lkr.eq2 {f g g' : Nat → Int32} {k s n : Nat} (h : lkr f g k s n) (hg : ∀ t, t < n → g' (k + s * t) = g (k + s * t)) : lkr f g' k s n := h.ch rfl hg
set_option maxHeartbeats 4000000 in
theorem P_image (hD : 5 ≤ D) {o : Bool} {len s : Nat} (h : Rl kn len s M) : Pr X D 308 309 [.inr (.inl 0), .inl (b2i o)] [.inr (.inl 178), .inl (b2i o)] (Gk n tot kn kx) M (Rl kn len s) := by
  have hX := h.1.1
  have h98 := hX.2.2.1.1.2.2.1.2
  obtain ⟨i1, i2⟩ := id h.2.1
  cases o with
  | true =>
    refine Pr.mk (Q1 := fun x M1 => x = nI 1 ∧ ∃ M0, (Fr [45, 46, 47, 48, 49, 50, 51, 52, 53, 54, 55, 56, 57, 58, 59, 60, 61, 62, 63, 64, 65, 66, 67, 68, 69, 70, 71, 72, 73, 74, 75, 76, 77, 78, 79, 80, 81, 82, 83, 84, 85, 86] M M0 ∧ CRy M0 44 (M 179) ∧ CRm M0 53 (M 179) ∧ CRbook M0 86 (M 179)) ∧ M1 = up M0 0 2 (nI 1)) (Sq.mk (k := 4) hD (fun D' hD' => ?_)) ?_
    · refine Lq.of (t_308_0_ok X (callw X D') n tot kn kx _ M) ?_
      unfold t_308_0
      rw [if_neg (by decide)]
      refine Wq.call (c_ycopy_44 (show 4 ≤ D' by omega) hX.2.2.1.1 hX.1 hX.2.1 h.1.2) ?_
      rintro x M0 hM0
      rw [Wq_ret]
      exact ⟨rfl, M0, hM0, rfl⟩
    · rintro x M1 ⟨rfl, M0, ⟨f0, y0, m0, b0⟩, hM1⟩
      have f1 : Fr [0] M0 M1 := by rw [hM1]; exact Fr.rf.up (by decide)
      have e0 : M1 0 = upW (M 0) 2 (nI 1) := by rw [hM1, up_at, f0 0 (by decide)]
      have e9 : M1 179 = M 179 := by rw [f1 179 (by decide), f0 179 (by decide)]
      have e8 : M1 178 = M 178 := by rw [f1 178 (by decide), f0 178 (by decide)]
      refine Sq.mk (k := 4) hD (fun D' hD' => ?_)
      refine Lq.of (t_309_0_ok X (callw X D') n tot kn kx _ M1) ?_
      unfold t_309_0
      rw [if_neg (by decide), Wq_jmp, o_nI]
      refine m_image_loop (a := true) (W := M 179) (K := M1 180) (M0 := M1) ?_ 2834 0 M1 (by decide) Fr.rf e9 ?_
      · intro M2 f2 g9 g0
        rw [if_pos rfl] at g9 g0
        refine Lq.of (t_309_15_ok X (callw X D') n tot kn kx _ _ M2) ?_
        unfold t_309_15
        simp only [o_nI]
        rw [if_neg (by rw [lt_i (by decide) (by decide)]; decide), if_neg (by decide), Wq_ret]
        refine ⟨rfl, ?_⟩
        have f3 : Fr [178] M2 (up M2 178 5 (nI 1)) := Fr.rf.up (by decide)
        have h5 : up M2 178 5 (nI 1) 178 = upW (M 178) 5 (nI 1) := by rw [up_at, f2 178 (by decide), e8]
        generalize up M2 178 5 (nI 1) = M3 at f3 h5 ⊢
        have gg : ∀ d, d ≠ 0 → d ≠ 178 → d ≠ 179 → d ≠ 180 → M3 d = M0 d := fun d h1 h2 h3 h4 => by rw [f3 d (by simp; omega), f2 d (by simp; omega), f1 d (by simp; omega)]
        have g0' : M3 0 = upW (M 0) 2 (nI 1) := by rw [f3 0 (by decide), f2 0 (by decide), e0]
        have g9' : M3 179 = M 179 := by rw [f3 179 (by decide), g9]
        have gm : ∀ d, d ≠ 0 → d ≠ 178 → d ≠ 180 → (d < 45 ∨ 86 < d) → M3 d = M d := fun d h1 h2 h4 h5 => by
          by_cases e : d = 179
          · rw [e, g9']
          · rw [gg d h1 h2 e h4, f0 d (by simp; omega)]
        have g180 : eqE (M 179) (M3 180) ∧ ∀ k, k < 2834 → M3 180 k = M 179 k := by
          rw [f3 180 (by decide), g0]
          exact ⟨fun k hk => if_pos (by omega), fun k hk => if_pos hk⟩
        refine ⟨⟨?_, ?_⟩, ?_, ?_, ?_, ?_⟩
        · rw [g9']
          refine ⟨hX.1.chE (fun d hd => gm d ?_ ?_ ?_ ?_) (fun _ _ => rfl) hX.2.2.1.1, ?_, hX.2.2⟩
          · unfold Yp at hd; omega
          · unfold Yp at hd; omega
          · unfold Yp at hd; omega
          · unfold Yp at hd; omega
          · obtain ⟨m1, m2, m3, m4, b1, b2, b3, b4, b5, b6⟩ := hX.2.1
            have g : ∀ d, 10 ≤ d → d ≤ 16 → M3 d = M d := fun d h1 h2 => gm d (by omega) (by omega) (by omega) (by omega)
            rw [← g _ (by omega) (by omega)] at m1 m2 m3 m4 b1 b2 b3 b4 b5 b6
            exact ⟨m1, m2, m3, m4, b1, b2, b3, b4, b5, b6⟩
        · rw [g9']
          have := h.1.2
          unfold CRbook at this ⊢
          rw [gm 43 (by decide) (by decide) (by decide) (by decide)]; exact this
        · refine ⟨by rw [g0', h5, upW_s, upW_s], Or.inr ⟨by rw [h5, upW_s], ?_, ?_, ?_, hX.2.2.1.chE g180.1, hX.2.2.2.chE g180.1 (by omega)⟩⟩
          · exact y0.chE (fun d hd => gg d (by unfold Yp at hd; omega) (by unfold Yp at hd; omega) (by unfold Yp at hd; omega) (by unfold Yp at hd; omega)) g180.1 hX.2.2.1.1
          · have m0' := m0.hi (W' := M3 180) (fun k hk => g180.1 k (by omega))
            obtain ⟨m1, m2, m3, m4, b1, b2, b3, b4, b5, b6⟩ := m0'
            have g : ∀ d, 53 ≤ d → d ≤ 59 → M3 d = M0 d := fun d h1 h2 => gg d (by omega) (by omega) (by omega) (by omega)
            rw [← g _ (by omega) (by omega)] at m1 m2 m3 m4 b1 b2 b3 b4 b5 b6
            exact ⟨m1, m2, m3, m4, b1, b2, b3, b4, b5, b6⟩
          · refine lkr.ch b0 (gg 86 (by decide) (by decide) (by decide) (by decide)) (fun t ht => g180.2 _ (by omega))
        · exact h.2.2.1.st ⟨fun c hc => gm c (by omega) (by omega) (by omega) (by omega), by rw [g0', upW_n (by decide)], by rw [g0', upW_n (by decide)], by rw [h5, upW_n (by decide)]⟩ g9'
        · obtain ⟨t2, t3, t4⟩ := h.2.2.2.1
          unfold RlT
          rw [gm 95 (by decide) (by decide) (by decide) (by decide), gm 96 (by decide) (by decide) (by decide) (by decide), gm 186 (by decide) (by decide) (by decide) (by decide), h5, upW_n (by decide), upW_n (by decide), upW_n (by decide)]
          exact ⟨t2, t3, t4⟩
        · obtain ⟨p1, p2, p3⟩ := h.2.2.2.2
          refine ⟨p1, by rw [gm 124 (by decide) (by decide) (by decide) (by decide)]; exact p2, ?_⟩
          rw [gm kn (by omega) (by omega) (by omega) (by omega)]
          exact p3
      · rw [if_pos rfl]
        funext i
        rw [if_neg (Nat.not_lt_zero i)]
  | false =>
    rcases i2 with i2 | ⟨i2, y0, m0, b0, iy, im⟩
    · refine Pr.mk (Q1 := fun x M1 => x = nI 0 ∧ M1 = M) (Sq.mk (k := 4) hD (fun D' hD' => ?_)) ?_
      · refine Lq.of (t_308_0_ok X (callw X D') n tot kn kx _ M) ?_
        unfold t_308_0
        rw [if_pos (by rfl), i1, i2, if_pos (by rfl), Wq_ret]
        exact ⟨rfl, rfl⟩
      · rintro x M1 ⟨rfl, rfl⟩
        refine Sq.mk (k := 4) hD (fun D' hD' => ?_)
        refine Lq.of (t_309_0_ok X (callw X D') n tot kn kx _ M1) ?_
        unfold t_309_0
        rw [if_pos (by rfl), i2, if_pos (by rfl), Wq_ret]
        exact ⟨rfl, h⟩
    · refine Pr.mk (Q1 := fun x M1 => x = nI 1 ∧ ∃ M0, (Fr [2, 3, 4, 5, 6, 7, 8, 9, 10, 11, 12, 13, 14, 15, 16, 17, 18, 19, 20, 21, 22, 23, 24, 25, 26, 27, 28, 29, 30, 31, 32, 33, 34, 35, 36, 37, 38, 39, 40, 41, 42, 43] M M0 ∧ CRy M0 1 (M 180) ∧ CRm M0 10 (M 180) ∧ CRbook M0 43 (M 180)) ∧ M1 = up M0 0 5 (nI 0)) (Sq.mk (k := 4) hD (fun D' hD' => ?_)) ?_
      · refine Lq.of (t_308_0_ok X (callw X D') n tot kn kx _ M) ?_
        unfold t_308_0
        rw [if_pos (by rfl), i1, i2, if_neg (by decide)]
        refine Wq.call (c_ycopy_1 (show 4 ≤ D' by omega) iy.1 y0 m0 b0) ?_
        rintro x M0 hM0
        rw [c_forget (by omega), bnd_some, Wq_ret]
        exact ⟨rfl, M0, hM0, rfl⟩
      · rintro x M1 ⟨rfl, M0, ⟨f0, y0', m0', b0'⟩, hM1⟩
        have f1 : Fr [0] M0 M1 := by rw [hM1]; exact Fr.rf.up (by decide)
        have e0 : M1 0 = upW (M 0) 5 (nI 0) := by rw [hM1, up_at, f0 0 (by decide)]
        have e9 : M1 179 = M 179 := by rw [f1 179 (by decide), f0 179 (by decide)]
        have e8 : M1 178 = M 178 := by rw [f1 178 (by decide), f0 178 (by decide)]
        have e10 : M1 180 = M 180 := by rw [f1 180 (by decide), f0 180 (by decide)]
        refine Sq.mk (k := 4) hD (fun D' hD' => ?_)
        refine Lq.of (t_309_0_ok X (callw X D') n tot kn kx _ M1) ?_
        unfold t_309_0
        rw [if_pos (by rfl), e8, i2, if_neg (by decide), Wq_jmp, o_nI]
        refine m_image_loop (a := false) (W := M 179) (K := M 180) (M0 := M1) ?_ 2834 0 M1 (by decide) Fr.rf ?_ ?_
        · intro M2 f2 g9 g0
          rw [if_neg (by decide)] at g9 g0
          refine Lq.of (t_309_15_ok X (callw X D') n tot kn kx _ _ M2) ?_
          unfold t_309_15
          simp only [o_nI]
          rw [if_neg (by rw [lt_i (by decide) (by decide)]; decide), if_pos (by rfl), m_forget (by omega), bnd_some, Wq_ret]
          refine ⟨rfl, ?_⟩
          have f3 : Fr [178] M2 (up (up M2 178 4 (nI 0)) 178 5 (nI 1)) := (Fr.rf.up (by decide)).up (by decide)
          have h5 : up (up M2 178 4 (nI 0)) 178 5 (nI 1) 178 = upW (upW (M 178) 4 (nI 0)) 5 (nI 1) := by rw [up_at, up_at, f2 178 (by decide), e8]
          generalize up (up M2 178 4 (nI 0)) 178 5 (nI 1) = M3 at f3 h5 ⊢
          have gg : ∀ d, d ≠ 0 → d ≠ 178 → d ≠ 179 → d ≠ 180 → M3 d = M0 d := fun d h1 h2 h3 h4 => by rw [f3 d (by simp; omega), f2 d (by simp; omega), f1 d (by simp; omega)]
          have g0' : M3 0 = upW (M 0) 5 (nI 0) := by rw [f3 0 (by decide), f2 0 (by decide), e0]
          have g10 : M3 180 = M 180 := by rw [f3 180 (by decide), g0]
          have gm : ∀ d, d ≠ 0 → d ≠ 178 → d ≠ 179 → (d < 2 ∨ 43 < d) → M3 d = M d := fun d h1 h2 h4 h5 => by
            by_cases e : d = 180
            · rw [e, g10]
            · rw [gg d h1 h2 h4 e, f0 d (by simp; omega)]
          have g179 : eqE (M 180) (M3 179) ∧ ∀ k, k < 2834 → M3 179 k = M 180 k := by
            rw [f3 179 (by decide), g9]
            exact ⟨fun k hk => if_pos (by omega), fun k hk => if_pos hk⟩
          have st : Stat M M3 := by
            refine ⟨fun c hc => gm c ?_ ?_ ?_ ?_, by rw [g0', upW_n (by decide)], by rw [h5, upW_s]; exact i2.symm, by rw [h5, upW_n (by decide), upW_n (by decide)], by rw [h5, upW_n (by decide), upW_n (by decide)], by rw [h5, upW_n (by decide), upW_n (by decide)]⟩
            · unfold Sp at hc; omega
            · unfold Sp at hc; omega
            · unfold Sp at hc; omega
            · unfold Sp at hc; omega
          have k98 := iy.1.2.2.1.2
          refine h.forget ⟨⟨?_, ?_, iy.chE g179.1, im.chE g179.1 (by omega)⟩, ?_⟩ st (by rw [g0', upW_s]) (by rw [g0', upW_n (by decide)]) (by rw [h5, upW_n (by decide), upW_s])
          · exact y0'.chE (fun d hd => gg d (by unfold Yp at hd; omega) (by unfold Yp at hd; omega) (by unfold Yp at hd; omega) (by unfold Yp at hd; omega)) g179.1 iy.1
          · have m0'' := m0'.hi (W' := M3 179) (fun k hk => g179.1 k (by omega))
            obtain ⟨m1, m2, m3, m4, b1, b2, b3, b4, b5, b6⟩ := m0''
            have g : ∀ d, 10 ≤ d → d ≤ 16 → M3 d = M0 d := fun d h1 h2 => gg d (by omega) (by omega) (by omega) (by omega)
            rw [← g _ (by omega) (by omega)] at m1 m2 m3 m4 b1 b2 b3 b4 b5 b6
            exact ⟨m1, m2, m3, m4, b1, b2, b3, b4, b5, b6⟩
          · exact lkr.ch b0' (gg 43 (by decide) (by decide) (by decide) (by decide)) (fun t ht => g179.2 _ (by omega))
        · rw [if_neg (by decide), e9]
          funext i
          rw [if_neg (Nat.not_lt_zero i)]
        · rw [if_neg (by decide), e10]
end
