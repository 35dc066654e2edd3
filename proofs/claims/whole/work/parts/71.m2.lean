section
-- needs: m1
/-! the reference model: what its laws say -/
theorem and1 (y : Int32) : y &&& nI 1 = nI 0 ∨ y &&& nI 1 = nI 1 := by
  have e : y = nI y.toBitVec.toNat := Int32.toBitVec_inj.mp (by rw [nI_bv]; simp)
  rw [e, nI_and, Nat.and_one_is_mod]
  rcases Nat.mod_two_eq_zero_or_one y.toBitVec.toNat with h | h <;> rw [h]
  · exact Or.inl rfl
  · exact Or.inr rfl
theorem bit_0 {s i : Int32} : ((s >>> (i &&& 31)) &&& nI 1 = nI 0) = (q_bit s i = false) := by
  unfold q_bit
  rw [decide_eq_false_iff_not]
  rcases and1 (s >>> (i &&& 31)) with h | h
  · rw [h]; exact propext ⟨fun _ => by decide +kernel, fun _ => rfl⟩
  · rw [h]; exact propext ⟨fun e => absurd e (by decide +kernel), fun e => absurd rfl e⟩
theorem bit_1 {s i : Int32} : ((s >>> (i &&& 31)) &&& nI 1 = nI 1) = (q_bit s i = true) := by
  unfold q_bit
  rw [decide_eq_true_eq]
theorem q_law.len {W C : Nat → Int32} {k : Nat} (h : q_law W k C) : W (100 + k) = nI (q_n W (100 + k)) ∧ q_n W (100 + k) ≤ 16 := by
  obtain ⟨l, hl, hw, _⟩ := h
  unfold q_n
  rw [hw, nI_clamp (by omega)]
  exact ⟨rfl, hl⟩
theorem q_law.line {W C : Nat → Int32} {k i : Nat} (h : q_law W k C) (hi : i < q_n W (100 + k)) : ∃ f m t w, f ≤ m ∧ m ≤ t ∧ t ≤ 400 ∧ W (266 + 16 * k + i) = nI f ∧ W (298 + 16 * k + i) = nI m ∧ W (330 + 16 * k + i) = nI t ∧ W (362 + 16 * k + i) = nI w ∧ (k = 0 → w = 20 ∨ w = 21) ∧ (k = 1 → w = 22 ∨ w = 23 ∨ w = 24) ∧ (k = 1 → q_wf (q_S W k) C (m - f) f 0 1) ∧ (m < t → q_wf (q_S W k) C (t - m) m 0 1) := by
  obtain ⟨l, hl, hw, h2⟩ := h
  refine h2 i ?_
  unfold q_n at hi
  rw [hw, nI_clamp (by omega)] at hi
  exact hi
variable {X : KXw} {n tot kn D : Nat} {kx : Nat → Nat × Nat} {M : MMw}
theorem m_holds (hD : 3 ≤ D) {k i : Nat} {C F : Nat → Int32} (hk : k < 2) (hl : q_law (M 179) k C) (hi : i < q_n (M 179) (100 + k)) (hF : ∀ j, 1 ≤ j → j ≤ 10 → M 188 j = F j) :
    Sq X D 84 [.inr (.inl 178), .inl (nI k), .inl (nI i)] (Gk n tot kn kx) M (fun x M' => x = b2i (q_holds (M 179) k F i) ∧ Fr [187] M M') :=
  Sq.mk (k := 2) hD (fun D' hD' => by
    have hi2 := hl.len.2
    obtain ⟨f, m, t, w, h1, h2, h3, h4, h5, h6, h7, h8, h9, h10, h11⟩ := hl.line hi
    refine Lq.of (t_84_0_ok X (callw X D') n tot kn kx _ _ M) ?_
    unfold t_84_0
    have hm : q_n (M 179) (298 + 16 * k + i) = m := by unfold q_n; rw [h5, nI_clamp (by omega)]
    have ht : q_n (M 179) (330 + 16 * k + i) = t := by unfold q_n; rw [h6, nI_clamp (by omega)]
    have hq : q_holds (M 179) k F i = (decide (t = m) || decide (q_val F (q_S (M 179) k) m t = nI 1)) := by
      unfold q_holds
      rw [hm, ht, h5, h6]
      congr 1
      rw [decide_eq_decide, eq_i (by omega) (by omega)]
    rw [hq]
    simp (disch := omega) only [o_nI, nI_mul, nI_add, inb_nI, if_true, nI_clamp, h5, h6, eq_i]
    by_cases e : t = m
    · rw [if_pos e, Wq_ret]
      refine ⟨?_, Fr.rf⟩
      rw [decide_eq_true e]
      rfl
    · rw [if_neg e]
      refine Wq.call (m_comes hD' hk h2 h3 hF (h11 (by omega))) ?_
      rintro x M' ⟨hx, hfr⟩
      subst hx
      rw [decide_eq_false e, Bool.false_or]
      by_cases hv : q_val F (q_S (M 179) k) m t = nI 1
      · rw [if_pos hv, Wq_ret, decide_eq_true hv]
        exact ⟨rfl, hfr⟩
      · rw [if_neg hv, Wq_ret, decide_eq_false hv]
        exact ⟨rfl, hfr⟩)
theorem m_will_loop (hD : 3 ≤ D) {W C F : Nat → Int32} (hl : q_law W 0 C) : ∀ (c i : Nat) (M : MMw), i + c = q_n W 100 → M 179 = W → (∀ j, 1 ≤ j → j ≤ 10 → M 188 j = F j) → (∀ j, j < i → q_holds W 0 F j = false) →
    Lq X (callw X D) 85 8 [some (.inr (.inl 178)), none, none, some (.inl (nI i))] (Gk n tot kn kx) M (fun x M' => x = b2i (match q_find (q_holds W 0 F) (q_n W 100) with | none => true | some i => decide (W (362 + i) = nI 20)) ∧ Fr [187] M M')
  | 0, i, M, hi, hW, hF, hn => by
    refine Lq.of (t_85_8_ok X (callw X D) n tot kn kx _ M) ?_
    unfold t_85_8
    have hL := hl.len
    rw [Nat.add_zero] at hL
    rw [hW, hL.1, if_neg (by rw [lt_i (by omega) (by omega)]; omega), Wq_ret, q_find_none.mpr (fun j hj => hn j (by omega))]
    exact ⟨rfl, Fr.rf⟩
  | c + 1, i, M, hi, hW, hF, hn => by
    refine Lq.of (t_85_8_ok X (callw X D) n tot kn kx _ M) ?_
    unfold t_85_8
    have hL := hl.len
    rw [Nat.add_zero] at hL
    subst hW
    rw [hL.1, if_pos (by rw [lt_i (by omega) (by omega)]; omega)]
    refine Wq.call (m_holds hD (by decide) hl (by rw [Nat.add_zero]; omega) hF) ?_
    rintro x M' ⟨hx, hfr⟩
    subst hx
    simp only [z_nI, b2i_0]
    have e1 : M' 179 = M 179 := hfr 179 (by decide)
    cases hh : q_holds (M 179) 0 F i with
    | false =>
      rw [if_pos rfl, Wq_jmp, i1_nI, nI_add]
      refine Lq.mono (m_will_loop (F := F) hD hl c (i + 1) M' (by omega) e1 (fun j h1 h2 => by rw [hfr 188 (by decide)]; exact hF j h1 h2) ?_) ?_
      · intro j hj
        rcases Nat.lt_or_ge j i with h1 | h1
        · exact hn j h1
        · rw [show j = i by omega]; exact hh
      · rintro x M2 ⟨h1, h2⟩
        exact ⟨h1, hfr.tr h2⟩
    | true =>
      rw [if_neg (by decide)]
      obtain ⟨f, m, t, w, h1, h2, h3, h4, h5, h6, h7, h8, h9, h10, h11⟩ := hl.line (i := i) (by rw [Nat.add_zero]; omega)
      have hw := h8 rfl
      rw [show 362 + 16 * 0 + i = 362 + i by omega] at h7
      rw [q_find_at hn hh (by omega)]
      dsimp only
      simp (disch := omega) only [o_nI, nI_add, inb_nI, if_true, nI_clamp, e1, h7, eq_i]
      by_cases e : w = 20
      · rw [if_pos e, Wq_ret, decide_eq_true e]
        exact ⟨rfl, hfr⟩
      · rw [if_neg e, Wq_ret, decide_eq_false e]
        exact ⟨rfl, hfr⟩
theorem m_will (hD : 4 ≤ D) {t m : Nat} {C : Nat → Int32} (ht : t < 8) (hm : m < 4) (hl : q_law (M 179) 0 C) :
    Sq X D 85 [.inr (.inl 178), .inl (nI t), .inl (nI m)] (Gk n tot kn kx) M (fun x M' => x = b2i (q_will (M 179) t m) ∧ Fr [187, 188] M M') :=
  Sq.mk (k := 3) hD (fun D' hD' => by
    refine Lq.of (t_85_0_ok X (callw X D') n tot kn kx _ _ M) ?_
    unfold t_85_0
    refine Wq.call (m_lays (by omega) ht hm) ?_
    rintro x M1 ⟨hfr, hF⟩
    rw [Wq_jmp, o_nI]
    have e1 : M1 179 = M 179 := hfr 179 (by decide)
    refine Lq.mono (m_will_loop (F := q_fact (M 179) t m) hD' hl (q_n (M 179) 100) 0 M1 (by omega) e1 hF (fun j hj => absurd hj (Nat.not_lt_zero j))) ?_
    rintro x M2 ⟨h1, h2⟩
    exact ⟨h1, (hfr.mono (by decide)).tr (h2.mono (by decide))⟩)
theorem m_mayIts (hD : 1 ≤ D) {b : Nat} {k : Int32} (hb : 4 + b < 2834) : callw X D 53 [.inr (.inl 178), .inl (nI b), .inl k] (Gk n tot kn kx) M = some (b2i (q_bit (M 179 (4 + b)) k), Gk n tot kn kx, M) :=
  ex1 hD (fun cl => t_53_0_ok X cl n tot kn kx _ _ M) (fun cl => by
    unfold t_53_0
    simp (disch := omega) only [o_nI, nI_add, inb_nI, if_true, nI_clamp, bit_1]
    cases q_bit (M 179 (4 + b)) k <;> rfl)
theorem m_would (hD : 5 ≤ D) {t m : Nat} {C : Nat → Int32} (ht : t < 8) (hm : m < 4) (hl : q_law (M 179) 0 C) :
    Sq X D 86 [.inr (.inl 178), .inl (nI t), .inl (nI m)] (Gk n tot kn kx) M (fun x M' => x = b2i (q_would (M 179) t m) ∧ Fr [187, 188] M M') :=
  Sq.mk (k := 4) hD (fun D' hD' => by
    refine Lq.of (t_86_0_ok X (callw X D') n tot kn kx _ _ M) ?_
    unfold t_86_0
    simp (disch := omega) only [o_nI, z_nI, m_ofTool, bnd_some, bit_0]
    unfold q_would q_strikes q_week q_rem
    rw [show 16 + 10 * t + 1 = 17 + 10 * t by omega, show 16 + 10 * t + 6 = 22 + 10 * t by omega, show 16 + 10 * t + 3 = 19 + 10 * t by omega]
    cases q_bit (M 179 1) (M 179 (17 + 10 * t)) with
    | true => rw [if_neg (by decide), Wq_ret]; exact ⟨rfl, Fr.rf⟩
    | false =>
      rw [if_pos rfl]
      by_cases h1 : M 179 (22 + 10 * t) = M 179 0 / nI 8 - M 179 0 / nI 8 / nI 7 * nI 7
      · rw [if_pos h1, Wq_ret, decide_eq_true h1]; exact ⟨rfl, Fr.rf⟩
      · rw [if_neg h1, decide_eq_false h1]
        by_cases h2 : nI 0 < M 179 (19 + 10 * t)
        · rw [if_pos h2, decide_eq_true h2]
          refine Wq.call (m_will hD' ht hm hl) ?_
          rintro x M' ⟨hx, hfr⟩
          subst hx
          simp only [b2i_0]
          cases q_will (M 179) t m with
          | false => rw [if_pos rfl, Wq_ret]; exact ⟨rfl, hfr⟩
          | true => rw [if_neg (by decide), Wq_ret]; exact ⟨rfl, hfr⟩
        · rw [if_neg h2, Wq_ret, decide_eq_false h2]; exact ⟨rfl, Fr.rf⟩)
theorem m_serve (hD : 6 ≤ D) {t m : Nat} {C : Nat → Int32} (ht : t < 8) (hm : m < 4) (hl : q_law (M 179) 0 C) (hk : q_kb (M 179) t) :
    Sq X D 87 [.inr (.inl 178), .inl (nI t), .inl (nI m)] (Gk n tot kn kx) M (fun x M' => x = b2i (q_serve (M 179) t m) ∧ Fr [187, 188] M M') :=
  Sq.mk (k := 5) hD (fun D' hD' => by
    refine Lq.of (t_87_0_ok X (callw X D') n tot kn kx _ _ M) ?_
    unfold t_87_0
    simp (disch := omega) only [o_nI, z_nI, m_ofTool, bnd_some]
    rw [show 16 + 10 * t + 1 = 17 + 10 * t by omega, show 16 + 10 * t + 0 = 16 + 10 * t by omega, hk.1]
    have hb := hk.2.1
    rw [m_mayIts (by omega) (by omega)]
    simp only [bnd_some, b2i_0]
    unfold q_serve q_mays
    cases q_bit (M 179 (4 + q_n (M 179) (17 + 10 * t))) (M 179 (16 + 10 * t)) with
    | false => rw [if_pos rfl, Wq_ret]; exact ⟨rfl, Fr.rf⟩
    | true =>
      rw [if_neg (by decide)]
      refine Wq.call (m_would hD' ht hm hl) ?_
      rintro x M' ⟨hx, hfr⟩
      subst hx
      simp only [b2i_0]
      cases q_would (M 179) t m with
      | false => rw [if_pos rfl, Wq_ret]; exact ⟨rfl, hfr⟩
      | true => rw [if_neg (by decide), Wq_ret]; exact ⟨rfl, hfr⟩)
theorem m_edges_loop (hD : 3 ≤ D) {W C F : Nat → Int32} {w : Nat} {d lo hi : Int32} (hw : w < 3) (hl : q_law W 1 C) : ∀ (c i : Nat) (M : MMw), i + c = q_n W 101 → M 179 = W → (∀ j, 1 ≤ j → j ≤ 10 → M 188 j = F j) → (∀ j, j < i → (decide (W (378 + j) = nI (22 + w)) && q_holds W 1 F j) = false) →
    Lq X (callw X D) 89 3 [some (.inr (.inl 178)), some (.inl (nI (22 + w))), some (.inl d), some (.inl lo), some (.inl hi), some (.inl (nI i))] (Gk n tot kn kx) M (fun x M' => x = (match q_find (fun i => decide (W (378 + i) = nI (22 + w)) && q_holds W 1 F i) (q_n W 101) with | none => d | some i => q_held (q_val F (q_S W 1) (q_n W (282 + i)) (q_n W (314 + i))) lo hi) ∧ Fr [187] M M')
  | 0, i, M, hic, hW, hF, hn => by
    refine Lq.of (t_89_3_ok X (callw X D) n tot kn kx _ _ _ _ _ M) ?_
    unfold t_89_3
    have hL := hl.len
    rw [show 100 + 1 = 101 from rfl] at hL
    rw [hW, hL.1, if_neg (by rw [lt_i (by omega) (by omega)]; omega), Wq_ret, q_find_none.mpr (fun j hj => hn j (by omega))]
    exact ⟨rfl, Fr.rf⟩
  | c + 1, i, M, hic, hW, hF, hn => by
    refine Lq.of (t_89_3_ok X (callw X D) n tot kn kx _ _ _ _ _ M) ?_
    unfold t_89_3
    have hL := hl.len
    rw [show 100 + 1 = 101 from rfl] at hL
    subst hW
    rw [hL.1, if_pos (by rw [lt_i (by omega) (by omega)]; omega)]
    obtain ⟨f, m, t, v, h1, h2, h3, h4, h5, h6, h7, h8, h9, h10, h11⟩ := hl.line (i := i) (by show i < q_n (M 179) 101; omega)
    have hv := h9 rfl
    rw [show 362 + 16 * 1 + i = 378 + i by omega] at h7
    have next : ∀ M' : MMw, Fr [187] M M' → (decide (M 179 (378 + i) = nI (22 + w)) && q_holds (M 179) 1 F i) = false → Lq X (callw X D) 89 3 [some (.inr (.inl 178)), some (.inl (nI (22 + w))), some (.inl d), some (.inl lo), some (.inl hi), some (.inl (nI (i + 1)))] (Gk n tot kn kx) M' (fun x M' => x = (match q_find (fun i => decide (M 179 (378 + i) = nI (22 + w)) && q_holds (M 179) 1 F i) (q_n (M 179) 101) with | none => d | some i => q_held (q_val F (q_S (M 179) 1) (q_n (M 179) (282 + i)) (q_n (M 179) (314 + i))) lo hi) ∧ Fr [187] M M') := by
      intro M' hfr hno
      have e1 : M' 179 = M 179 := hfr 179 (by decide)
      refine Lq.mono (m_edges_loop (F := F) hD hw hl c (i + 1) M' (by omega) e1 (fun j h1 h2 => by rw [hfr 188 (by decide)]; exact hF j h1 h2) ?_) ?_
      · intro j hj
        rcases Nat.lt_or_ge j i with h1 | h1
        · exact hn j h1
        · rw [show j = i by omega]; exact hno
      · rintro x M2 ⟨h1, h2⟩
        exact ⟨h1, hfr.tr h2⟩
    simp (disch := omega) only [o_nI, i1_nI, nI_add, inb_nI, if_true, nI_clamp]
    by_cases hword : M 179 (378 + i) = nI (22 + w)
    · rw [if_pos hword]
      refine Wq.call (m_holds hD (by decide) hl (by show i < q_n (M 179) 101; omega) hF) ?_
      rintro x M' ⟨hx, hfr⟩
      subst hx
      have e1 : M' 179 = M 179 := hfr 179 (by decide)
      simp only [z_nI, b2i_0]
      cases hh : q_holds (M 179) 1 F i with
      | false =>
        rw [if_pos rfl, Wq_jmp]
        exact next M' hfr (by rw [hh, Bool.and_false])
      | true =>
        rw [if_neg (by decide), q_find_at hn (by rw [decide_eq_true hword, hh]; rfl) (by omega), e1]
        have e4 : M 179 (282 + i) = nI f := by rw [← h4, show 266 + 16 * 1 + i = 282 + i by omega]
        have e5 : M 179 (314 + i) = nI m := by rw [← h5, show 298 + 16 * 1 + i = 314 + i by omega]
        simp only [q_n, e4, e5]
        rw [nI_clamp (by omega), nI_clamp (by omega)]
        refine Wq.call (m_comes (M := M') (F := F) (C := C) (by omega) (by decide) h1 (by omega) (fun j h1 h2 => by rw [hfr 188 (by decide)]; exact hF j h1 h2) (by rw [e1]; exact h10 rfl)) ?_
        rintro x M2 ⟨hx, hfr2⟩
        subst hx
        rw [m_held (by omega), bnd_some, Wq_ret, e1]
        exact ⟨rfl, hfr.tr hfr2⟩
    · rw [if_neg hword, Wq_jmp]
      exact next M Fr.rf (by rw [decide_eq_false hword, Bool.false_and])
theorem m_edges (hD : 4 ≤ D) {C F : Nat → Int32} {w : Nat} {d lo hi : Int32} (hw : w < 3) (hl : q_law (M 179) 1 C) (hF : ∀ j, 1 ≤ j → j ≤ 10 → M 188 j = F j) :
    Sq X D 89 [.inr (.inl 178), .inl (nI (22 + w)), .inl d, .inl lo, .inl hi] (Gk n tot kn kx) M (fun x M' => x = (match q_find (fun i => decide (M 179 (378 + i) = nI (22 + w)) && q_holds (M 179) 1 F i) (q_n (M 179) 101) with | none => d | some i => q_held (q_val F (q_S (M 179) 1) (q_n (M 179) (282 + i)) (q_n (M 179) (314 + i))) lo hi) ∧ Fr [187] M M') :=
  Sq.mk (k := 3) hD (fun D' hD' => by
    refine Lq.of (t_89_0_ok X (callw X D') n tot kn kx _ _ _ _ M) ?_
    unfold t_89_0
    rw [Wq_jmp, o_nI]
    exact m_edges_loop hD' hw hl _ 0 M (Nat.zero_add _) rfl hF (fun j hj => absurd hj (Nat.not_lt_zero j)))
theorem m_wear (hD : 5 ≤ D) {t m : Nat} {C : Nat → Int32} (ht : t < 8) (hm : m < 4) (hl : q_law (M 179) 1 C) :
    Sq X D 90 [.inr (.inl 178), .inl (nI t), .inl (nI m)] (Gk n tot kn kx) M (fun x M' => x = q_tell (M 179) t m 0 ∧ Fr [187, 188] M M') :=
  Sq.mk (k := 4) hD (fun D' hD' => by
    refine Lq.of (t_90_0_ok X (callw X D') n tot kn kx _ _ M) ?_
    unfold t_90_0
    refine Wq.call (m_lays (by omega) ht hm) ?_
    rintro x M1 ⟨hfr, hF⟩
    have e1 : M1 179 = M 179 := hfr 179 (by decide)
    simp only [o_nI]
    refine Wq.call (m_edges (w := 0) hD' (by decide) (by rw [e1]; exact hl) hF) ?_
    rintro x M2 ⟨h1, h2⟩
    rw [Wq_ret]
    refine ⟨?_, (hfr.mono (by decide)).tr (h2.mono (by decide))⟩
    rw [h1, e1]
    rfl)
theorem m_mood (hD : 5 ≤ D) {t m : Nat} {C : Nat → Int32} (ht : t < 8) (hm : m < 4) (hl : q_law (M 179) 1 C) :
    Sq X D 91 [.inr (.inl 178), .inl (nI t), .inl (nI m)] (Gk n tot kn kx) M (fun x M' => x = q_tell (M 179) t m 1 ∧ Fr [187, 188] M M') :=
  Sq.mk (k := 4) hD (fun D' hD' => by
    refine Lq.of (t_91_0_ok X (callw X D') n tot kn kx _ _ M) ?_
    unfold t_91_0
    refine Wq.call (m_lays (by omega) ht hm) ?_
    rintro x M1 ⟨hfr, hF⟩
    have e1 : M1 179 = M 179 := hfr 179 (by decide)
    simp only [o_nI]
    refine Wq.call (m_edges (w := 1) hD' (by decide) (by rw [e1]; exact hl) hF) ?_
    rintro x M2 ⟨h1, h2⟩
    rw [Wq_ret]
    refine ⟨?_, (hfr.mono (by decide)).tr (h2.mono (by decide))⟩
    rw [h1, e1]
    rfl)
theorem m_like (hD : 5 ≤ D) {t m : Nat} {C : Nat → Int32} (ht : t < 8) (hm : m < 4) (hl : q_law (M 179) 1 C) :
    Sq X D 200 [.inr (.inl 178), .inl (nI t), .inl (nI m)] (Gk n tot kn kx) M (fun x M' => x = q_tell (M 179) t m 2 ∧ Fr [187, 188] M M') :=
  Sq.mk (k := 4) hD (fun D' hD' => by
    refine Lq.of (t_200_0_ok X (callw X D') n tot kn kx _ _ M) ?_
    unfold t_200_0
    refine Wq.call (m_lays (by omega) ht hm) ?_
    rintro x M1 ⟨hfr, hF⟩
    have e1 : M1 179 = M 179 := hfr 179 (by decide)
    simp only [o_nI]
    refine Wq.call (m_edges (w := 2) hD' (by decide) (by rw [e1]; exact hl) hF) ?_
    rintro x M2 ⟨h1, h2⟩
    rw [Wq_ret]
    refine ⟨?_, (hfr.mono (by decide)).tr (h2.mono (by decide))⟩
    rw [h1, e1]
    rfl)
end
