section
-- needs: c1 rel
/-! the class: its laws -/
variable {X : KXw} {n tot kn D : Nat} {kx : Nat → Nat × Nat} {M : MMw}
theorem nI_80 {w : Nat} : nI w + nI 80 = nI (w + 80) := nI_add _ _
theorem c_bell10 (hD : 1 ≤ D) {W : Nat → Int32} (h : CRm M 10 W) : callw X D 60 [.inr (.inl 10)] (Gk n tot kn kx) M = some (q_bell W, Gk n tot kn kx, M) :=
  ex1 hD (fun cl => t_60_p10_0_ok X cl n tot kn kx M) (fun cl => by
    unfold t_60_p10_0
    rw [h.1]
    rfl)
theorem c_week10 (hD : 1 ≤ D) {W : Nat → Int32} (h : CRm M 10 W) : callw X D 59 [.inr (.inl 10)] (Gk n tot kn kx) M = some (q_week W, Gk n tot kn kx, M) :=
  ex1 hD (fun cl => t_59_p10_0_ok X cl n tot kn kx M) (fun cl => by
    unfold t_59_p10_0
    rw [h.1]
    rfl)
set_option maxHeartbeats 2000000 in
theorem c_learn10 (hD : 2 ≤ D) {W : Nat → Int32} {t m : Nat} (ht : t < 8) (hm : m < 4) (h : CX M 10 W) : Sq X D 61 [.inr (.inl 120), .inr (.inl 1), .inr (.inl 10), .inl (nI t), .inl (nI m)] (Gk n tot kn kx) M (fun x M' => Fr [122] M M' ∧ ∀ j, j < 10 → M' 122 j = q_fact W t m (j + 1)) :=
  Sq.mk (k := 1) hD (fun D' hD' => by
    refine Lq.of (t_61_p120_p1_p10_0_ok X (callw X D') n tot kn kx _ _ M) ?_
    unfold t_61_p120_p1_p10_0
    obtain ⟨⟨⟨_, _, _, _, a1, a2, a3, a4, a5, a6, a7⟩, _⟩, hm2, _⟩ := id h
    obtain ⟨m1, m2, m3, m4, b1, b2, b3, b4, b5, b6⟩ := id hm2
    simp (disch := omega) only [Nat.one_mul, m1_nI, m1n, o_nI, z_nI, i1_nI, im1_nI, nI_add, nI_mul, lt_i, eq_i, inb_nI, ↓reduceIte, nI_clamp, bnd_some, b2i_0, b2i_1, b2i_t, b2i_f, Wq_ret, Wq_jmp, up_ne, up_at, upW_s, upW_n, Nat.reduceAdd, Nat.reduceMul, Nat.reduceLT, Nat.reduceEqDiff, Nat.add_zero, Nat.zero_add, reduceCtorEq, a1 t ht, a2 t ht, a3 t ht, a6 m hm, a7 m hm, b1 t ht, b2 t ht, b3 t ht]
    have key : ∀ v, v = q_ab W t m → Lq X (callw X D') 61 100 [some (.inr (.inl 120)), some (.inr (.inl 1)), some (.inr (.inl 10)), some (.inl (nI t)), none] (Gk n tot kn kx) (up (up (up (up (up (up M 122 0 (W (130 + 2 * m))) 122 1 (W (19 + 10 * t))) 122 2 (W (20 + 10 * t))) 122 3 (W (23 + 10 * t))) 122 4 (W (16 + 10 * t))) 122 5 v) (fun x M' => Fr [122] M M' ∧ ∀ j, j < 10 → M' 122 j = q_fact W t m (j + 1)) := by
      intro v hv
      refine Lq.of (t_61_p120_p1_p10_100_ok X (callw X D') n tot kn kx _ _) ?_
      unfold t_61_p120_p1_p10_100
      have fr : ∀ k v M', Fr [122] M M' → Fr [122] M (up M' 122 k v) := fun k v M' hh => hh.up (by decide)
      have f6 := fr 6 (W (17 + 10 * t)) _ (fr 5 v _ (fr 4 (W (16 + 10 * t)) _ (fr 3 (W (23 + 10 * t)) _ (fr 2 (W (20 + 10 * t)) _ (fr 1 (W (19 + 10 * t)) _ (fr 0 (W (130 + 2 * m)) _ Fr.rf))))))
      have g6 := hm2.fr f6 (by decide)
      have g7 := hm2.fr (fr 7 (q_bell W) _ f6) (by decide)
      simp (disch := omega) only [Nat.one_mul, m1_nI, m1n, o_nI, z_nI, i1_nI, im1_nI, nI_add, nI_mul, lt_i, eq_i, inb_nI, ↓reduceIte, nI_clamp, bnd_some, b2i_0, b2i_1, b2i_t, b2i_f, Wq_ret, Wq_jmp, up_ne, upW_s, upW_n, Nat.reduceAdd, Nat.reduceMul, Nat.reduceLT, Nat.reduceEqDiff, Nat.add_zero, Nat.zero_add, reduceCtorEq, a2 t ht, b4 t ht, c_bell10 hD' g6, c_week10 hD' g7]
      refine ⟨fr _ _ _ (fr _ _ _ (fr _ _ _ f6)), ?_⟩
      intro i h2
      have h3 : i = 0 ∨ i = 1 ∨ i = 2 ∨ i = 3 ∨ i = 4 ∨ i = 5 ∨ i = 6 ∨ i = 7 ∨ i = 8 ∨ i = 9 := by omega
      rcases h3 with rfl | rfl | rfl | rfl | rfl | rfl | rfl | rfl | rfl | rfl <;> simp [up_at, upW, q_fact, hv]
    split
    · rename_i hh
      rw [Wq_jmp]
      refine key _ ?_
      unfold q_ab
      rw [if_pos hh]
    · rename_i hh
      rw [Wq_jmp]
      refine key _ ?_
      unfold q_ab
      rw [if_neg hh])
theorem c_bell87 (hD : 1 ≤ D) {W : Nat → Int32} (h : CRm M 87 W) : callw X D 60 [.inr (.inl 87)] (Gk n tot kn kx) M = some (q_bell W, Gk n tot kn kx, M) :=
  ex1 hD (fun cl => t_60_p87_0_ok X cl n tot kn kx M) (fun cl => by
    unfold t_60_p87_0
    rw [h.1]
    rfl)
theorem c_week87 (hD : 1 ≤ D) {W : Nat → Int32} (h : CRm M 87 W) : callw X D 59 [.inr (.inl 87)] (Gk n tot kn kx) M = some (q_week W, Gk n tot kn kx, M) :=
  ex1 hD (fun cl => t_59_p87_0_ok X cl n tot kn kx M) (fun cl => by
    unfold t_59_p87_0
    rw [h.1]
    rfl)
set_option maxHeartbeats 2000000 in
theorem c_learn87 (hD : 2 ≤ D) {W : Nat → Int32} {t m : Nat} (ht : t < 8) (hm : m < 4) (h : CX M 87 W) : Sq X D 61 [.inr (.inl 120), .inr (.inl 1), .inr (.inl 87), .inl (nI t), .inl (nI m)] (Gk n tot kn kx) M (fun x M' => Fr [122] M M' ∧ ∀ j, j < 10 → M' 122 j = q_fact W t m (j + 1)) :=
  Sq.mk (k := 1) hD (fun D' hD' => by
    refine Lq.of (t_61_p120_p1_p87_0_ok X (callw X D') n tot kn kx _ _ M) ?_
    unfold t_61_p120_p1_p87_0
    obtain ⟨⟨⟨_, _, _, _, a1, a2, a3, a4, a5, a6, a7⟩, _⟩, hm2, _⟩ := id h
    obtain ⟨m1, m2, m3, m4, b1, b2, b3, b4, b5, b6⟩ := id hm2
    simp (disch := omega) only [Nat.one_mul, m1_nI, m1n, o_nI, z_nI, i1_nI, im1_nI, nI_add, nI_mul, lt_i, eq_i, inb_nI, ↓reduceIte, nI_clamp, bnd_some, b2i_0, b2i_1, b2i_t, b2i_f, Wq_ret, Wq_jmp, up_ne, up_at, upW_s, upW_n, Nat.reduceAdd, Nat.reduceMul, Nat.reduceLT, Nat.reduceEqDiff, Nat.add_zero, Nat.zero_add, reduceCtorEq, a1 t ht, a2 t ht, a3 t ht, a6 m hm, a7 m hm, b1 t ht, b2 t ht, b3 t ht]
    have key : ∀ v, v = q_ab W t m → Lq X (callw X D') 61 100 [some (.inr (.inl 120)), some (.inr (.inl 1)), some (.inr (.inl 87)), some (.inl (nI t)), none] (Gk n tot kn kx) (up (up (up (up (up (up M 122 0 (W (130 + 2 * m))) 122 1 (W (19 + 10 * t))) 122 2 (W (20 + 10 * t))) 122 3 (W (23 + 10 * t))) 122 4 (W (16 + 10 * t))) 122 5 v) (fun x M' => Fr [122] M M' ∧ ∀ j, j < 10 → M' 122 j = q_fact W t m (j + 1)) := by
      intro v hv
      refine Lq.of (t_61_p120_p1_p87_100_ok X (callw X D') n tot kn kx _ _) ?_
      unfold t_61_p120_p1_p87_100
      have fr : ∀ k v M', Fr [122] M M' → Fr [122] M (up M' 122 k v) := fun k v M' hh => hh.up (by decide)
      have f6 := fr 6 (W (17 + 10 * t)) _ (fr 5 v _ (fr 4 (W (16 + 10 * t)) _ (fr 3 (W (23 + 10 * t)) _ (fr 2 (W (20 + 10 * t)) _ (fr 1 (W (19 + 10 * t)) _ (fr 0 (W (130 + 2 * m)) _ Fr.rf))))))
      have g6 := hm2.fr f6 (by decide)
      have g7 := hm2.fr (fr 7 (q_bell W) _ f6) (by decide)
      simp (disch := omega) only [Nat.one_mul, m1_nI, m1n, o_nI, z_nI, i1_nI, im1_nI, nI_add, nI_mul, lt_i, eq_i, inb_nI, ↓reduceIte, nI_clamp, bnd_some, b2i_0, b2i_1, b2i_t, b2i_f, Wq_ret, Wq_jmp, up_ne, upW_s, upW_n, Nat.reduceAdd, Nat.reduceMul, Nat.reduceLT, Nat.reduceEqDiff, Nat.add_zero, Nat.zero_add, reduceCtorEq, a2 t ht, b4 t ht, c_bell87 hD' g6, c_week87 hD' g7]
      refine ⟨fr _ _ _ (fr _ _ _ (fr _ _ _ f6)), ?_⟩
      intro i h2
      have h3 : i = 0 ∨ i = 1 ∨ i = 2 ∨ i = 3 ∨ i = 4 ∨ i = 5 ∨ i = 6 ∨ i = 7 ∨ i = 8 ∨ i = 9 := by omega
      rcases h3 with rfl | rfl | rfl | rfl | rfl | rfl | rfl | rfl | rfl | rfl <;> simp [up_at, upW, q_fact, hv]
    split
    · rename_i hh
      rw [Wq_jmp]
      refine key _ ?_
      unfold q_ab
      rw [if_pos hh]
    · rename_i hh
      rw [Wq_jmp]
      refine key _ ?_
      unfold q_ab
      rw [if_neg hh])
theorem c_first31 (hD : 2 ≤ D) {W F : Nat → Int32} (h : CRlaw M 31 W 0) (hF : ∀ j, j < 10 → M 122 j = F (j + 1)) : Sq X D 63 [.inr (.inl 120), .inr (.inl 31), .inl (-1)] (Gk n tot kn kx) M (fun x M' => x = (match q_find (q_holds W 0 F) (q_n W 100) with | none => -1 | some i => nI i) ∧ Fr [121] M M') :=
  Sq.mk (k := 1) hD (fun D' hD' => by
    refine Lq.of (t_63_p120_p31_0_ok X (callw X D') n tot kn kx _ M) ?_
    unfold t_63_p120_p31_0
    obtain ⟨h1, h2, h3⟩ := h
    have hL := h3.len
    rw [Nat.add_zero] at hL h1 h2
    rw [Wq_jmp, o_nI]
    have loop : ∀ (c i : Nat) (M1 : MMw), i + c = q_n W 100 → Fr [121] M M1 → (∀ j, j < i → q_holds W 0 F j = false) → Lq X (callw X D') 63 2 [some (.inr (.inl 120)), some (.inr (.inl 31)), some (.inl (-1)), some (.inl (nI i))] (Gk n tot kn kx) M1 (fun x M' => x = (match q_find (q_holds W 0 F) (q_n W 100) with | none => -1 | some i => nI i) ∧ Fr [121] M M') := by
      intro c
      induction c with
      | zero =>
        intro i M1 hi hfr hn
        refine Lq.of (t_63_p120_p31_2_ok X (callw X D') n tot kn kx _ _ M1) ?_
        unfold t_63_p120_p31_2
        rw [hfr 31 (by decide), h1, hL.1, if_neg (by rw [lt_i (by omega) (by omega)]; omega), Wq_ret, q_find_none.mpr (fun j hj => hn j (by omega))]
        exact ⟨m1_nI, hfr⟩
      | succ c ih =>
        intro i M1 hi hfr hn
        refine Lq.of (t_63_p120_p31_2_ok X (callw X D') n tot kn kx _ _ M1) ?_
        unfold t_63_p120_p31_2
        have hi2 : i < q_n W 100 := by omega
        have hi3 : i < 16 := by omega
        obtain ⟨f, m, t, w, e1, e2, e3, e4, e5, e6, e7, e8, e9, e10, e11⟩ := h3.line (i := i) (by rw [Nat.add_zero]; omega)
        obtain ⟨g1, g2, g3, g4⟩ := h2 i hi2
        have hm : q_n W (298 + 16 * 0 + i) = m := q_n_of e5 (by omega)
        have ht : q_n W (330 + 16 * 0 + i) = t := q_n_of e6 (by omega)
        have hq : q_holds W 0 F i = (decide (t = m) || decide (q_val F (q_S W 0) m t = nI 1)) := by
          unfold q_holds
          rw [hm, ht, e5, e6]
          congr 1
          rw [decide_eq_decide, eq_i (by omega) (by omega)]
        have hw : M1 31 0 = nI (q_n W 100) := by rw [hfr 31 (by decide), h1]; exact hL.1
        have hw34 : M1 34 i = nI m := by rw [hfr 34 (by decide), g3, e5]
        have hw35 : M1 35 i = nI t := by rw [hfr 35 (by decide), g4, e6]
        simp (disch := omega) only [Nat.one_mul, m1_nI, m1n, o_nI, z_nI, i1_nI, im1_nI, nI_add, nI_mul, lt_i, eq_i, inb_nI, ↓reduceIte, nI_clamp, bnd_some, b2i_0, b2i_1, b2i_t, b2i_f, Wq_ret, Wq_jmp, up_ne, up_at, upW_s, upW_n, Nat.reduceAdd, Nat.reduceMul, Nat.reduceLT, Nat.reduceEqDiff, Nat.add_zero, Nat.zero_add, reduceCtorEq, hw, hi2, hi3, hw34, hw35]
        by_cases he : m = t
        · subst he
          rw [if_pos rfl, Wq_ret, q_find_at hn (by rw [hq, decide_eq_true rfl]; rfl) hi2]
          exact ⟨rfl, hfr⟩
        · rw [if_neg he]
          refine Wq.call (c_reckon31 (F := F) (S := q_S W 0) hD' e2 e3 (fun j hj => by rw [hfr 122 (by decide)]; exact hF j hj) (by rw [hfr 36 (by decide)]; exact e11 (by omega))) ?_
          rintro x M2 ⟨hx, hf2⟩
          subst hx
          have hq2 : q_holds W 0 F i = decide (q_val F (q_S W 0) m t = nI 1) := by rw [hq, decide_eq_false (fun e => he e.symm)]; rfl
          by_cases hv : q_val F (q_S W 0) m t = nI 1
          · rw [if_pos hv, Wq_ret, q_find_at hn (by rw [hq2, decide_eq_true hv]) hi2]
            exact ⟨rfl, hfr.tr hf2⟩
          · rw [if_neg hv, Wq_jmp]
            refine ih (i + 1) M2 (by omega) (hfr.tr hf2) ?_
            intro j hj
            rcases Nat.lt_or_ge j i with h1 | h1
            · exact hn j h1
            · rw [show j = i by omega, hq2, decide_eq_false hv]
    exact loop (q_n W 100) 0 M (by omega) Fr.rf (fun j hj => absurd hj (Nat.not_lt_zero j)))
theorem c_first37 (hD : 2 ≤ D) {W F : Nat → Int32} {w : Nat} (hw3 : w < 3) (h : CRlaw M 37 W 1) (hF : ∀ j, j < 10 → M 122 j = F (j + 1)) : Sq X D 63 [.inr (.inl 120), .inr (.inl 37), .inl (nI (102 + w))] (Gk n tot kn kx) M (fun x M' => x = (match q_find (fun i => decide (W (378 + i) = nI (22 + w)) && q_holds W 1 F i) (q_n W 101) with | none => -1 | some i => nI i) ∧ Fr [121] M M') :=
  Sq.mk (k := 1) hD (fun D' hD' => by
    refine Lq.of (t_63_p120_p37_0_ok X (callw X D') n tot kn kx _ M) ?_
    unfold t_63_p120_p37_0
    obtain ⟨h1, h2, h3⟩ := h
    have hL := h3.len
    rw [show 100 + 1 = 101 from rfl] at hL h1 h2
    rw [Wq_jmp, o_nI]
    have loop : ∀ (c i : Nat) (M1 : MMw), i + c = q_n W 101 → Fr [121] M M1 → (∀ j, j < i → (decide (W (378 + j) = nI (22 + w)) && q_holds W 1 F j) = false) → Lq X (callw X D') 63 2 [some (.inr (.inl 120)), some (.inr (.inl 37)), some (.inl (nI (102 + w))), some (.inl (nI i))] (Gk n tot kn kx) M1 (fun x M' => x = (match q_find (fun i => decide (W (378 + i) = nI (22 + w)) && q_holds W 1 F i) (q_n W 101) with | none => -1 | some i => nI i) ∧ Fr [121] M M') := by
      intro c
      induction c with
      | zero =>
        intro i M1 hi hfr hn
        refine Lq.of (t_63_p120_p37_2_ok X (callw X D') n tot kn kx _ _ M1) ?_
        unfold t_63_p120_p37_2
        rw [hfr 37 (by decide), h1, hL.1, if_neg (by rw [lt_i (by omega) (by omega)]; omega), Wq_ret, q_find_none.mpr (fun j hj => hn j (by omega))]
        exact ⟨m1_nI, hfr⟩
      | succ c ih =>
        intro i M1 hi hfr hn
        refine Lq.of (t_63_p120_p37_2_ok X (callw X D') n tot kn kx _ _ M1) ?_
        unfold t_63_p120_p37_2
        have hi2 : i < q_n W 101 := by omega
        have hi3 : i < 16 := by omega
        obtain ⟨f, m, t, v, e1, e2, e3, e4, e5, e6, e7, e8, e9, e10, e11⟩ := h3.line (i := i) (by show i < q_n W 101; omega)
        obtain ⟨g1, g2, g3, g4⟩ := h2 i hi2
        have hv9 := e9 rfl
        have hm : q_n W (298 + 16 * 1 + i) = m := q_n_of e5 (by omega)
        have ht : q_n W (330 + 16 * 1 + i) = t := q_n_of e6 (by omega)
        have hq : q_holds W 1 F i = (decide (t = m) || decide (q_val F (q_S W 1) m t = nI 1)) := by
          unfold q_holds
          rw [hm, ht, e5, e6]
          congr 1
          rw [decide_eq_decide, eq_i (by omega) (by omega)]
        have e7' : W (378 + i) = nI v := by rw [← e7, show 362 + 16 * 1 + i = 378 + i by omega]
        have hwd : decide (W (378 + i) = nI (22 + w)) = decide (v = 22 + w) := by rw [decide_eq_decide, e7', eq_i (by omega) (by omega)]
        have hw : M1 37 0 = nI (q_n W 101) := by rw [hfr 37 (by decide), h1]; exact hL.1
        have hw38 : M1 38 i = nI (v + 80) := by rw [hfr 38 (by decide), g1, e7, nI_80]
        have hw40 : M1 40 i = nI m := by rw [hfr 40 (by decide), g3, e5]
        have hw41 : M1 41 i = nI t := by rw [hfr 41 (by decide), g4, e6]
        have hne : (nI (102 + w) = (-1 : Int32)) = False := nI_nm1 (by omega)
        have next : ∀ M2, Fr [121] M1 M2 → (decide (W (378 + i) = nI (22 + w)) && q_holds W 1 F i) = false → Lq X (callw X D') 63 2 [some (.inr (.inl 120)), some (.inr (.inl 37)), some (.inl (nI (102 + w))), some (.inl (nI (i + 1)))] (Gk n tot kn kx) M2 (fun x M' => x = (match q_find (fun i => decide (W (378 + i) = nI (22 + w)) && q_holds W 1 F i) (q_n W 101) with | none => -1 | some i => nI i) ∧ Fr [121] M M') := by
          intro M2 hf2 hno
          refine ih (i + 1) M2 (by omega) (hfr.tr hf2) ?_
          intro j hj
          rcases Nat.lt_or_ge j i with h1 | h1
          · exact hn j h1
          · rw [show j = i by omega]; exact hno
        simp (disch := omega) only [Nat.one_mul, m1_nI, m1n, o_nI, z_nI, i1_nI, im1_nI, nI_mul, lt_i, eq_i, inb_nI, ↓reduceIte, nI_clamp, bnd_some, b2i_0, b2i_1, b2i_t, b2i_f, Wq_ret, Wq_jmp, up_ne, up_at, upW_s, upW_n, Nat.reduceAdd, Nat.reduceMul, Nat.reduceLT, Nat.reduceEqDiff, Nat.add_zero, Nat.zero_add, reduceCtorEq, hw, hi2, hi3, hw38, hw40, hw41, hne]
        by_cases hvw : v = 22 + w
        · rw [if_pos (by omega)]
          by_cases he : m = t
          · subst he
            rw [if_pos rfl, Wq_ret, q_find_at hn (by rw [hwd, decide_eq_true hvw, hq, decide_eq_true rfl]; rfl) hi2]
            exact ⟨rfl, hfr⟩
          · rw [if_neg he]
            refine Wq.call (c_reckon37 (F := F) (S := q_S W 1) hD' e2 e3 (fun j hj => by rw [hfr 122 (by decide)]; exact hF j hj) (by rw [hfr 42 (by decide)]; exact e11 (by omega))) ?_
            rintro x M2 ⟨hx, hf2⟩
            subst hx
            have hq2 : q_holds W 1 F i = decide (q_val F (q_S W 1) m t = nI 1) := by rw [hq, decide_eq_false (fun e => he e.symm)]; rfl
            by_cases hv : q_val F (q_S W 1) m t = nI 1
            · rw [if_pos hv, Wq_ret, q_find_at hn (by rw [hwd, decide_eq_true hvw, hq2, decide_eq_true hv]; rfl) hi2]
              exact ⟨rfl, hfr.tr hf2⟩
            · rw [if_neg hv, Wq_jmp, nI_add]
              exact next M2 hf2 (by rw [hq2, decide_eq_false hv, Bool.and_false])
        · rw [if_neg (by omega), Wq_jmp, nI_add]
          exact next M1 Fr.rf (by rw [hwd, decide_eq_false hvw, Bool.false_and])
    exact loop (q_n W 101) 0 M (by omega) Fr.rf (fun j hj => absurd hj (Nat.not_lt_zero j)))
theorem c_willing10 (hD : 3 ≤ D) {W : Nat → Int32} {t m : Nat} (ht : t < 8) (hm : m < 4) (h : CX M 10 W) : Sq X D 64 [.inr (.inl 120), .inr (.inl 1), .inr (.inl 10), .inl (nI t), .inl (nI m)] (Gk n tot kn kx) M (fun x M' => x = b2i (q_would W t m) ∧ Fr [121, 122] M M') :=
  Sq.mk (k := 2) hD (fun D' hD' => by
    refine Lq.of (t_64_p120_p1_p10_0_ok X (callw X D') n tot kn kx _ _ M) ?_
    unfold t_64_p120_p1_p10_0
    obtain ⟨⟨⟨_, _, _, _, a1, a2, a3, a4, a5, a6, a7⟩, _, _, hl, _⟩, hm2, _⟩ := id h
    obtain ⟨m1, m2, m3, m4, b1, b2, b3, b4, b5, b6⟩ := id hm2
    simp (disch := omega) only [Nat.one_mul, m1_nI, m1n, o_nI, z_nI, i1_nI, im1_nI, nI_add, nI_mul, lt_i, eq_i, inb_nI, ↓reduceIte, nI_clamp, bnd_some, b2i_0, b2i_1, b2i_t, b2i_f, Wq_ret, Wq_jmp, up_ne, up_at, upW_s, upW_n, Nat.reduceAdd, Nat.reduceMul, Nat.reduceLT, Nat.reduceEqDiff, Nat.add_zero, Nat.zero_add, reduceCtorEq, a2 t ht, a5 t ht, b1 t ht, m3, c_isIn (show 1 ≤ D' by omega), c_week10 (show 1 ≤ D' by omega) hm2]
    unfold q_would q_strikes
    cases q_bit (W 1) (W (17 + 10 * t)) with
    | true => rw [if_neg (by decide), Wq_ret]; exact ⟨rfl, Fr.rf⟩
    | false =>
      rw [if_pos rfl]
      by_cases h1 : W (22 + 10 * t) = q_week W
      · rw [if_pos h1, Wq_ret, decide_eq_true h1]; exact ⟨rfl, Fr.rf⟩
      · rw [if_neg h1, decide_eq_false h1]
        by_cases h2 : nI 0 < W (19 + 10 * t)
        · rw [if_pos h2, decide_eq_true h2]
          refine Wq.call (c_learn10 hD' ht hm h) ?_
          rintro x M1 ⟨hfr, hF⟩
          have hl' : CRlaw M1 31 W 0 := hl.ch (by decide) (fun d h1 h2 => hfr d (by simp; omega)) sameY.rf
          refine Wq.call (c_first31 hD' hl' hF) ?_
          rintro x M2 ⟨hx, hf2⟩
          subst hx
          have hff : Fr [121, 122] M M2 := (hfr.mono (by decide)).tr (hf2.mono (by decide))
          unfold q_will
          obtain ⟨c1, c2, c3⟩ := hl
          cases hq : q_find (q_holds W 0 (q_fact W t m)) (q_n W 100) with
          | none => rw [if_pos rfl, Wq_ret]; exact ⟨rfl, hff⟩
          | some i =>
            have hi := (q_find_some hq).1
            have hL := c3.len.2
            rw [Nat.add_zero] at hL
            dsimp only
            obtain ⟨f, m', t', w, e1, e2, e3, e4, e5, e6, e7, e8, e9, e10, e11⟩ := c3.line (i := i) (by rw [Nat.add_zero]; omega)
            have hw := e8 rfl
            rw [show 362 + 16 * 0 + i = 362 + i by omega] at e7
            have hw32 : M2 32 i = nI (w + 80) := by rw [hff 32 (by decide), (c2 i hi).1, show 362 + 16 * 0 + i = 362 + i by omega, e7, nI_80]
            rw [if_neg (show ¬ nI i = -1 by rw [nI_nm1 (by omega)]; exact id)]
            simp (disch := omega) only [Nat.one_mul, m1_nI, m1n, o_nI, z_nI, i1_nI, im1_nI, nI_add, nI_mul, lt_i, eq_i, inb_nI, ↓reduceIte, nI_clamp, bnd_some, b2i_0, b2i_1, b2i_t, b2i_f, Wq_ret, Wq_jmp, up_ne, up_at, upW_s, upW_n, Nat.reduceAdd, Nat.reduceMul, Nat.reduceLT, Nat.reduceEqDiff, Nat.add_zero, Nat.zero_add, reduceCtorEq, hw32, e7]
            rcases hw with rfl | rfl
            · rw [if_pos (by decide), Wq_ret]; exact ⟨rfl, hff⟩
            · rw [if_neg (by decide), Wq_ret]; exact ⟨rfl, hff⟩
        · rw [if_neg h2, Wq_ret, decide_eq_false h2]; exact ⟨rfl, Fr.rf⟩)
theorem c_serve10 (hD : 4 ≤ D) {W : Nat → Int32} {t m : Nat} (ht : t < 8) (hm : m < 4) (h : CX M 10 W) : Sq X D 65 [.inr (.inl 120), .inr (.inl 1), .inr (.inl 10), .inl (nI t), .inl (nI m)] (Gk n tot kn kx) M (fun x M' => x = b2i (q_serve W t m) ∧ Fr [121, 122] M M') :=
  Sq.mk (k := 3) hD (fun D' hD' => by
    refine Lq.of (t_65_p120_p1_p10_0_ok X (callw X D') n tot kn kx _ _ M) ?_
    unfold t_65_p120_p1_p10_0
    obtain ⟨⟨⟨_, _, _, _, a1, a2, a3, a4, a5, a6, a7⟩, _⟩, ⟨m1, m2, m3, m4, b1, b2, b3, b4, b5, b6⟩, hiy, _⟩ := id h
    obtain ⟨k1, k2, k3, k4⟩ := (hiy.2.2.2.1 t ht).1
    have hand : nI (q_n W (17 + 10 * t)) &&& nI 3 = nI (q_n W (17 + 10 * t)) := by
      rw [nI_and, show (3 : Nat) = 2 ^ 2 - 1 from rfl, Nat.and_two_pow_sub_one_eq_mod, Nat.mod_eq_of_lt k2]
    have hb6 : M 16 (q_n W (17 + 10 * t)) = W (4 + q_n W (17 + 10 * t)) := by rw [b6 _ k2, Nat.one_mul]
    simp (disch := omega) only [Nat.one_mul, m1_nI, m1n, o_nI, z_nI, i1_nI, im1_nI, nI_add, nI_mul, lt_i, eq_i, inb_nI, ↓reduceIte, nI_clamp, bnd_some, b2i_0, b2i_1, b2i_t, b2i_f, Wq_ret, Wq_jmp, up_ne, up_at, upW_s, upW_n, Nat.reduceAdd, Nat.reduceMul, Nat.reduceLT, Nat.reduceEqDiff, Nat.add_zero, Nat.zero_add, reduceCtorEq, a1 t ht, a2 t ht, k1, hand, hb6, c_isIn (show 1 ≤ D' by omega)]
    unfold q_serve q_mays
    cases q_bit (W (4 + q_n W (17 + 10 * t))) (W (16 + 10 * t)) with
    | false => rw [if_pos rfl, Wq_ret]; exact ⟨rfl, Fr.rf⟩
    | true =>
      rw [if_neg (by decide)]
      refine Wq.call (c_willing10 hD' ht hm h) ?_
      rintro x M' ⟨hx, hfr⟩
      subst hx
      simp only [b2i_0]
      cases q_would W t m with
      | false => rw [if_pos rfl, Wq_ret]; exact ⟨rfl, hfr⟩
      | true => rw [if_neg (by decide), Wq_ret]; exact ⟨rfl, hfr⟩)
theorem c_tell10 (hD : 3 ≤ D) {W : Nat → Int32} {t m w : Nat} (ht : t < 8) (hm : m < 4) (hw : w < 3) (h : CX M 10 W) : Sq X D 67 [.inr (.inl 120), .inr (.inl 1), .inr (.inl 10), .inl (nI t), .inl (nI m), .inl (nI w)] (Gk n tot kn kx) M (fun x M' => x = q_tell W t m w ∧ Fr [121, 122] M M') :=
  Sq.mk (k := 2) hD (fun D' hD' => by
    refine Lq.of (t_67_p120_p1_p10_0_ok X (callw X D') n tot kn kx _ _ _ M) ?_
    unfold t_67_p120_p1_p10_0
    obtain ⟨⟨_, _, _, _, hl⟩, hm2, _⟩ := id h
    refine Wq.call (c_learn10 hD' ht hm h) ?_
    rintro x M1 ⟨hfr, hF⟩
    have hl' : CRlaw M1 37 W 1 := hl.ch (by decide) (fun d h1 h2 => hfr d (by simp; omega)) sameY.rf
    rw [o_nI, nI_add]
    refine Wq.call (c_first37 hD' hw hl' hF) ?_
    rintro x M2 ⟨hx, hf2⟩
    have hff : Fr [121, 122] M M2 := (hfr.mono (by decide)).tr (hf2.mono (by decide))
    have key : ∀ d, d = (if w = 0 then nI 1 else nI 0) → Lq X (callw X D') 67 40 [some (.inr (.inl 120)), none, none, none, none, some (.inl (nI w)), some (.inr (.inl 37)), some (.inl x), some (.inl d)] (Gk n tot kn kx) M2 (fun x M' => x = q_tell W t m w ∧ Fr [121, 122] M M') := by
      intro d hd
      refine Lq.of (t_67_p120_p1_p10_40_ok X (callw X D') n tot kn kx _ _ _ M2) ?_
      unfold t_67_p120_p1_p10_40
      unfold q_tell
      obtain ⟨c1, c2, c3⟩ := hl
      subst hx
      cases hq : q_find (fun i => decide (W (378 + i) = nI (22 + w)) && q_holds W 1 (q_fact W t m) i) (q_n W 101) with
      | none =>
        dsimp only
        rw [m1_nI, if_pos rfl]
        have h3 : w = 0 ∨ w = 1 ∨ w = 2 := by omega
        rcases h3 with rfl | rfl | rfl
        · subst hd
          simp (disch := omega) only [Nat.one_mul, m1_nI, m1n, o_nI, z_nI, i1_nI, im1_nI, nI_add, nI_mul, lt_i, eq_i, inb_nI, ↓reduceIte, nI_clamp, bnd_some, b2i_0, b2i_1, b2i_t, b2i_f, Wq_ret, Wq_jmp, up_ne, up_at, upW_s, upW_n, Nat.reduceAdd, Nat.reduceMul, Nat.reduceLT, Nat.reduceEqDiff, Nat.add_zero, Nat.zero_add, reduceCtorEq, c_held (show 2 ≤ D' by omega)]
          exact ⟨by decide +kernel, hff⟩
        · subst hd
          simp (disch := omega) only [Nat.one_mul, m1_nI, m1n, o_nI, z_nI, i1_nI, im1_nI, nI_add, nI_mul, lt_i, eq_i, inb_nI, ↓reduceIte, nI_clamp, bnd_some, b2i_0, b2i_1, b2i_t, b2i_f, Wq_ret, Wq_jmp, up_ne, up_at, upW_s, upW_n, Nat.reduceAdd, Nat.reduceMul, Nat.reduceLT, Nat.reduceEqDiff, Nat.add_zero, Nat.zero_add, reduceCtorEq, c_held (show 2 ≤ D' by omega)]
          exact ⟨by decide +kernel, hff⟩
        · subst hd
          simp (disch := omega) only [Nat.one_mul, m1_nI, m1n, o_nI, z_nI, i1_nI, im1_nI, nI_add, nI_mul, lt_i, eq_i, inb_nI, ↓reduceIte, nI_clamp, bnd_some, b2i_0, b2i_1, b2i_t, b2i_f, Wq_ret, Wq_jmp, up_ne, up_at, upW_s, upW_n, Nat.reduceAdd, Nat.reduceMul, Nat.reduceLT, Nat.reduceEqDiff, Nat.add_zero, Nat.zero_add, reduceCtorEq, c_held (show 2 ≤ D' by omega)]
          exact ⟨by decide +kernel, hff⟩
      | some i =>
        have hi := (q_find_some hq).1
        have hL := c3.len.2
        rw [show 100 + 1 = 101 from rfl] at hL
        dsimp only
        obtain ⟨f, m', t', v, e1, e2, e3, e4, e5, e6, e7, e8, e9, e10, e11⟩ := c3.line (i := i) (by show i < q_n W 101; omega)
        obtain ⟨g1, g2, g3, g4⟩ := c2 i hi
        have hm' : q_n W (314 + i) = m' := by rw [show 314 + i = 298 + 16 * 1 + i by omega]; exact q_n_of e5 (by omega)
        have hf' : q_n W (282 + i) = f := by rw [show 282 + i = 266 + 16 * 1 + i by omega]; exact q_n_of e4 (by omega)
        have hw39 : M2 39 i = nI f := by rw [hff 39 (by decide), g2, e4]
        have hw40 : M2 40 i = nI m' := by rw [hff 40 (by decide), g3, e5]
        rw [m1_nI, if_neg (show ¬ nI i = -1 by rw [nI_nm1 (by omega)]; exact id), hm', hf']
        simp (disch := omega) only [Nat.one_mul, m1_nI, m1n, o_nI, z_nI, i1_nI, im1_nI, nI_add, nI_mul, lt_i, eq_i, inb_nI, ↓reduceIte, nI_clamp, bnd_some, b2i_0, b2i_1, b2i_t, b2i_f, Wq_ret, Wq_jmp, up_ne, up_at, upW_s, upW_n, Nat.reduceAdd, Nat.reduceMul, Nat.reduceLT, Nat.reduceEqDiff, Nat.add_zero, Nat.zero_add, reduceCtorEq, hw39, hw40]
        refine Wq.call (c_reckon37 (F := q_fact W t m) (S := q_S W 1) (show 1 ≤ D' by omega) e1 (by omega) (fun j hj => by rw [hf2 122 (by decide)]; exact hF j hj) (by rw [hff 42 (by decide)]; exact e10 rfl)) ?_
        rintro y M3 ⟨hy, hf3⟩
        subst hy
        have hff3 : Fr [121, 122] M M3 := hff.tr (hf3.mono (by decide))
        have h3 : w = 0 ∨ w = 1 ∨ w = 2 := by omega
        rcases h3 with rfl | rfl | rfl
        · simp (disch := omega) only [Nat.one_mul, m1_nI, m1n, o_nI, z_nI, i1_nI, im1_nI, nI_add, nI_mul, lt_i, eq_i, inb_nI, ↓reduceIte, nI_clamp, bnd_some, b2i_0, b2i_1, b2i_t, b2i_f, Wq_ret, Wq_jmp, up_ne, up_at, upW_s, upW_n, Nat.reduceAdd, Nat.reduceMul, Nat.reduceLT, Nat.reduceEqDiff, Nat.add_zero, Nat.zero_add, reduceCtorEq, c_held (show 2 ≤ D' by omega)]
          exact ⟨rfl, hff3⟩
        · simp (disch := omega) only [Nat.one_mul, m1_nI, m1n, o_nI, z_nI, i1_nI, im1_nI, nI_add, nI_mul, lt_i, eq_i, inb_nI, ↓reduceIte, nI_clamp, bnd_some, b2i_0, b2i_1, b2i_t, b2i_f, Wq_ret, Wq_jmp, up_ne, up_at, upW_s, upW_n, Nat.reduceAdd, Nat.reduceMul, Nat.reduceLT, Nat.reduceEqDiff, Nat.add_zero, Nat.zero_add, reduceCtorEq, c_held (show 2 ≤ D' by omega)]
          exact ⟨rfl, hff3⟩
        · simp (disch := omega) only [Nat.one_mul, m1_nI, m1n, o_nI, z_nI, i1_nI, im1_nI, nI_add, nI_mul, lt_i, eq_i, inb_nI, ↓reduceIte, nI_clamp, bnd_some, b2i_0, b2i_1, b2i_t, b2i_f, Wq_ret, Wq_jmp, up_ne, up_at, upW_s, upW_n, Nat.reduceAdd, Nat.reduceMul, Nat.reduceLT, Nat.reduceEqDiff, Nat.add_zero, Nat.zero_add, reduceCtorEq, c_held (show 2 ≤ D' by omega)]
          exact ⟨rfl, hff3⟩
    have h3 : w = 0 ∨ w = 1 ∨ w = 2 := by omega
    rcases h3 with rfl | rfl | rfl
    · simp (disch := omega) only [Nat.one_mul, m1_nI, m1n, o_nI, z_nI, i1_nI, im1_nI, nI_add, nI_mul, lt_i, eq_i, inb_nI, ↓reduceIte, nI_clamp, bnd_some, b2i_0, b2i_1, b2i_t, b2i_f, Wq_ret, Wq_jmp, up_ne, up_at, upW_s, upW_n, Nat.reduceAdd, Nat.reduceMul, Nat.reduceLT, Nat.reduceEqDiff, Nat.add_zero, Nat.zero_add, reduceCtorEq]
      exact key _ (by rfl)
    · simp (disch := omega) only [Nat.one_mul, m1_nI, m1n, o_nI, z_nI, i1_nI, im1_nI, nI_add, nI_mul, lt_i, eq_i, inb_nI, ↓reduceIte, nI_clamp, bnd_some, b2i_0, b2i_1, b2i_t, b2i_f, Wq_ret, Wq_jmp, up_ne, up_at, upW_s, upW_n, Nat.reduceAdd, Nat.reduceMul, Nat.reduceLT, Nat.reduceEqDiff, Nat.add_zero, Nat.zero_add, reduceCtorEq]
      exact key _ (by rfl)
    · simp (disch := omega) only [Nat.one_mul, m1_nI, m1n, o_nI, z_nI, i1_nI, im1_nI, nI_add, nI_mul, lt_i, eq_i, inb_nI, ↓reduceIte, nI_clamp, bnd_some, b2i_0, b2i_1, b2i_t, b2i_f, Wq_ret, Wq_jmp, up_ne, up_at, upW_s, upW_n, Nat.reduceAdd, Nat.reduceMul, Nat.reduceLT, Nat.reduceEqDiff, Nat.add_zero, Nat.zero_add, reduceCtorEq]
      exact key _ (by rfl))
theorem c_willing87 (hD : 3 ≤ D) {W : Nat → Int32} {t m : Nat} (ht : t < 8) (hm : m < 4) (h : CX M 87 W) : Sq X D 64 [.inr (.inl 120), .inr (.inl 1), .inr (.inl 87), .inl (nI t), .inl (nI m)] (Gk n tot kn kx) M (fun x M' => x = b2i (q_would W t m) ∧ Fr [121, 122] M M') :=
  Sq.mk (k := 2) hD (fun D' hD' => by
    refine Lq.of (t_64_p120_p1_p87_0_ok X (callw X D') n tot kn kx _ _ M) ?_
    unfold t_64_p120_p1_p87_0
    obtain ⟨⟨⟨_, _, _, _, a1, a2, a3, a4, a5, a6, a7⟩, _, _, hl, _⟩, hm2, _⟩ := id h
    obtain ⟨m1, m2, m3, m4, b1, b2, b3, b4, b5, b6⟩ := id hm2
    simp (disch := omega) only [Nat.one_mul, m1_nI, m1n, o_nI, z_nI, i1_nI, im1_nI, nI_add, nI_mul, lt_i, eq_i, inb_nI, ↓reduceIte, nI_clamp, bnd_some, b2i_0, b2i_1, b2i_t, b2i_f, Wq_ret, Wq_jmp, up_ne, up_at, upW_s, upW_n, Nat.reduceAdd, Nat.reduceMul, Nat.reduceLT, Nat.reduceEqDiff, Nat.add_zero, Nat.zero_add, reduceCtorEq, a2 t ht, a5 t ht, b1 t ht, m3, c_isIn (show 1 ≤ D' by omega), c_week87 (show 1 ≤ D' by omega) hm2]
    unfold q_would q_strikes
    cases q_bit (W 1) (W (17 + 10 * t)) with
    | true => rw [if_neg (by decide), Wq_ret]; exact ⟨rfl, Fr.rf⟩
    | false =>
      rw [if_pos rfl]
      by_cases h1 : W (22 + 10 * t) = q_week W
      · rw [if_pos h1, Wq_ret, decide_eq_true h1]; exact ⟨rfl, Fr.rf⟩
      · rw [if_neg h1, decide_eq_false h1]
        by_cases h2 : nI 0 < W (19 + 10 * t)
        · rw [if_pos h2, decide_eq_true h2]
          refine Wq.call (c_learn87 hD' ht hm h) ?_
          rintro x M1 ⟨hfr, hF⟩
          have hl' : CRlaw M1 31 W 0 := hl.ch (by decide) (fun d h1 h2 => hfr d (by simp; omega)) sameY.rf
          refine Wq.call (c_first31 hD' hl' hF) ?_
          rintro x M2 ⟨hx, hf2⟩
          subst hx
          have hff : Fr [121, 122] M M2 := (hfr.mono (by decide)).tr (hf2.mono (by decide))
          unfold q_will
          obtain ⟨c1, c2, c3⟩ := hl
          cases hq : q_find (q_holds W 0 (q_fact W t m)) (q_n W 100) with
          | none => rw [if_pos rfl, Wq_ret]; exact ⟨rfl, hff⟩
          | some i =>
            have hi := (q_find_some hq).1
            have hL := c3.len.2
            rw [Nat.add_zero] at hL
            dsimp only
            obtain ⟨f, m', t', w, e1, e2, e3, e4, e5, e6, e7, e8, e9, e10, e11⟩ := c3.line (i := i) (by rw [Nat.add_zero]; omega)
            have hw := e8 rfl
            rw [show 362 + 16 * 0 + i = 362 + i by omega] at e7
            have hw32 : M2 32 i = nI (w + 80) := by rw [hff 32 (by decide), (c2 i hi).1, show 362 + 16 * 0 + i = 362 + i by omega, e7, nI_80]
            rw [if_neg (show ¬ nI i = -1 by rw [nI_nm1 (by omega)]; exact id)]
            simp (disch := omega) only [Nat.one_mul, m1_nI, m1n, o_nI, z_nI, i1_nI, im1_nI, nI_add, nI_mul, lt_i, eq_i, inb_nI, ↓reduceIte, nI_clamp, bnd_some, b2i_0, b2i_1, b2i_t, b2i_f, Wq_ret, Wq_jmp, up_ne, up_at, upW_s, upW_n, Nat.reduceAdd, Nat.reduceMul, Nat.reduceLT, Nat.reduceEqDiff, Nat.add_zero, Nat.zero_add, reduceCtorEq, hw32, e7]
            rcases hw with rfl | rfl
            · rw [if_pos (by decide), Wq_ret]; exact ⟨rfl, hff⟩
            · rw [if_neg (by decide), Wq_ret]; exact ⟨rfl, hff⟩
        · rw [if_neg h2, Wq_ret, decide_eq_false h2]; exact ⟨rfl, Fr.rf⟩)
theorem c_serve87 (hD : 4 ≤ D) {W : Nat → Int32} {t m : Nat} (ht : t < 8) (hm : m < 4) (h : CX M 87 W) : Sq X D 65 [.inr (.inl 120), .inr (.inl 1), .inr (.inl 87), .inl (nI t), .inl (nI m)] (Gk n tot kn kx) M (fun x M' => x = b2i (q_serve W t m) ∧ Fr [121, 122] M M') :=
  Sq.mk (k := 3) hD (fun D' hD' => by
    refine Lq.of (t_65_p120_p1_p87_0_ok X (callw X D') n tot kn kx _ _ M) ?_
    unfold t_65_p120_p1_p87_0
    obtain ⟨⟨⟨_, _, _, _, a1, a2, a3, a4, a5, a6, a7⟩, _⟩, ⟨m1, m2, m3, m4, b1, b2, b3, b4, b5, b6⟩, hiy, _⟩ := id h
    obtain ⟨k1, k2, k3, k4⟩ := (hiy.2.2.2.1 t ht).1
    have hand : nI (q_n W (17 + 10 * t)) &&& nI 3 = nI (q_n W (17 + 10 * t)) := by
      rw [nI_and, show (3 : Nat) = 2 ^ 2 - 1 from rfl, Nat.and_two_pow_sub_one_eq_mod, Nat.mod_eq_of_lt k2]
    have hb6 : M 93 (q_n W (17 + 10 * t)) = W (4 + q_n W (17 + 10 * t)) := by rw [b6 _ k2, Nat.one_mul]
    simp (disch := omega) only [Nat.one_mul, m1_nI, m1n, o_nI, z_nI, i1_nI, im1_nI, nI_add, nI_mul, lt_i, eq_i, inb_nI, ↓reduceIte, nI_clamp, bnd_some, b2i_0, b2i_1, b2i_t, b2i_f, Wq_ret, Wq_jmp, up_ne, up_at, upW_s, upW_n, Nat.reduceAdd, Nat.reduceMul, Nat.reduceLT, Nat.reduceEqDiff, Nat.add_zero, Nat.zero_add, reduceCtorEq, a1 t ht, a2 t ht, k1, hand, hb6, c_isIn (show 1 ≤ D' by omega)]
    unfold q_serve q_mays
    cases q_bit (W (4 + q_n W (17 + 10 * t))) (W (16 + 10 * t)) with
    | false => rw [if_pos rfl, Wq_ret]; exact ⟨rfl, Fr.rf⟩
    | true =>
      rw [if_neg (by decide)]
      refine Wq.call (c_willing87 hD' ht hm h) ?_
      rintro x M' ⟨hx, hfr⟩
      subst hx
      simp only [b2i_0]
      cases q_would W t m with
      | false => rw [if_pos rfl, Wq_ret]; exact ⟨rfl, hfr⟩
      | true => rw [if_neg (by decide), Wq_ret]; exact ⟨rfl, hfr⟩)
theorem c_tell87 (hD : 3 ≤ D) {W : Nat → Int32} {t m w : Nat} (ht : t < 8) (hm : m < 4) (hw : w < 3) (h : CX M 87 W) : Sq X D 67 [.inr (.inl 120), .inr (.inl 1), .inr (.inl 87), .inl (nI t), .inl (nI m), .inl (nI w)] (Gk n tot kn kx) M (fun x M' => x = q_tell W t m w ∧ Fr [121, 122] M M') :=
  Sq.mk (k := 2) hD (fun D' hD' => by
    refine Lq.of (t_67_p120_p1_p87_0_ok X (callw X D') n tot kn kx _ _ _ M) ?_
    unfold t_67_p120_p1_p87_0
    obtain ⟨⟨_, _, _, _, hl⟩, hm2, _⟩ := id h
    refine Wq.call (c_learn87 hD' ht hm h) ?_
    rintro x M1 ⟨hfr, hF⟩
    have hl' : CRlaw M1 37 W 1 := hl.ch (by decide) (fun d h1 h2 => hfr d (by simp; omega)) sameY.rf
    rw [o_nI, nI_add]
    refine Wq.call (c_first37 hD' hw hl' hF) ?_
    rintro x M2 ⟨hx, hf2⟩
    have hff : Fr [121, 122] M M2 := (hfr.mono (by decide)).tr (hf2.mono (by decide))
    have key : ∀ d, d = (if w = 0 then nI 1 else nI 0) → Lq X (callw X D') 67 40 [some (.inr (.inl 120)), none, none, none, none, some (.inl (nI w)), some (.inr (.inl 37)), some (.inl x), some (.inl d)] (Gk n tot kn kx) M2 (fun x M' => x = q_tell W t m w ∧ Fr [121, 122] M M') := by
      intro d hd
      refine Lq.of (t_67_p120_p1_p87_40_ok X (callw X D') n tot kn kx _ _ _ M2) ?_
      unfold t_67_p120_p1_p87_40
      unfold q_tell
      obtain ⟨c1, c2, c3⟩ := hl
      subst hx
      cases hq : q_find (fun i => decide (W (378 + i) = nI (22 + w)) && q_holds W 1 (q_fact W t m) i) (q_n W 101) with
      | none =>
        dsimp only
        rw [m1_nI, if_pos rfl]
        have h3 : w = 0 ∨ w = 1 ∨ w = 2 := by omega
        rcases h3 with rfl | rfl | rfl
        · subst hd
          simp (disch := omega) only [Nat.one_mul, m1_nI, m1n, o_nI, z_nI, i1_nI, im1_nI, nI_add, nI_mul, lt_i, eq_i, inb_nI, ↓reduceIte, nI_clamp, bnd_some, b2i_0, b2i_1, b2i_t, b2i_f, Wq_ret, Wq_jmp, up_ne, up_at, upW_s, upW_n, Nat.reduceAdd, Nat.reduceMul, Nat.reduceLT, Nat.reduceEqDiff, Nat.add_zero, Nat.zero_add, reduceCtorEq, c_held (show 2 ≤ D' by omega)]
          exact ⟨by decide +kernel, hff⟩
        · subst hd
          simp (disch := omega) only [Nat.one_mul, m1_nI, m1n, o_nI, z_nI, i1_nI, im1_nI, nI_add, nI_mul, lt_i, eq_i, inb_nI, ↓reduceIte, nI_clamp, bnd_some, b2i_0, b2i_1, b2i_t, b2i_f, Wq_ret, Wq_jmp, up_ne, up_at, upW_s, upW_n, Nat.reduceAdd, Nat.reduceMul, Nat.reduceLT, Nat.reduceEqDiff, Nat.add_zero, Nat.zero_add, reduceCtorEq, c_held (show 2 ≤ D' by omega)]
          exact ⟨by decide +kernel, hff⟩
        · subst hd
          simp (disch := omega) only [Nat.one_mul, m1_nI, m1n, o_nI, z_nI, i1_nI, im1_nI, nI_add, nI_mul, lt_i, eq_i, inb_nI, ↓reduceIte, nI_clamp, bnd_some, b2i_0, b2i_1, b2i_t, b2i_f, Wq_ret, Wq_jmp, up_ne, up_at, upW_s, upW_n, Nat.reduceAdd, Nat.reduceMul, Nat.reduceLT, Nat.reduceEqDiff, Nat.add_zero, Nat.zero_add, reduceCtorEq, c_held (show 2 ≤ D' by omega)]
          exact ⟨by decide +kernel, hff⟩
      | some i =>
        have hi := (q_find_some hq).1
        have hL := c3.len.2
        rw [show 100 + 1 = 101 from rfl] at hL
        dsimp only
        obtain ⟨f, m', t', v, e1, e2, e3, e4, e5, e6, e7, e8, e9, e10, e11⟩ := c3.line (i := i) (by show i < q_n W 101; omega)
        obtain ⟨g1, g2, g3, g4⟩ := c2 i hi
        have hm' : q_n W (314 + i) = m' := by rw [show 314 + i = 298 + 16 * 1 + i by omega]; exact q_n_of e5 (by omega)
        have hf' : q_n W (282 + i) = f := by rw [show 282 + i = 266 + 16 * 1 + i by omega]; exact q_n_of e4 (by omega)
        have hw39 : M2 39 i = nI f := by rw [hff 39 (by decide), g2, e4]
        have hw40 : M2 40 i = nI m' := by rw [hff 40 (by decide), g3, e5]
        rw [m1_nI, if_neg (show ¬ nI i = -1 by rw [nI_nm1 (by omega)]; exact id), hm', hf']
        simp (disch := omega) only [Nat.one_mul, m1_nI, m1n, o_nI, z_nI, i1_nI, im1_nI, nI_add, nI_mul, lt_i, eq_i, inb_nI, ↓reduceIte, nI_clamp, bnd_some, b2i_0, b2i_1, b2i_t, b2i_f, Wq_ret, Wq_jmp, up_ne, up_at, upW_s, upW_n, Nat.reduceAdd, Nat.reduceMul, Nat.reduceLT, Nat.reduceEqDiff, Nat.add_zero, Nat.zero_add, reduceCtorEq, hw39, hw40]
        refine Wq.call (c_reckon37 (F := q_fact W t m) (S := q_S W 1) (show 1 ≤ D' by omega) e1 (by omega) (fun j hj => by rw [hf2 122 (by decide)]; exact hF j hj) (by rw [hff 42 (by decide)]; exact e10 rfl)) ?_
        rintro y M3 ⟨hy, hf3⟩
        subst hy
        have hff3 : Fr [121, 122] M M3 := hff.tr (hf3.mono (by decide))
        have h3 : w = 0 ∨ w = 1 ∨ w = 2 := by omega
        rcases h3 with rfl | rfl | rfl
        · simp (disch := omega) only [Nat.one_mul, m1_nI, m1n, o_nI, z_nI, i1_nI, im1_nI, nI_add, nI_mul, lt_i, eq_i, inb_nI, ↓reduceIte, nI_clamp, bnd_some, b2i_0, b2i_1, b2i_t, b2i_f, Wq_ret, Wq_jmp, up_ne, up_at, upW_s, upW_n, Nat.reduceAdd, Nat.reduceMul, Nat.reduceLT, Nat.reduceEqDiff, Nat.add_zero, Nat.zero_add, reduceCtorEq, c_held (show 2 ≤ D' by omega)]
          exact ⟨rfl, hff3⟩
        · simp (disch := omega) only [Nat.one_mul, m1_nI, m1n, o_nI, z_nI, i1_nI, im1_nI, nI_add, nI_mul, lt_i, eq_i, inb_nI, ↓reduceIte, nI_clamp, bnd_some, b2i_0, b2i_1, b2i_t, b2i_f, Wq_ret, Wq_jmp, up_ne, up_at, upW_s, upW_n, Nat.reduceAdd, Nat.reduceMul, Nat.reduceLT, Nat.reduceEqDiff, Nat.add_zero, Nat.zero_add, reduceCtorEq, c_held (show 2 ≤ D' by omega)]
          exact ⟨rfl, hff3⟩
        · simp (disch := omega) only [Nat.one_mul, m1_nI, m1n, o_nI, z_nI, i1_nI, im1_nI, nI_add, nI_mul, lt_i, eq_i, inb_nI, ↓reduceIte, nI_clamp, bnd_some, b2i_0, b2i_1, b2i_t, b2i_f, Wq_ret, Wq_jmp, up_ne, up_at, upW_s, upW_n, Nat.reduceAdd, Nat.reduceMul, Nat.reduceLT, Nat.reduceEqDiff, Nat.add_zero, Nat.zero_add, reduceCtorEq, c_held (show 2 ≤ D' by omega)]
          exact ⟨rfl, hff3⟩
    have h3 : w = 0 ∨ w = 1 ∨ w = 2 := by omega
    rcases h3 with rfl | rfl | rfl
    · simp (disch := omega) only [Nat.one_mul, m1_nI, m1n, o_nI, z_nI, i1_nI, im1_nI, nI_add, nI_mul, lt_i, eq_i, inb_nI, ↓reduceIte, nI_clamp, bnd_some, b2i_0, b2i_1, b2i_t, b2i_f, Wq_ret, Wq_jmp, up_ne, up_at, upW_s, upW_n, Nat.reduceAdd, Nat.reduceMul, Nat.reduceLT, Nat.reduceEqDiff, Nat.add_zero, Nat.zero_add, reduceCtorEq]
      exact key _ (by rfl)
    · simp (disch := omega) only [Nat.one_mul, m1_nI, m1n, o_nI, z_nI, i1_nI, im1_nI, nI_add, nI_mul, lt_i, eq_i, inb_nI, ↓reduceIte, nI_clamp, bnd_some, b2i_0, b2i_1, b2i_t, b2i_f, Wq_ret, Wq_jmp, up_ne, up_at, upW_s, upW_n, Nat.reduceAdd, Nat.reduceMul, Nat.reduceLT, Nat.reduceEqDiff, Nat.add_zero, Nat.zero_add, reduceCtorEq]
      exact key _ (by rfl)
    · simp (disch := omega) only [Nat.one_mul, m1_nI, m1n, o_nI, z_nI, i1_nI, im1_nI, nI_add, nI_mul, lt_i, eq_i, inb_nI, ↓reduceIte, nI_clamp, bnd_some, b2i_0, b2i_1, b2i_t, b2i_f, Wq_ret, Wq_jmp, up_ne, up_at, upW_s, upW_n, Nat.reduceAdd, Nat.reduceMul, Nat.reduceLT, Nat.reduceEqDiff, Nat.add_zero, Nat.zero_add, reduceCtorEq]
      exact key _ (by rfl))
end
