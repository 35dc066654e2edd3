section
-- needs: mplan
/-! what is open in a state -/
variable {X : KXw} {n tot kn D : Nat} {kx : Nat → Nat × Nat} {M : MMw}
theorem m_openIn (hD : 2 ≤ D) {W : Nat → Int32} {d : Nat → Nat} (hd : ∀ i, i < q_n W 98 → d i ≤ q_n W (143 + 3 * i)) (hW : M 179 = W) (hy : q_invY W) : callw X D 251 [.inr (.inl 178), .inl (nI (q_en d (q_n W 98)))] (Gk n tot kn kx) M = some (nI (q_opn (q_pre W) (q_n W 98) (fun i => q_n W (143 + 3 * i) - d i)), Gk n tot kn kx, M) :=
  Sq.eq (Sq.mk (k := 1) hD (fun D' hD' => by
    obtain ⟨w1, w2⟩ := hy.1.2.2.1
    have h4 : ∀ i, i < q_n W 98 → q_n W (143 + 3 * i) < 4 := fun i hi => (hy.2.2.2.2.2.1 i hi).2.1.2
    have d4 : ∀ i, i < q_n W 98 → d i < 4 := fun i hi => by have := hd i hi; have := h4 i hi; omega
    have elt : q_en d (q_n W 98) < 2 ^ 16 := Nat.lt_of_lt_of_le (q_en_lt d4) (show 4 ^ q_n W 98 ≤ 4 ^ 8 from Nat.pow_le_pow_right (by decide) (by omega))
    have second : ∀ (c i : Nat), i + c = q_n W 98 → Lq X (callw X D') 251 52 [some (.inr (.inl 178)), none, some (.inl (nI (sto (fun i => decide (d i = q_n W (143 + 3 * i))) (q_n W 98)))), some (.inl (nI (q_opn (q_pre W) i (fun i => q_n W (143 + 3 * i) - d i)))), some (.inl (nI i))] (Gk n tot kn kx) M (fun y M' => y = nI (q_opn (q_pre W) (q_n W 98) (fun i => q_n W (143 + 3 * i) - d i)) ∧ M' = M) := by
      intro c
      induction c with
      | zero =>
        intro i hi
        refine Lq.of (t_251_52_ok X (callw X D') n tot kn kx _ _ _ M) ?_
        unfold t_251_52
        rw [hW, w1, if_neg (by rw [lt_i (by omega) (by omega)]; omega), Wq_ret, show i = q_n W 98 by omega]
        exact ⟨rfl, rfl⟩
      | succ c ih =>
        intro i hi
        refine Lq.of (t_251_52_ok X (callw X D') n tot kn kx _ _ _ M) ?_
        unfold t_251_52
        have hiN : i < q_n W 98 := by omega
        obtain ⟨_, _, _, k3, k4⟩ := hy.2.2.2.2.2.1 i hiN
        have e3 : W (144 + 3 * i) = nI (q_pre W i) := k3
        have hpl : q_pre W i < 2 ^ i := k4
        have p8 : 2 ^ i ≤ 2 ^ 8 := Nat.pow_le_pow_right (by decide) (by omega)
        have hdi := hd i hiN
        have hlt : sto (fun i => decide (d i = q_n W (143 + 3 * i))) (q_n W 98) < 2 ^ 8 := sto_le (by omega)
        have hn := ih (i + 1) (by omega)
        have eop : q_opn (q_pre W) (i + 1) (fun i => q_n W (143 + 3 * i) - d i) = q_opn (q_pre W) i (fun i => q_n W (143 + 3 * i) - d i) ||| (if (decide (q_n W (143 + 3 * i) - d i ≠ 0) && !q_any (fun j => (q_pre W i).testBit j && decide (q_n W (143 + 3 * j) - d j ≠ 0)) 8) = true then 2 ^ i else 0) := rfl
        rw [eop] at hn
        have tb : (sto (fun i => decide (d i = q_n W (143 + 3 * i))) (q_n W 98)).testBit i = decide (d i = q_n W (143 + 3 * i)) := by rw [sto_tb, decide_eq_true hiN, Bool.true_and]
        simp only [o_nI, m1n, z_nI]
        rw [hW, w1, if_pos (by rw [lt_i (by omega) (by omega)]; omega), nI_tb (by omega) (by omega), tb]
        by_cases he : d i = q_n W (143 + 3 * i)
        · rw [if_neg (by rw [show q_n W (143 + 3 * i) - d i = 0 by omega]; rw [decide_eq_false (fun h => h rfl), Bool.false_and]; decide), Nat.or_zero] at hn
          rw [decide_eq_true he, if_neg (by decide +kernel), nI_or, Nat.or_zero, Wq_jmp, i1_nI, nI_add]
          exact hn
        · rw [decide_eq_true (show q_n W (143 + 3 * i) - d i ≠ 0 by omega), Bool.true_and] at hn
          rw [decide_eq_false he, if_pos (by rfl), m_ofWork (by omega) (by omega), bnd_some, hW, show 142 + 3 * i + 2 = 144 + 3 * i by omega, e3, nI_shl (by omega), Nat.one_mul, nI_or, nI_or, Nat.or_zero]
          have key : (nI (q_pre W i) &&& (nI (sto (fun i => decide (d i = q_n W (143 + 3 * i))) (q_n W 98)) ^^^ -1) = nI 0) ↔ q_any (fun j => (q_pre W i).testBit j && decide (q_n W (143 + 3 * j) - d j ≠ 0)) 8 = false := by
            rw [and_not_0 (by omega)]
            have ji : ∀ j, (q_pre W i).testBit j = true → j < i := fun j hj => by
              rcases Nat.lt_or_ge j i with hl | hl
              · exact hl
              · rw [Nat.testBit_lt_two_pow (Nat.lt_of_lt_of_le hpl (Nat.pow_le_pow_right (by decide) hl))] at hj; cases hj
            constructor
            · intro h
              cases e : q_any (fun j => (q_pre W i).testBit j && decide (q_n W (143 + 3 * j) - d j ≠ 0)) 8 with
              | false => rfl
              | true =>
                obtain ⟨j, j8, hj⟩ := q_any_iff.mp e
                rw [Bool.and_eq_true, decide_eq_true_eq] at hj
                have h2 := h j hj.1
                rw [sto_tb, Bool.and_eq_true, decide_eq_true_eq, decide_eq_true_eq] at h2
                omega
            · intro h j hj
              have hji := ji j hj
              rw [sto_tb, decide_eq_true (show j < q_n W 98 by omega), Bool.true_and]
              refine decide_eq_true ?_
              refine Classical.byContradiction (fun hne => ?_)
              have hdj := hd j (by omega)
              have : q_any (fun j => (q_pre W i).testBit j && decide (q_n W (143 + 3 * j) - d j ≠ 0)) 8 = true := q_any_iff.mpr ⟨j, by omega, by rw [hj, decide_eq_true (show q_n W (143 + 3 * j) - d j ≠ 0 by omega)]; rfl⟩
              rw [h] at this; cases this
          by_cases hz : nI (q_pre W i) &&& (nI (sto (fun i => decide (d i = q_n W (143 + 3 * i))) (q_n W 98)) ^^^ -1) = nI 0
          · rw [key.mp hz, if_pos (by rfl)] at hn
            rw [if_pos hz, Wq_jmp, i1_nI, nI_add]
            exact hn
          · have hq : q_any (fun j => (q_pre W i).testBit j && decide (q_n W (143 + 3 * j) - d j ≠ 0)) 8 = true := by
              cases e : q_any (fun j => (q_pre W i).testBit j && decide (q_n W (143 + 3 * j) - d j ≠ 0)) 8 with
              | true => rfl
              | false => exact absurd (key.mpr e) hz
            rw [hq, if_neg (by decide), Nat.or_zero] at hn
            rw [if_neg hz, Wq_jmp, i1_nI, nI_add]
            exact hn
    have first : ∀ (c i : Nat), i + c = q_n W 98 → Lq X (callw X D') 251 4 [some (.inr (.inl 178)), some (.inl (nI (q_en d (q_n W 98)))), some (.inl (nI (sto (fun i => decide (d i = q_n W (143 + 3 * i))) i))), some (.inl (nI i)), none] (Gk n tot kn kx) M (fun y M' => y = nI (q_opn (q_pre W) (q_n W 98) (fun i => q_n W (143 + 3 * i) - d i)) ∧ M' = M) := by
      intro c
      induction c with
      | zero =>
        intro i hi
        refine Lq.of (t_251_4_ok X (callw X D') n tot kn kx _ _ _ M) ?_
        unfold t_251_4
        simp only [o_nI]
        rw [hW, w1, if_neg (by rw [lt_i (by omega) (by omega)]; omega), Wq_jmp, show i = q_n W 98 by omega]
        exact second (q_n W 98) 0 (by omega)
      | succ c ih =>
        intro i hi
        refine Lq.of (t_251_4_ok X (callw X D') n tot kn kx _ _ _ M) ?_
        unfold t_251_4
        have hiN : i < q_n W 98 := by omega
        have k1 := (hy.2.2.2.2.2.1 i hiN).2.1
        have hi4 := h4 i hiN
        have hdi := d4 i hiN
        have hn := ih (i + 1) (by omega)
        simp only [o_nI]
        rw [hW, w1, if_pos (by rw [lt_i (by omega) (by omega)]; omega), m_ofWork (by omega) (by omega), bnd_some, hW, show 142 + 3 * i + 1 = 143 + 3 * i by omega, k1.1, nI_mul, nI_shr (by omega) (by omega), nI_and, q_en_get d4 hiN]
        by_cases he : d i = q_n W (143 + 3 * i)
        · rw [sto_st (p := fun i => decide (d i = q_n W (143 + 3 * i))) (decide_eq_true he)] at hn
          rw [if_pos (by rw [he]), nI_shl (by omega), Nat.one_mul, nI_or, Wq_jmp, i1_nI, nI_add]
          exact hn
        · rw [sto_sf (p := fun i => decide (d i = q_n W (143 + 3 * i))) (decide_eq_false he)] at hn
          rw [if_neg (by rw [eq_i (by omega) (by omega)]; exact he), nI_or, Nat.or_zero, Wq_jmp, i1_nI, nI_add]
          exact hn
    refine Lq.of (t_251_0_ok X (callw X D') n tot kn kx _ M) ?_
    unfold t_251_0
    simp only [o_nI]
    rw [Wq_jmp]
    exact first (q_n W 98) 0 (by omega)))
end
