section
-- needs: least2
/-! atLeast -/
variable {X : KXw} {n tot kn D : Nat} {kx : Nat → Nat × Nat} {M : MMw}
theorem c_atLeast (hD : 3 ≤ D) {W : Nat → Int32} {r : Nat → Nat} (hr : ∀ i, i < q_n W 98 → r i < 4) (hc : CRhull M 17 W) (hy : q_invY W) (hP : PlP W M) : Sq X D 235 [.inr (.inl 124), .inr (.inl 17), .inl (nI (q_en r (q_n W 98)))] (Gk n tot kn kx) M (fun x M' => x = nI (q_al W r 15) ∧ Fr [128, 129] M M') :=
  Sq.mk (k := 2) hD (fun D' hD' => by
    obtain ⟨w1, w2⟩ := hy.1.2.2.1
    have e0 : M 17 0 = nI (q_n W 98) := by rw [hc.1]; exact w1
    have kk : ∀ i, i < q_n W 98 → q_n W (142 + 3 * i) < 4 := fun i hi => (hy.2.2.2.2.2.1 i hi).1.2
    have elt : q_en r (q_n W 98) < 2 ^ 16 := Nat.lt_of_lt_of_le (q_en_lt hr) (show 4 ^ q_n W 98 ≤ 4 ^ 8 from Nat.pow_le_pow_right (by decide) (by omega))
    have last : ∀ (c x : Nat) (M1 : MMw), x + c = 15 → Fr [128, 129] M M1 → (∀ k, k < 4 → M1 129 k = nI (q_hk W r (q_n W 98) k)) → Lq X (callw X D') 235 114 [some (.inr (.inl 124)), none, none, some (.inl (nI (q_al W r x))), some (.inl (nI (x + 1))), none, none] (Gk n tot kn kx) M1 (fun y M' => y = nI (q_al W r 15) ∧ Fr [128, 129] M M') := by
      intro c
      induction c with
      | zero =>
        intro x M1 hx hf h9
        refine Lq.of (t_235_p124_p17_114_ok X (callw X D') n tot kn kx _ _ M1) ?_
        unfold t_235_p124_p17_114
        simp only [o_nI]
        rw [if_neg (by rw [lt_i (by omega) (by omega)]; omega), Wq_ret, show x = 15 by omega]
        exact ⟨rfl, hf⟩
      | succ c ih =>
        intro x M1 hx hf h9
        refine Lq.of (t_235_p124_p17_114_ok X (callw X D') n tot kn kx _ _ M1) ?_
        unfold t_235_p124_p17_114
        have x16 : x + 1 < 16 := by omega
        have e126 : M1 126 (x + 1) = nI (q_cpl W (x + 1)) := by rw [hf 126 (by decide)]; exact (hP.2 (x + 1) x16).2
        have l1 := q_cpl_le (W := W) (x := x + 1)
        have l2 := q_hs_le (W := W) (x := x + 1) (by omega) hr
        have l3 := q_al_le (W := W) (by omega) hr x
        have hn := ih (x + 1) M1 (by omega) hf h9
        rw [q_al] at hn
        simp only [o_nI, z_nI]
        rw [if_pos (by rw [lt_i (by omega) (by omega)]; omega), c_hoursOf (by omega) x16 h9, bnd_some, q_hx_eq kk, inb_nI x16 (by decide), if_pos rfl, nI_clamp (by omega), e126]
        by_cases hpos : 0 < q_cpl W (x + 1)
        · rw [if_pos hpos] at hn
          have ld : (q_hs (q_wks W) (q_n W 98) (x + 1) r + q_cpl W (x + 1) - 1) / q_cpl W (x + 1) ≤ q_hs (q_wks W) (q_n W 98) (x + 1) r + q_cpl W (x + 1) - 1 := Nat.div_le_self _ _
          rw [if_pos (by rw [lt_i (by omega) (by omega)]; exact hpos), if_neg (by rw [eq_i (by omega) (by omega)]; omega), nI_add, nI_sub (by omega), nI_div (by omega) (by omega), c_max (by omega), bnd_some, nI_max (by omega) (by omega), Wq_jmp, i1_nI, nI_add]
          exact hn
        · rw [if_neg hpos] at hn
          rw [if_neg (by rw [lt_i (by omega) (by omega)]; exact hpos), Wq_jmp, i1_nI, nI_add]
          exact hn
    have works : ∀ (c i : Nat) (M1 : MMw), i + c = q_n W 98 → Fr [128, 129] M M1 → (∀ k, k < 4 → M1 129 k = nI (q_hk W r i k)) → (∀ j, j < i → M1 128 j = nI (q_cT (q_pre W) r (q_n W 98) j)) → Lq X (callw X D') 235 25 [some (.inr (.inl 124)), some (.inr (.inl 17)), some (.inl (nI (q_en r (q_n W 98)))), some (.inl (nI (q_mx (q_cT (q_pre W) r (q_n W 98)) i))), some (.inl (nI i)), none, none] (Gk n tot kn kx) M1 (fun y M' => y = nI (q_al W r 15) ∧ Fr [128, 129] M M') := by
      intro c
      induction c with
      | zero =>
        intro i M1 hi hf h9 h8
        refine Lq.of (t_235_p124_p17_25_ok X (callw X D') n tot kn kx _ _ _ M1) ?_
        unfold t_235_p124_p17_25
        have e1 : M1 17 0 = nI (q_n W 98) := by rw [hf 17 (by decide)]; exact e0
        simp only [o_nI]
        rw [e1, if_neg (by rw [lt_i (by omega) (by omega)]; omega), Wq_jmp]
        rw [show i = q_n W 98 by omega] at h9 ⊢
        exact last 15 0 M1 (by omega) hf h9
      | succ c ih =>
        intro i M1 hi hf h9 h8
        refine Lq.of (t_235_p124_p17_25_ok X (callw X D') n tot kn kx _ _ _ M1) ?_
        unfold t_235_p124_p17_25
        have hiN : i < q_n W 98 := by omega
        obtain ⟨⟨k1, k2⟩, _, _, k3, k4⟩ := hy.2.2.2.2.2.1 i hiN
        have e1 : M1 17 0 = nI (q_n W 98) := by rw [hf 17 (by decide)]; exact e0
        have e18 : M1 18 i = nI (q_n W (142 + 3 * i)) := by rw [hf 18 (by decide), hc.2.2.1 i hiN]; exact k1
        have e20 : M1 20 i = nI (q_pre W i) := by rw [hf 20 (by decide), hc.2.2.2.2.1 i hiN]; exact k3
        have hpl : q_pre W i < 2 ^ i := k4
        have p8 : 2 ^ i ≤ 2 ^ 8 := Nat.pow_le_pow_right (by decide) (by omega)
        have k33 : q_n W (142 + 3 * i) &&& 3 = q_n W (142 + 3 * i) := by
          rw [show 3 = 2 ^ 2 - 1 from rfl, Nat.and_two_pow_sub_one_eq_mod]
          exact Nat.mod_eq_of_lt k2
        have tb : ∀ j, j < q_n W 98 → q_cT (q_pre W) r (q_n W 98) j ≤ 24 := fun j hj => by
          have := q_cT_le (pre := q_pre W) hr (j + 1) j (Nat.lt_succ_self j) hj
          omega
        have mb : q_mx (q_cT (q_pre W) r (q_n W 98)) i ≤ 24 := q_mx_le (fun j hj => tb j (by omega))
        have eT := q_cT_eq (pre := q_pre W) (r := r) hiN
        have tbi := tb i hiN
        have hri := hr i hiN
        simp only [o_nI]
        rw [e1, if_pos (by rw [lt_i (by omega) (by omega)]; omega), if_pos (by rw [lt_i (by omega) (by omega)]; omega), inb_nI (show i < 8 by omega) (by decide), if_pos rfl, nI_clamp (by omega), e18, e20, nI_and, k33, inb_nI k2 (by decide), if_pos rfl, if_pos rfl, nI_mul, nI_shr (by omega) (by omega), nI_and, q_en_get hr hiN, nI_clamp (by omega), h9 _ k2, nI_add]
        rw [if_pos rfl, c_longest (T := q_cT (q_pre W) r (q_n W 98)) (by omega) (by omega) (by omega) (fun j hj => by have := tb j (by omega); omega) (fun j hj => by rw [up_ne (by decide)]; exact h8 j hj), bnd_some, nI_add, ← eT, if_pos rfl, if_pos rfl, up_at, upW_s, c_max (by omega), bnd_some, nI_max (by omega) (by omega), Wq_jmp, i1_nI, nI_add]
        refine ih (i + 1) _ (by omega) ((hf.up (by decide)).up (by decide)) (fun k hk => ?_) (fun j hj => ?_)
        · rw [up_ne (by decide), up_at]
          show upW (M1 129) _ _ k = nI (q_hk W r i k + (if q_n W (142 + 3 * i) = k then r i else 0))
          by_cases e : k = q_n W (142 + 3 * i)
          · subst e; rw [upW_s, if_pos rfl]
          · rw [upW_n e, if_neg (fun h => e h.symm)]; exact h9 k hk
        · rw [up_at]
          by_cases e : j = i
          · subst e; rw [upW_s]
          · rw [upW_n e, up_ne (by decide)]; exact h8 j (by omega)
    have zero : ∀ (c k : Nat) (M1 : MMw), k + c = 4 → Fr [128, 129] M M1 → (∀ j, j < k → M1 129 j = nI 0) → Lq X (callw X D') 235 2 [some (.inr (.inl 124)), some (.inr (.inl 17)), some (.inl (nI (q_en r (q_n W 98)))), some (.inl (nI k)), none, none, none] (Gk n tot kn kx) M1 (fun y M' => y = nI (q_al W r 15) ∧ Fr [128, 129] M M') := by
      intro c
      induction c with
      | zero =>
        intro k M1 hk hf h9
        refine Lq.of (t_235_p124_p17_2_ok X (callw X D') n tot kn kx _ _ M1) ?_
        unfold t_235_p124_p17_2
        simp only [o_nI]
        rw [if_neg (by rw [lt_i (by omega) (by omega)]; omega), Wq_jmp]
        exact works (q_n W 98) 0 M1 (by omega) hf (fun j hj => h9 j (by omega)) (fun j hj => absurd hj (Nat.not_lt_zero j))
      | succ c ih =>
        intro k M1 hk hf h9
        refine Lq.of (t_235_p124_p17_2_ok X (callw X D') n tot kn kx _ _ M1) ?_
        unfold t_235_p124_p17_2
        simp only [o_nI]
        rw [if_pos (by rw [lt_i (by omega) (by omega)]; omega), inb_nI (show k < 4 by omega) (by decide), if_pos rfl, nI_clamp (by omega), Wq_jmp, i1_nI, nI_add]
        refine ih (k + 1) _ (by omega) (hf.up (by decide)) (fun j hj => ?_)
        rw [up_at]
        by_cases e : j = k
        · subst e; rw [upW_s]
        · rw [upW_n e]; exact h9 j (by omega)
    refine Lq.of (t_235_p124_p17_0_ok X (callw X D') n tot kn kx _ M) ?_
    unfold t_235_p124_p17_0
    simp only [o_nI]
    rw [Wq_jmp]
    exact zero 4 0 M (by omega) Fr.rf (fun j hj => absurd hj (Nat.not_lt_zero j)))
end
