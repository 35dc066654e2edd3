section
-- needs: plan
/-! the planner's words -/
variable {X : KXw} {n tot kn D : Nat} {kx : Nat → Nat × Nat} {M : MMw}
theorem q_wks_0 {W : Nat → Int32} : q_wks W 0 = 0 := sto_0.mpr (fun i _ => Nat.zero_testBit _)
theorem q_cpl_0 {W : Nat → Int32} : q_cpl W 0 = 0 := by
  unfold q_cpl q_tk
  rw [sto_0.mpr (fun i _ => Nat.zero_testBit _)]
  exact q_rank_0
theorem q_cpl_le {W : Nat → Int32} {x : Nat} : q_cpl W x ≤ 8 := Nat.le_trans q_rank_bc (cnt_le _ _)
theorem c_prep23 (hD : 5 ≤ D) {W : Nat → Int32} (hX : CX M 10 W) : Lq X (callw X D) 231 23 [some (.inr (.inl 124)), some (.inr (.inl 1)), some (.inr (.inl 120)), some (.inl (nI 0))] (Gk n tot kn kx) M (fun x M' => x = 0 ∧ PlP W M' ∧ Fr [121, 122, 125, 126, 127] M M') := by
  have w96 := hX.2.2.1.1.1.2
  have w98 := hX.2.2.1.1.2.2.1.2
  obtain ⟨w3, w97⟩ := hX.2.2.1.1.2.1
  have e21 : M 2 1 = nI (q_n W 97) := by rw [hX.1.1.2.1]; exact w3
  have xs : ∀ (c x : Nat) (M1 : MMw), x + c = 16 → Fr [121, 122, 125, 126, 127] M M1 → (∀ m, m < 4 → M1 125 m = nI (q_tsm W m)) → (∀ y, y < x → M1 127 y = nI (q_wks W y) ∧ M1 126 y = nI (q_cpl W y)) → Lq X (callw X D) 231 63 [some (.inr (.inl 124)), some (.inr (.inl 1)), none, some (.inl (nI x))] (Gk n tot kn kx) M1 (fun x M' => x = 0 ∧ PlP W M' ∧ Fr [121, 122, 125, 126, 127] M M') := by
    intro c
    induction c with
    | zero =>
      intro x M1 hx hf h1 h2
      refine Lq.of (t_231_p124_p1_p120_63_ok X (callw X D) n tot kn kx _ M1) ?_
      unfold t_231_p124_p1_p120_63
      simp only [o_nI]
      rw [if_neg (by rw [lt_i (by omega) (by omega)]; omega), Wq_ret]
      exact ⟨rfl, ⟨h1, fun y hy => h2 y (by omega)⟩, hf⟩
    | succ c ih =>
      intro x M1 hx hf h1 h2
      refine Lq.of (t_231_p124_p1_p120_63_ok X (callw X D) n tot kn kx _ M1) ?_
      unfold t_231_p124_p1_p120_63
      have x16 : x < 16 := by omega
      have hX1 := hX.fr hf (by decide)
      have f2 : Fr [121, 122, 125, 126, 127] M (up M1 127 x (nI (q_wks W x))) := hf.up (by decide)
      have hX2 := hX.fr f2 (by decide)
      simp only [o_nI]
      rw [if_pos (by rw [lt_i (by omega) (by omega)]; omega), c_worksOf (by omega) x16 hX1.1.2.1 hX1.2.2.1, bnd_some, inb_nI x16 (by decide), if_pos rfl, nI_clamp (by omega), c_toolsOf (by omega) (by omega) hX2.1.1 hX2.2.2.1, bnd_some, c_couples (ts := q_tsm W) (by omega) (q_tk_lt (by omega)) (fun m => q_tsm_lt (by omega)) (fun m hm => by rw [up_ne (by decide)]; exact h1 m hm), bnd_some, if_pos rfl, Wq_jmp, i1_nI, nI_add]
      refine ih (x + 1) _ (by omega) (f2.up (by decide)) (fun m hm => by rw [up_ne (by decide), up_ne (by decide)]; exact h1 m hm) (fun y hy => ?_)
      rw [up_ne (by decide), up_at, up_at, up_ne (by decide)]
      by_cases e : y = x
      · subst e; rw [upW_s, upW_s]; exact ⟨rfl, rfl⟩
      · rw [upW_n e, upW_n e]; exact h2 y (by omega)
  have ms : ∀ (c m : Nat) (M1 : MMw), m + c = 4 → Fr [121, 122, 125, 126, 127] M M1 → (∀ k, k < m → M1 125 k = nI (q_tsm W k)) → Lq X (callw X D) 231 23 [some (.inr (.inl 124)), some (.inr (.inl 1)), some (.inr (.inl 120)), some (.inl (nI m))] (Gk n tot kn kx) M1 (fun x M' => x = 0 ∧ PlP W M' ∧ Fr [121, 122, 125, 126, 127] M M') := by
    intro c
    induction c with
    | zero =>
      intro m M1 hm hf h1
      refine Lq.of (t_231_p124_p1_p120_23_ok X (callw X D) n tot kn kx _ M1) ?_
      unfold t_231_p124_p1_p120_23
      simp only [o_nI]
      rw [if_neg (by rw [lt_i (by omega) (by omega)]; omega), Wq_jmp]
      exact xs 16 0 M1 (by omega) hf (fun k hk => h1 k (by omega)) (fun y hy => absurd hy (Nat.not_lt_zero y))
    | succ c ih =>
      intro m M1 hm hf h1
      refine Lq.of (t_231_p124_p1_p120_23_ok X (callw X D) n tot kn kx _ M1) ?_
      unfold t_231_p124_p1_p120_23
      have m4 : m < 4 := by omega
      have e21b : M1 2 1 = nI (q_n W 97) := by rw [hf 2 (by decide)]; exact e21
      simp only [o_nI]
      rw [if_pos (by rw [lt_i (by omega) (by omega)]; omega), e21b, inb_nI m4 (by decide), if_pos rfl]
      by_cases hN : m < q_n W 97
      · rw [if_pos (by rw [lt_i (by omega) (by omega)]; exact hN)]
        refine Wq.call (c_toolsServing hD m4 (hX.fr hf (by decide))) ?_
        rintro x M2 ⟨rfl, f2⟩
        rw [if_pos rfl, Wq_jmp, i1_nI, nI_add, nI_clamp (by omega)]
        refine ih (m + 1) _ (by omega) ((hf.tr (f2.mono (by decide))).up (by decide)) (fun k hk => ?_)
        rw [up_at]
        by_cases e : k = m
        · subst e; rw [upW_s]; unfold q_tsm; rw [if_pos hN]
        · rw [upW_n e, f2 125 (by decide)]; exact h1 k (by omega)
      · rw [if_neg (by rw [lt_i (by omega) (by omega)]; exact hN), Wq_jmp, i1_nI, nI_add, nI_clamp (by omega)]
        refine ih (m + 1) _ (by omega) (hf.up (by decide)) (fun k hk => ?_)
        rw [up_at]
        by_cases e : k = m
        · subst e; rw [upW_s]; unfold q_tsm; rw [if_neg hN]
        · rw [upW_n e]; exact h1 k (by omega)
  exact ms 4 0 M (by omega) Fr.rf (fun k hk => absurd hk (Nat.not_lt_zero k))
theorem c_canGoOn (hD : 2 ≤ D) {W : Nat → Int32} {S : Nat} (hS : S < 256) (h : PlP W M) : Sq X D 238 [.inr (.inl 124), .inl (nI S)] (Gk n tot kn kx) M (fun x M' => (∃ b, x = b2i b ∧ (b = true ↔ q_okS (q_wks W) (q_cpl W) S)) ∧ M' = M) :=
  Sq.mk (k := 1) hD (fun D' hD' => by
    have loop : ∀ (c x : Nat), x + c = 16 → (∀ y, y < x → q_bc (S &&& q_wks W y) ≤ q_cpl W y) → Lq X (callw X D') 238 2 [some (.inr (.inl 124)), some (.inl (nI S)), some (.inl (nI x))] (Gk n tot kn kx) M (fun x M' => (∃ b, x = b2i b ∧ (b = true ↔ q_okS (q_wks W) (q_cpl W) S)) ∧ M' = M) := by
      intro c
      induction c with
      | zero =>
        intro x hx hno
        refine Lq.of (t_238_p124_2_ok X (callw X D') n tot kn kx _ _ M) ?_
        unfold t_238_p124_2
        simp only [o_nI]
        rw [if_neg (by rw [lt_i (by omega) (by omega)]; omega), Wq_ret]
        exact ⟨⟨true, rfl, fun _ y hy => hno y (by omega), fun _ => rfl⟩, rfl⟩
      | succ c ih =>
        intro x hx hno
        refine Lq.of (t_238_p124_2_ok X (callw X D') n tot kn kx _ _ M) ?_
        unfold t_238_p124_2
        have x16 : x < 16 := by omega
        obtain ⟨h1, h2⟩ := h.2 x x16
        have hle : S &&& q_wks W x ≤ S := Nat.and_le_left
        have l1 : q_bc (S &&& q_wks W x) ≤ 8 := cnt_le _ _
        have l2 := q_cpl_le (W := W) (x := x)
        simp only [o_nI]
        rw [if_pos (by rw [lt_i (by omega) (by omega)]; omega), inb_nI x16 (by decide), if_pos rfl, nI_clamp (by omega), h1, nI_and, c_bits (by omega) (by omega), bnd_some, h2, if_pos rfl]
        by_cases hb : q_cpl W x < q_bc (S &&& q_wks W x)
        · rw [if_pos (by rw [lt_i (by omega) (by omega)]; exact hb), Wq_ret]
          exact ⟨⟨false, rfl, fun h => (by cases h), fun hh => by have := hh x x16; omega⟩, rfl⟩
        · rw [if_neg (by rw [lt_i (by omega) (by omega)]; exact hb), Wq_jmp, i1_nI, nI_add]
          refine ih (x + 1) (by omega) (fun y hy => ?_)
          rcases Nat.lt_or_ge y x with hl | hl
          · exact hno y hl
          · rw [show y = x by omega]; omega
    refine Lq.of (t_238_p124_0_ok X (callw X D') n tot kn kx _ M) ?_
    unfold t_238_p124_0
    simp only [o_nI]
    rw [Wq_jmp]
    refine loop 15 1 (by omega) (fun y hy => ?_)
    rw [show y = 0 by omega, q_wks_0, Nat.and_zero, show q_bc 0 = 0 by decide +kernel]
    exact Nat.zero_le _)
def q_most (W : Nat → Int32) (O : Nat) : Nat := q_mn (fun x => q_cpl W x + q_bc (q_cp O (q_wks W x))) 15
theorem c_most1 (hD : 2 ≤ D) {W : Nat → Int32} {O : Nat} (hO : O < 256) (h : PlP W M) : callw X D 237 [.inr (.inl 124), .inl (nI O)] (Gk n tot kn kx) M = some (nI (q_most W O), Gk n tot kn kx, M) :=
  Sq.eq (Sq.mk (k := 1) hD (fun D' hD' => by
    have f16 : ∀ x, q_cpl W x + q_bc (q_cp O (q_wks W x)) ≤ 16 := fun x => by
      have := q_cpl_le (W := W) (x := x)
      have : q_bc (q_cp O (q_wks W x)) ≤ 8 := cnt_le _ _
      omega
    have mle : ∀ n, q_mn (fun x => q_cpl W x + q_bc (q_cp O (q_wks W x))) n ≤ 16 := fun n => by
      obtain ⟨i, h1, h2⟩ := q_mn_at (f := fun x => q_cpl W x + q_bc (q_cp O (q_wks W x))) n
      rw [h2]; exact f16 i
    have loop : ∀ (c x : Nat), x + c = 15 → Lq X (callw X D') 237 7 [some (.inr (.inl 124)), some (.inl (nI O)), some (.inl (nI (q_mn (fun x => q_cpl W x + q_bc (q_cp O (q_wks W x))) x))), some (.inl (nI (x + 1)))] (Gk n tot kn kx) M (fun y M' => y = nI (q_most W O) ∧ M' = M) := by
      intro c
      induction c with
      | zero =>
        intro x hx
        refine Lq.of (t_237_p124_7_ok X (callw X D') n tot kn kx _ _ _ M) ?_
        unfold t_237_p124_7
        simp only [o_nI]
        rw [if_neg (by rw [lt_i (by omega) (by omega)]; omega), Wq_ret, show x = 15 by omega]
        exact ⟨rfl, rfl⟩
      | succ c ih =>
        intro x hx
        refine Lq.of (t_237_p124_7_ok X (callw X D') n tot kn kx _ _ _ M) ?_
        unfold t_237_p124_7
        have x16 : x + 1 < 16 := by omega
        obtain ⟨h1, h2⟩ := h.2 (x + 1) x16
        have hle : q_cp O (q_wks W (x + 1)) ≤ O := Nat.and_le_left
        have k1 := f16 (x + 1)
        have k2 := mle x
        have ecp : nI O &&& (nI (q_wks W (x + 1)) ^^^ nI 4294967295) = nI (q_cp O (q_wks W (x + 1))) := by rw [nI_xor, nI_and]; rfl
        have hn := ih (x + 1) (by omega)
        rw [q_mn] at hn
        simp only [o_nI]
        rw [if_pos (by rw [lt_i (by omega) (by omega)]; omega), inb_nI x16 (by decide), if_pos rfl, if_pos rfl, nI_clamp (by omega), h1, h2, ecp, c_bits (by omega) (by omega), bnd_some, nI_add, c_min (by omega), bnd_some, nI_min (by omega) (by omega), Wq_jmp, i1_nI, nI_add]
        exact hn
    have e0 : q_mn (fun x => q_cpl W x + q_bc (q_cp O (q_wks W x))) 0 = q_bc O := by
      show q_cpl W 0 + q_bc (q_cp O (q_wks W 0)) = q_bc O
      rw [q_cpl_0, q_wks_0, Nat.zero_add]
      congr 1
      apply Nat.eq_of_testBit_eq
      intro j
      rw [q_cp_tb hO, Nat.zero_testBit, Bool.not_false, Bool.and_true]
    have hl := loop 15 0 (by omega)
    rw [e0] at hl
    refine Lq.of (t_237_p124_0_ok X (callw X D') n tot kn kx _ M) ?_
    unfold t_237_p124_0
    simp only [o_nI]
    rw [c_bits (by omega) hO, bnd_some, Wq_jmp]
    exact hl))
end
