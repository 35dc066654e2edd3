section
-- needs: rest
/-! at least so many hours -/
def q_rs (W : Nat → Int32) (i : Nat) : Nat := q_n W (143 + 3 * i) - q_n W (8 + i)
theorem q_en_or {r : Nat → Nat} {n : Nat} (h : ∀ i, i < n → r i < 4) : q_en r n ||| (r n * 2 ^ (2 * n)) = q_en r (n + 1) := by
  have h1 := q_en_lt h
  rw [show 4 ^ n = 2 ^ (2 * n) by rw [Nat.pow_mul]] at h1
  have h2 := Nat.two_pow_add_eq_or_of_lt h1 (r n)
  rw [Nat.or_comm, Nat.mul_comm, ← h2, q_en, Nat.pow_mul, Nat.add_comm, Nat.mul_comm]
variable {X : KXw} {n tot kn D : Nat} {kx : Nat → Nat × Nat} {M : MMw}
theorem c_unfinished (hD : 1 ≤ D) {W : Nat → Int32} (hX : CX M 10 W) : callw X D 232 [.inr (.inl 124), .inr (.inl 1)] (Gk n tot kn kx) M = some (nI (q_en (q_rs W) (q_n W 98)), Gk n tot kn kx, M) :=
  Sq.eq (Sq.mk (k := 0) hD (fun D' hD' => by
    obtain ⟨w1, w2⟩ := hX.2.2.1.1.2.2.1
    have hc := hX.1.2.1
    have e0 : M 17 0 = nI (q_n W 98) := by rw [hc.1]; exact w1
    have r4 : ∀ i, i < q_n W 98 → q_rs W i < 4 := fun i hi => by
      have := (hX.2.2.1.2.2.2.2.2.1 i hi).2.1.2
      unfold q_rs; omega
    have loop : ∀ (c i : Nat), i + c = q_n W 98 → Lq X (callw X D') 232 4 [none, some (.inr (.inl 1)), some (.inl (nI (q_en (q_rs W) i))), some (.inl (nI i))] (Gk n tot kn kx) M (fun y M' => y = nI (q_en (q_rs W) (q_n W 98)) ∧ M' = M) := by
      intro c
      induction c with
      | zero =>
        intro i hi
        refine Lq.of (t_232_p124_p1_4_ok X (callw X D') n tot kn kx _ _ M) ?_
        unfold t_232_p124_p1_4
        rw [e0, if_neg (by rw [lt_i (by omega) (by omega)]; omega), Wq_ret, show i = q_n W 98 by omega]
        exact ⟨rfl, rfl⟩
      | succ c ih =>
        intro i hi
        refine Lq.of (t_232_p124_p1_4_ok X (callw X D') n tot kn kx _ _ M) ?_
        unfold t_232_p124_p1_4
        have hiN : i < q_n W 98 := by omega
        have k1 := (hX.2.2.1.2.2.2.2.2.1 i hiN).2.1
        obtain ⟨d1, d2, _⟩ := hX.2.2.2.2.2.2.2 i hiN
        have e19 : M 19 i = nI (q_n W (143 + 3 * i)) := by rw [hc.2.2.2.1 i hiN]; exact k1.1
        have e15 : M 15 i = nI (q_n W (8 + i)) := by
          have := hX.2.1.2.2.2.2.2.2.2.2.1 i (by omega)
          rw [Nat.one_mul] at this
          rw [this]; exact d1.1
        have hr : q_n W (143 + 3 * i) - q_n W (8 + i) = q_rs W i := rfl
        have h3 : q_rs W i &&& 3 = q_rs W i := by
          rw [show 3 = 2 ^ 2 - 1 from rfl, Nat.and_two_pow_sub_one_eq_mod]
          exact Nat.mod_eq_of_lt (r4 i hiN)
        simp only [o_nI]
        rw [e0, if_pos (by rw [lt_i (by omega) (by omega)]; omega), if_pos (by rw [lt_i (by omega) (by omega)]; omega), inb_nI (show i < 8 by omega) (by decide), if_pos rfl, if_pos rfl, nI_clamp (by omega), e19, e15, nI_sub d2, hr, nI_and, h3, nI_mul, nI_shl (by omega), nI_or, q_en_or (fun j hj => r4 j (by omega)), Wq_jmp, i1_nI, nI_add]
        exact ih (i + 1) (by omega)
    refine Lq.of (t_232_p124_p1_0_ok X (callw X D') n tot kn kx M) ?_
    unfold t_232_p124_p1_0
    simp only [o_nI]
    rw [Wq_jmp]
    exact loop (q_n W 98) 0 (by omega)))
theorem c_longest (hD : 2 ≤ D) {T : Nat → Nat} {p i : Nat} (hp : p < 256) (hi : i ≤ 8) (hb : ∀ j, j < i → T j < 2 ^ 20) (hM : ∀ j, j < i → M 128 j = nI (T j)) : callw X D 233 [.inr (.inl 124), .inl (nI p), .inl (nI i)] (Gk n tot kn kx) M = some (nI (q_mx (fun j => if p.testBit j = true then T j else 0) i), Gk n tot kn kx, M) :=
  Sq.eq (Sq.mk (k := 1) hD (fun D' hD' => by
    have mb : ∀ j, j ≤ i → q_mx (fun j => if p.testBit j = true then T j else 0) j ≤ 2 ^ 20 := fun j hj => q_mx_le (fun l hl => by
      split
      · exact Nat.le_of_lt (hb l (by omega))
      · exact Nat.zero_le _)
    have loop : ∀ (c j : Nat), j + c = i → Lq X (callw X D') 233 5 [some (.inr (.inl 124)), some (.inl (nI p)), some (.inl (nI i)), some (.inl (nI (q_mx (fun j => if p.testBit j = true then T j else 0) j))), some (.inl (nI j))] (Gk n tot kn kx) M (fun y M' => y = nI (q_mx (fun j => if p.testBit j = true then T j else 0) i) ∧ M' = M) := by
      intro c
      induction c with
      | zero =>
        intro j hj
        refine Lq.of (t_233_p124_5_ok X (callw X D') n tot kn kx _ _ _ _ M) ?_
        unfold t_233_p124_5
        rw [if_neg (by rw [lt_i (by omega) (by omega)]; omega), Wq_ret, show j = i by omega]
        exact ⟨rfl, rfl⟩
      | succ c ih =>
        intro j hj
        refine Lq.of (t_233_p124_5_ok X (callw X D') n tot kn kx _ _ _ _ M) ?_
        unfold t_233_p124_5
        have hn := ih (j + 1) (by omega)
        rw [q_mx] at hn
        have m1 := mb j (by omega)
        have b1 := hb j (by omega)
        have p20 : 2 ^ 20 < 2 ^ 31 := by decide
        rw [if_pos (by rw [lt_i (by omega) (by omega)]; omega), c_isIn (by omega), bnd_some, q_bit_nI (by omega) (by omega)]
        cases ht : p.testBit j with
        | false =>
          rw [ht, if_neg (show ¬ (q_mx (fun j => if p.testBit j = true then T j else 0) j < if false = true then T j else 0) by rw [if_neg (by decide)]; exact Nat.not_lt_zero _)] at hn
          rw [if_pos (by rfl), Wq_jmp, i1_nI, nI_add]
          exact hn
        | true =>
          rw [ht, if_pos rfl] at hn
          rw [if_neg (by decide +kernel), inb_nI (show j < 8 by omega) (by decide), if_pos rfl, nI_clamp (by omega), hM j (by omega), c_max (by omega), bnd_some, nI_max (by omega) (by omega), Wq_jmp, i1_nI, nI_add]
          exact hn
    refine Lq.of (t_233_p124_0_ok X (callw X D') n tot kn kx _ _ M) ?_
    unfold t_233_p124_0
    simp only [o_nI]
    rw [Wq_jmp]
    exact loop i 0 (by omega)))
/-- the hours of some kinds -/
def q_hx (h : Nat → Nat) (x : Nat) : Nat → Nat
  | 0 => 0
  | k + 1 => if x.testBit k = true then q_hx h x k + h k else q_hx h x k
theorem c_hoursOf (hD : 2 ≤ D) {h : Nat → Nat} {x : Nat} (hx : x < 16) (hM : ∀ k, k < 4 → M 129 k = nI (h k)) : callw X D 234 [.inr (.inl 124), .inl (nI x)] (Gk n tot kn kx) M = some (nI (q_hx h x 4), Gk n tot kn kx, M) :=
  Sq.eq (Sq.mk (k := 1) hD (fun D' hD' => by
    have loop : ∀ (c k : Nat), k + c = 4 → Lq X (callw X D') 234 4 [some (.inr (.inl 124)), some (.inl (nI x)), some (.inl (nI (q_hx h x k))), some (.inl (nI k))] (Gk n tot kn kx) M (fun y M' => y = nI (q_hx h x 4) ∧ M' = M) := by
      intro c
      induction c with
      | zero =>
        intro k hk
        refine Lq.of (t_234_p124_4_ok X (callw X D') n tot kn kx _ _ _ M) ?_
        unfold t_234_p124_4
        simp only [o_nI]
        rw [if_neg (by rw [lt_i (by omega) (by omega)]; omega), Wq_ret, show k = 4 by omega]
        exact ⟨rfl, rfl⟩
      | succ c ih =>
        intro k hk
        refine Lq.of (t_234_p124_4_ok X (callw X D') n tot kn kx _ _ _ M) ?_
        unfold t_234_p124_4
        have hn := ih (k + 1) (by omega)
        rw [q_hx] at hn
        simp only [o_nI]
        rw [if_pos (by rw [lt_i (by omega) (by omega)]; omega), c_isIn (by omega), bnd_some, q_bit_nI (by omega) (by omega)]
        cases ht : x.testBit k with
        | false =>
          rw [ht, if_neg (by decide)] at hn
          rw [if_pos (by rfl), Wq_jmp, i1_nI, nI_add]
          exact hn
        | true =>
          rw [ht, if_pos rfl] at hn
          rw [if_neg (by decide +kernel), inb_nI (show k < 4 by omega) (by decide), if_pos rfl, nI_clamp (by omega), hM k (by omega), nI_add, Wq_jmp, i1_nI, nI_add]
          exact hn
    refine Lq.of (t_234_p124_0_ok X (callw X D') n tot kn kx _ M) ?_
    unfold t_234_p124_0
    simp only [o_nI]
    rw [Wq_jmp]
    exact loop 4 0 (by omega)))
end
