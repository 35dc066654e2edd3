section
-- needs: atleast
/-! the reference's states -/
variable {X : KXw} {n tot kn D : Nat} {kx : Nat → Nat × Nat} {M : MMw}
theorem m_started (hD : 1 ≤ D) {W : Nat → Int32} (hW : M 179 = W) (hy : q_invY W) (hm : q_invM W) : callw X D 249 [.inr (.inl 178)] (Gk n tot kn kx) M = some (nI (q_en (fun i => q_n W (8 + i)) (q_n W 98)), Gk n tot kn kx, M) :=
  Sq.eq (Sq.mk (k := 0) hD (fun D' hD' => by
    obtain ⟨w1, w2⟩ := hy.1.2.2.1
    have loop : ∀ (c i : Nat), i + c = q_n W 98 → Lq X (callw X D') 249 4 [some (.inr (.inl 178)), some (.inl (nI (q_en (fun i => q_n W (8 + i)) i))), some (.inl (nI i))] (Gk n tot kn kx) M (fun y M' => y = nI (q_en (fun i => q_n W (8 + i)) (q_n W 98)) ∧ M' = M) := by
      intro c
      induction c with
      | zero =>
        intro i hi
        refine Lq.of (t_249_4_ok X (callw X D') n tot kn kx _ _ M) ?_
        unfold t_249_4
        rw [hW, w1, if_neg (by rw [lt_i (by omega) (by omega)]; omega), Wq_ret, show i = q_n W 98 by omega]
        exact ⟨rfl, rfl⟩
      | succ c ih =>
        intro i hi
        refine Lq.of (t_249_4_ok X (callw X D') n tot kn kx _ _ M) ?_
        unfold t_249_4
        obtain ⟨d1, _, _⟩ := hm.2.2.2.2 i (by omega)
        simp only [o_nI]
        rw [hW, w1, if_pos (by rw [lt_i (by omega) (by omega)]; omega), nI_add, inb_nI (show 8 + i < 2834 by omega) (by decide), if_pos rfl, nI_clamp (by omega), d1.1, nI_mul, nI_shl (by omega), nI_or, q_en_or (r := fun i => q_n W (8 + i)) (fun j hj => (hm.2.2.2.2 j (by omega)).1.2), Wq_jmp, i1_nI, nI_add]
        exact ih (i + 1) (by omega)
    refine Lq.of (t_249_0_ok X (callw X D') n tot kn kx M) ?_
    unfold t_249_0
    simp only [o_nI]
    rw [Wq_jmp]
    exact loop (q_n W 98) 0 (by omega)))
theorem m_ended (hD : 2 ≤ D) {W : Nat → Int32} (hW : M 179 = W) (hy : q_invY W) : callw X D 250 [.inr (.inl 178)] (Gk n tot kn kx) M = some (nI (q_en (fun i => q_n W (143 + 3 * i)) (q_n W 98)), Gk n tot kn kx, M) :=
  Sq.eq (Sq.mk (k := 1) hD (fun D' hD' => by
    obtain ⟨w1, w2⟩ := hy.1.2.2.1
    have loop : ∀ (c i : Nat), i + c = q_n W 98 → Lq X (callw X D') 250 4 [some (.inr (.inl 178)), some (.inl (nI (q_en (fun i => q_n W (143 + 3 * i)) i))), some (.inl (nI i))] (Gk n tot kn kx) M (fun y M' => y = nI (q_en (fun i => q_n W (143 + 3 * i)) (q_n W 98)) ∧ M' = M) := by
      intro c
      induction c with
      | zero =>
        intro i hi
        refine Lq.of (t_250_4_ok X (callw X D') n tot kn kx _ _ M) ?_
        unfold t_250_4
        rw [hW, w1, if_neg (by rw [lt_i (by omega) (by omega)]; omega), Wq_ret, show i = q_n W 98 by omega]
        exact ⟨rfl, rfl⟩
      | succ c ih =>
        intro i hi
        refine Lq.of (t_250_4_ok X (callw X D') n tot kn kx _ _ M) ?_
        unfold t_250_4
        have d1 := (hy.2.2.2.2.2.1 i (by omega)).2.1
        simp only [o_nI]
        rw [hW, w1, if_pos (by rw [lt_i (by omega) (by omega)]; omega), m_ofWork (by omega) (by omega), bnd_some, hW, show 142 + 3 * i + 1 = 143 + 3 * i by omega, d1.1, nI_mul, nI_shl (by omega), nI_or, q_en_or (r := fun i => q_n W (143 + 3 * i)) (fun j hj => (hy.2.2.2.2.2.1 j (by omega)).2.1.2), Wq_jmp, i1_nI, nI_add]
        exact ih (i + 1) (by omega)
    refine Lq.of (t_250_0_ok X (callw X D') n tot kn kx M) ?_
    unfold t_250_0
    simp only [o_nI]
    rw [Wq_jmp]
    exact loop (q_n W 98) 0 (by omega)))
theorem m_step (hD : 1 ≤ D) {W : Nat → Int32} {e S : Nat} (hS : S < 256) (hW : M 179 = W) (hy : q_invY W) : callw X D 253 [.inr (.inl 178), .inl (nI e), .inl (nI S)] (Gk n tot kn kx) M = some (nI (e + q_sp S (q_n W 98)), Gk n tot kn kx, M) :=
  Sq.eq (Sq.mk (k := 0) hD (fun D' hD' => by
    obtain ⟨w1, w2⟩ := hy.1.2.2.1
    have loop : ∀ (c i : Nat), i + c = q_n W 98 → Lq X (callw X D') 253 5 [some (.inr (.inl 178)), none, some (.inl (nI S)), some (.inl (nI (e + q_sp S i))), some (.inl (nI i))] (Gk n tot kn kx) M (fun y M' => y = nI (e + q_sp S (q_n W 98)) ∧ M' = M) := by
      intro c
      induction c with
      | zero =>
        intro i hi
        refine Lq.of (t_253_5_ok X (callw X D') n tot kn kx _ _ _ M) ?_
        unfold t_253_5
        rw [hW, w1, if_neg (by rw [lt_i (by omega) (by omega)]; omega), Wq_ret, show i = q_n W 98 by omega]
        exact ⟨rfl, rfl⟩
      | succ c ih =>
        intro i hi
        refine Lq.of (t_253_5_ok X (callw X D') n tot kn kx _ _ _ M) ?_
        unfold t_253_5
        have es : e + q_sp S i + (S.testBit i).toNat * 2 ^ (2 * i) = e + q_sp S (i + 1) := by
          show _ = e + (q_sp S i + (S.testBit i).toNat * 4 ^ i)
          rw [Nat.pow_mul, Nat.add_assoc]
        simp only [o_nI]
        rw [hW, w1, if_pos (by rw [lt_i (by omega) (by omega)]; omega), nI_tb (by omega) (by omega), nI_mul, nI_shl (by omega), nI_add, es, Wq_jmp, i1_nI, nI_add]
        exact ih (i + 1) (by omega)
    refine Lq.of (t_253_0_ok X (callw X D') n tot kn kx _ _ M) ?_
    unfold t_253_0
    simp only [o_nI]
    rw [Wq_jmp]
    exact loop (q_n W 98) 0 (by omega)))
end
