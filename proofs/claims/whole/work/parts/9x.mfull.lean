section
-- needs: mopen
/-! is a set full -/
variable {X : KXw} {n tot kn D : Nat} {kx : Nat → Nat × Nat} {M : MMw}
/-- the reference's table of sets that can be served together -/
def TgP (W : Nat → Int32) (M : MMw) : Prop := ∀ S, S < 2 ^ q_n W 98 → ∃ b, M 189 S = b2i b ∧ (b = true ↔ q_okS (q_wks W) (q_cpl W) S)
theorem m_isFull (hD : 1 ≤ D) {W : Nat → Int32} {S O : Nat} (hO : O < 2 ^ q_n W 98) (hS : q_le S O) (hW : M 179 = W) (hy : q_invY W) (hT : TgP W M) : Sq X D 252 [.inr (.inl 178), .inl (nI S), .inl (nI O)] (Gk n tot kn kx) M (fun x M' => (∃ b, x = b2i b ∧ (b = true ↔ ∀ i, O.testBit i = true → S.testBit i = false → ¬ q_okS (q_wks W) (q_cpl W) (S ||| 2 ^ i))) ∧ M' = M) :=
  Sq.mk (k := 0) hD (fun D' hD' => by
    obtain ⟨w1, w2⟩ := hy.1.2.2.1
    have p8 : 2 ^ q_n W 98 ≤ 2 ^ 8 := Nat.pow_le_pow_right (by decide) (by omega)
    have hO8 : O < 256 := by omega
    have hS8 := q_le_lt hS hO8
    have inN : ∀ i, O.testBit i = true → i < q_n W 98 := fun i hi => by
      rcases Nat.lt_or_ge i (q_n W 98) with hl | hl
      · exact hl
      · rw [Nat.testBit_lt_two_pow (Nat.lt_of_lt_of_le hO (Nat.pow_le_pow_right (by decide) hl))] at hi; cases hi
    have hSN : S < 2 ^ q_n W 98 := by
      have e : S &&& O = S := by
        apply Nat.eq_of_testBit_eq
        intro j
        rw [Nat.testBit_and]
        cases hj : S.testBit j with
        | false => rfl
        | true => rw [hS j hj]; rfl
      have := Nat.and_le_right (n := S) (m := O)
      omega
    have loop : ∀ (c i : Nat), i + c = q_n W 98 → (∀ j, j < i → O.testBit j = true → S.testBit j = false → ¬ q_okS (q_wks W) (q_cpl W) (S ||| 2 ^ j)) → Lq X (callw X D') 252 2 [some (.inr (.inl 178)), some (.inl (nI S)), some (.inl (nI O)), some (.inl (nI i))] (Gk n tot kn kx) M (fun x M' => (∃ b, x = b2i b ∧ (b = true ↔ ∀ i, O.testBit i = true → S.testBit i = false → ¬ q_okS (q_wks W) (q_cpl W) (S ||| 2 ^ i))) ∧ M' = M) := by
      intro c
      induction c with
      | zero =>
        intro i hi hno
        refine Lq.of (t_252_2_ok X (callw X D') n tot kn kx _ _ _ M) ?_
        unfold t_252_2
        simp only [o_nI]
        rw [hW, w1, if_neg (by rw [lt_i (by omega) (by omega)]; omega), Wq_ret]
        exact ⟨⟨true, rfl, fun _ j h1 h2 => hno j (by have := inN j h1; omega) h1 h2, fun _ => rfl⟩, rfl⟩
      | succ c ih =>
        intro i hi hno
        refine Lq.of (t_252_2_ok X (callw X D') n tot kn kx _ _ _ M) ?_
        unfold t_252_2
        have hiN : i < q_n W 98 := by omega
        have ecp : nI O &&& (nI S ^^^ nI 4294967295) = nI (q_cp O S) := by rw [nI_xor, nI_and]; rfl
        have hn : (O.testBit i = true → S.testBit i = false → ¬ q_okS (q_wks W) (q_cpl W) (S ||| 2 ^ i)) → _ := fun hh => ih (i + 1) (by omega) (fun j hj => by
          rcases Nat.lt_or_ge j i with hl | hl
          · exact hno j hl
          · rw [show j = i by omega]; exact hh)
        have hcp : q_cp O S &&& 2 ^ i = 0 ↔ ¬ (O.testBit i = true ∧ S.testBit i = false) := by
          have tb := q_cp_tb (w := S) (j := i) hO8
          constructor
          · rintro h ⟨h1, h2⟩
            have h3 := congrArg (fun x => x.testBit i) h
            simp only [Nat.testBit_and, tb, h1, h2, pow_tb, Nat.zero_testBit] at h3
            rw [decide_eq_true trivial] at h3; cases h3
          · intro h
            apply Nat.eq_of_testBit_eq
            intro j
            rw [Nat.testBit_and, pow_tb, Nat.zero_testBit]
            by_cases e : j = i
            · subst e
              rw [tb]
              cases h1 : O.testBit j <;> cases h2 : S.testBit j <;> first | rfl | exact absurd ⟨h1, h2⟩ h
            · rw [decide_eq_false e, Bool.and_false]
        have hcl : q_cp O S &&& 2 ^ i ≤ q_cp O S := Nat.and_le_left
        have hcl2 : q_cp O S ≤ O := Nat.and_le_left
        simp only [o_nI, z_nI]
        rw [hW, w1, if_pos (by rw [lt_i (by omega) (by omega)]; omega), ecp, nI_shl (by omega), Nat.one_mul, nI_and, nI_or]
        by_cases hz : q_cp O S &&& 2 ^ i = 0
        · rw [if_pos (by rw [hz]), Wq_jmp, i1_nI, nI_add]
          exact hn (fun h1 h2 => absurd ⟨h1, h2⟩ (hcp.mp hz))
        · have hor : S ||| 2 ^ i < 2 ^ q_n W 98 := Nat.or_lt_two_pow hSN (Nat.pow_lt_pow_right (by decide) hiN)
          obtain ⟨b, b1, b2⟩ := hT _ hor
          rw [if_neg (by rw [eq_i (by omega) (by omega)]; exact hz), inb_nI (show S ||| 2 ^ i < 256 by omega) (by decide), if_pos rfl, nI_clamp (by omega), b1]
          cases b with
          | false =>
            rw [if_pos (by rfl), Wq_jmp, i1_nI, nI_add]
            exact hn (fun _ _ h3 => by have := b2.mpr h3; cases this)
          | true =>
            rw [if_neg (by decide +kernel), Wq_ret]
            have h12 : O.testBit i = true ∧ S.testBit i = false := Classical.byContradiction (fun hh => hz (hcp.mpr hh))
            exact ⟨⟨false, rfl, fun h => (by cases h), fun hh => absurd (b2.mp rfl) (hh i h12.1 h12.2)⟩, rfl⟩
    refine Lq.of (t_252_0_ok X (callw X D') n tot kn kx _ _ M) ?_
    unfold t_252_0
    simp only [o_nI]
    rw [Wq_jmp]
    exact loop (q_n W 98) 0 (by omega) (fun j hj => absurd hj (Nat.not_lt_zero j)))
end
