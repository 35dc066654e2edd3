section
-- needs: plan2
/-! the planner's sets and who can serve them -/
theorem q_wks_or {W : Nat → Int32} (x y : Nat) : q_wks W (x ||| y) = q_wks W x ||| q_wks W y := by
  unfold q_wks
  rw [sto_or]
  exact sto_cong (fun i _ => Nat.testBit_or _ _ _)
theorem q_wks_and {W : Nat → Int32} (x y : Nat) : q_wks W (x &&& y) = q_wks W x &&& q_wks W y := by
  unfold q_wks
  rw [sto_and]
  exact sto_cong (fun i _ => Nat.testBit_and _ _ _)
theorem q_tk_or {W : Nat → Int32} (x y : Nat) : q_tk W (x ||| y) = q_tk W x ||| q_tk W y := by
  unfold q_tk
  rw [sto_or]
  exact sto_cong (fun i _ => Nat.testBit_or _ _ _)
theorem q_tk_and {W : Nat → Int32} (x y : Nat) : q_tk W (x &&& y) = q_tk W x &&& q_tk W y := by
  unfold q_tk
  rw [sto_and]
  exact sto_cong (fun i _ => Nat.testBit_and _ _ _)
theorem q_cpl_sub {W : Nat → Int32} (hT : q_n W 96 ≤ 8) (x y : Nat) : q_cpl W (x ||| y) + q_cpl W (x &&& y) ≤ q_cpl W x + q_cpl W y := by
  unfold q_cpl
  rw [q_tk_or, q_tk_and]
  exact q_rank_sub _ _ (q_tk_lt hT) (q_tk_lt hT)
theorem q_tk_tb {W : Nat → Int32} {x t : Nat} : (q_tk W x).testBit t = true ↔ t < q_n W 96 ∧ x.testBit (q_kd W t) = true := by
  unfold q_tk
  rw [sto_tb, Bool.and_eq_true, decide_eq_true_eq]
theorem q_wks_tb {W : Nat → Int32} {x i : Nat} : (q_wks W x).testBit i = true ↔ i < q_n W 98 ∧ x.testBit (q_n W (142 + 3 * i)) = true := by
  unfold q_wks
  rw [sto_tb, Bool.and_eq_true, decide_eq_true_eq]
/-- the tools that a work can take -/
def q_Aw (W : Nat → Int32) (w : Nat) : Nat := q_tk W (2 ^ q_n W (142 + 3 * w))
theorem q_Aw_tb {W : Nat → Int32} {w t : Nat} : (q_Aw W w).testBit t = true ↔ t < q_n W 96 ∧ q_kd W t = q_n W (142 + 3 * w) := by
  unfold q_Aw
  rw [q_tk_tb, pow_tb, decide_eq_true_eq]
theorem q_hall_ok {W : Nat → Int32} {S : Nat} (hT : q_n W 96 ≤ 8) (hN : q_n W 98 ≤ 8) (hS : S < 2 ^ q_n W 98) (hk : ∀ i, i < q_n W 98 → q_n W (142 + 3 * i) < 4) : q_hall (q_rank (q_tsm W)) (q_Aw W) S ↔ q_okS (q_wks W) (q_cpl W) S := by
  have inS : ∀ i, S.testBit i = true → i < q_n W 98 := fun i hi => by
    rcases Nat.lt_or_ge i (q_n W 98) with hl | hl
    · exact hl
    · rw [Nat.testBit_lt_two_pow (Nat.lt_of_lt_of_le hS (Nat.pow_le_pow_right (by decide) hl))] at hi; cases hi
  constructor
  · intro h x hx
    have h1 := h (S &&& q_wks W x) q_le_and1
    refine Nat.le_trans h1 (q_rank_mono _ _ (q_tk_lt hT) (fun e he => ?_))
    obtain ⟨_, w, _, h3, h4⟩ := q_un_tb.mp he
    rw [Nat.testBit_and, Bool.and_eq_true] at h3
    obtain ⟨k1, k2⟩ := q_Aw_tb.mp h4
    exact q_tk_tb.mpr ⟨k1, by rw [k2]; exact (q_wks_tb.mp h3.2).2⟩
  · intro h J hJ
    have xb : ∀ k, (sto (fun k => q_any (fun w => J.testBit w && decide (q_n W (142 + 3 * w) = k)) 8) 4).testBit k = true ↔ k < 4 ∧ ∃ w, w < 8 ∧ J.testBit w = true ∧ q_n W (142 + 3 * w) = k := fun k => by
      rw [sto_tb, Bool.and_eq_true, decide_eq_true_eq, q_any_iff]
      constructor
      · rintro ⟨h1, w, h2, h3⟩
        rw [Bool.and_eq_true, decide_eq_true_eq] at h3
        exact ⟨h1, w, h2, h3⟩
      · rintro ⟨h1, w, h2, h3, h4⟩
        exact ⟨h1, w, h2, by rw [h3, decide_eq_true h4]; rfl⟩
    have hx : sto (fun k => q_any (fun w => J.testBit w && decide (q_n W (142 + 3 * w) = k)) 8) 4 < 2 ^ 4 := sto_lt _ _
    have h1 := h _ hx
    have l1 : q_bc J ≤ q_bc (S &&& q_wks W (sto (fun k => q_any (fun w => J.testBit w && decide (q_n W (142 + 3 * w) = k)) 8) 4)) := q_bc_mono (fun w hw => by
      have hw2 := hJ w hw
      have hwN := inS w hw2
      rw [Nat.testBit_and, hw2, q_wks_tb.mpr ⟨hwN, (xb _).mpr ⟨hk w hwN, w, by omega, hw, rfl⟩⟩]; rfl)
    have l2 : q_cpl W (sto (fun k => q_any (fun w => J.testBit w && decide (q_n W (142 + 3 * w) = k)) 8) 4) ≤ q_rank (q_tsm W) (q_un (q_Aw W) J) := q_rank_mono _ _ q_un_lt (fun e he => by
      obtain ⟨e1, e2⟩ := q_tk_tb.mp he
      obtain ⟨_, w, w1, w2, w3⟩ := (xb _).mp e2
      exact q_un_tb.mpr ⟨by omega, w, w1, w2, q_Aw_tb.mpr ⟨e1, w3.symm⟩⟩)
    omega
/-- tools and men, one for each work of a set -/
def q_srv (W : Nat → Int32) (S : Nat) : Prop := ∃ τ μ : Nat → Nat, (∀ w, S.testBit w = true → τ w < q_n W 96 ∧ q_kd W (τ w) = q_n W (142 + 3 * w) ∧ μ w < q_n W 97 ∧ q_serve W (τ w) (μ w) = true) ∧ ∀ v w, S.testBit v = true → S.testBit w = true → v ≠ w → τ v ≠ τ w ∧ μ v ≠ μ w
theorem q_tsm_tb {W : Nat → Int32} {m t : Nat} : (q_tsm W m).testBit t = true ↔ m < q_n W 97 ∧ t < q_n W 96 ∧ q_serve W t m = true := by
  unfold q_tsm
  by_cases h : m < q_n W 97
  · rw [if_pos h]
    unfold q_ts
    rw [sto_tb, Bool.and_eq_true, decide_eq_true_eq]
    exact ⟨fun hh => ⟨h, hh⟩, fun hh => hh.2⟩
  · rw [if_neg h, Nat.zero_testBit]
    exact ⟨fun hh => (by cases hh), fun hh => absurd hh.1 h⟩
theorem q_srv_ok {W : Nat → Int32} {S : Nat} (hT : q_n W 96 ≤ 8) (hM : q_n W 97 ≤ 4) (hN : q_n W 98 ≤ 8) (hS : S < 2 ^ q_n W 98) (hk : ∀ i, i < q_n W 98 → q_n W (142 + 3 * i) < 4) : q_srv W S ↔ q_okS (q_wks W) (q_cpl W) S := by
  have hS8 : S < 256 := Nat.lt_of_lt_of_le hS (show 2 ^ q_n W 98 ≤ 2 ^ 8 from Nat.pow_le_pow_right (by decide) hN)
  rw [← q_hall_ok hT hN hS hk]
  constructor
  · rintro ⟨τ, μ, h1, h2⟩
    refine q_way_hall (τ := τ) (μ := μ) (fun w => q_tk_lt hT) (fun m => q_tsm_lt hT) ⟨fun w hw => ?_, h2⟩
    obtain ⟨a, b, c, d⟩ := h1 w hw
    exact ⟨q_Aw_tb.mpr ⟨a, b⟩, by omega, q_tsm_tb.mpr ⟨c, a, d⟩⟩
  · intro h
    obtain ⟨τ, μ, h1, h2⟩ := q_hall_way hS8 (fun w => q_tk_lt hT) h
    refine ⟨τ, μ, fun w hw => ?_, h2⟩
    obtain ⟨a, b, c⟩ := h1 w hw
    obtain ⟨a1, a2⟩ := q_Aw_tb.mp a
    obtain ⟨c1, c2, c3⟩ := q_tsm_tb.mp c
    exact ⟨a1, a2, c1, c3⟩
/-- one work alone: is its kind in hands -/
theorem q_one_ok {W : Nat → Int32} {i : Nat} (hT : q_n W 96 ≤ 8) (hM : q_n W 97 ≤ 4) (hN : q_n W 98 ≤ 8) (hi : i < q_n W 98) (hk : ∀ i, i < q_n W 98 → q_n W (142 + 3 * i) < 4) : q_okS (q_wks W) (q_cpl W) (2 ^ i) ↔ ∃ t, t < q_n W 96 ∧ q_kd W t = q_n W (142 + 3 * i) ∧ q_hand W t = true := by
  rw [← q_srv_ok hT hM hN (Nat.pow_lt_pow_right (by decide) hi) hk]
  constructor
  · rintro ⟨τ, μ, h1, _⟩
    obtain ⟨a, b, c, d⟩ := h1 i (by rw [pow_tb, decide_eq_true rfl])
    exact ⟨τ i, a, b, q_any_iff.mpr ⟨μ i, c, d⟩⟩
  · rintro ⟨t, t1, t2, t3⟩
    obtain ⟨m, m1, m2⟩ := q_any_iff.mp t3
    refine ⟨fun _ => t, fun _ => m, fun w hw => ?_, fun v w hv hw hne => ?_⟩
    · rw [pow_tb, decide_eq_true_eq] at hw
      rw [hw]; exact ⟨t1, t2, m1, m2⟩
    · rw [pow_tb, decide_eq_true_eq] at hv hw
      exact absurd (hv.trans hw.symm) hne
/-- full sets have the class's size -/
theorem q_full_most {W : Nat → Int32} {S O : Nat} (hT : q_n W 96 ≤ 8) (hO : O < 256) (hS : q_le S O) (h : q_okS (q_wks W) (q_cpl W) S) : (∀ i, O.testBit i = true → S.testBit i = false → ¬ q_okS (q_wks W) (q_cpl W) (S ||| 2 ^ i)) ↔ q_bc S = q_most W O := by
  have le : ∀ S', q_le S' O → q_okS (q_wks W) (q_cpl W) S' → q_bc S' ≤ q_most W O := fun S' h1 h2 => by
    obtain ⟨x, x1, x2⟩ := q_mn_at (f := fun x => q_cpl W x + q_bc (q_cp O (q_wks W x))) 15
    unfold q_most
    rw [x2]
    exact q_max_le hO h1 h2 (by omega)
  constructor
  · intro hmax
    obtain ⟨x, x1, x2⟩ := q_max_eq q_wks_0 q_cpl_0 (fun x y _ _ => q_wks_or x y) (fun x y _ _ => q_wks_and x y) (fun x y _ _ => q_cpl_sub hT x y) hO hS h hmax
    have h1 := le S hS h
    have h2 : q_most W O ≤ q_cpl W x + q_bc (q_cp O (q_wks W x)) := q_mn_le (f := fun x => q_cpl W x + q_bc (q_cp O (q_wks W x))) (by omega)
    omega
  · intro he i h1 h2 h3
    have h4 := le (S ||| 2 ^ i) (q_le_or1 hS (fun j hj => by rw [pow_tb, decide_eq_true_eq] at hj; rw [hj]; exact h1)) h3
    have h5 := (q_rm_no S (q_le_lt hS hO) i (q_bit8 hO h1) h2).2.2.2.1
    omega
end
