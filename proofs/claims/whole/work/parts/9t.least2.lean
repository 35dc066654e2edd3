section
-- needs: least
/-! the class's bound -/
theorem q_mx_cong {f g : Nat → Nat} : ∀ {n}, (∀ i, i < n → f i = g i) → q_mx f n = q_mx g n
  | 0, _ => rfl
  | n + 1, h => by rw [q_mx, q_mx, q_mx_cong (fun i hi => h i (by omega)), h n (Nat.lt_succ_self n)]
theorem q_cT_le {pre r : Nat → Nat} {N : Nat} (h : ∀ i, i < N → r i < 4) : ∀ n i, i < n → i < N → q_cT pre r N i ≤ 3 * (i + 1) := by
  intro n
  induction n with
  | zero => intro i hi; exact absurd hi (Nat.not_lt_zero i)
  | succ n ih =>
    intro i hi hN
    rw [q_cT_eq hN]
    have h1 := h i hN
    have h2 : q_mx (fun j => if (pre i).testBit j = true then q_cT pre r N j else 0) i ≤ 3 * i := q_mx_le (fun j hj => by
      split
      · have := ih j (by omega) (by omega); omega
      · exact Nat.zero_le _)
    omega
/-- the hours of each kind so far -/
def q_hk (W : Nat → Int32) (r : Nat → Nat) (n k : Nat) : Nat := q_sum (fun i => if q_n W (142 + 3 * i) = k then r i else 0) n
theorem q_hx_eq {W : Nat → Int32} {r : Nat → Nat} {x : Nat} (hk : ∀ i, i < q_n W 98 → q_n W (142 + 3 * i) < 4) : q_hx (q_hk W r (q_n W 98)) x 4 = q_hs (q_wks W) (q_n W 98) x r := by
  have e : ∀ n, q_hx (q_hk W r (q_n W 98)) x n = q_sum (fun k => if x.testBit k = true then q_hk W r (q_n W 98) k else 0) n := by
    intro n
    induction n with
    | zero => rfl
    | succ n ih =>
      show (if x.testBit n = true then q_hx (q_hk W r (q_n W 98)) x n + q_hk W r (q_n W 98) n else q_hx (q_hk W r (q_n W 98)) x n) = q_sum (fun k => if x.testBit k = true then q_hk W r (q_n W 98) k else 0) n + (if x.testBit n = true then q_hk W r (q_n W 98) n else 0)
      rw [ih]
      split <;> rfl
  rw [e 4]
  have e2 : q_sum (fun k => if x.testBit k = true then q_hk W r (q_n W 98) k else 0) 4 = q_sum (fun k => q_sum (fun i => if q_n W (142 + 3 * i) = k then (if x.testBit k = true then r i else 0) else 0) (q_n W 98)) 4 := q_sum_cong (fun k _ => by
    by_cases hb : x.testBit k = true
    · rw [if_pos hb]
      exact q_sum_cong (fun i _ => by rw [if_pos hb])
    · rw [if_neg hb, q_sum_z (fun i _ => by rw [if_neg hb]; split <;> rfl)])
  rw [e2]
  unfold q_hs
  rw [q_sum_part (f := fun i => if (q_wks W x).testBit i = true then r i else 0) (kd := fun i => q_n W (142 + 3 * i)) hk]
  refine q_sum_cong (fun k _ => q_sum_cong (fun i hi => ?_))
  by_cases ek : q_n W (142 + 3 * i) = k
  · rw [if_pos ek, if_pos ek]
    by_cases hb : x.testBit k = true
    · rw [if_pos hb, if_pos (q_wks_tb.mpr ⟨hi, by rw [ek]; exact hb⟩)]
    · rw [if_neg hb, if_neg (fun hh => hb (by have := (q_wks_tb.mp hh).2; rw [ek] at this; exact this))]
  · rw [if_neg ek, if_neg ek]
def q_al (W : Nat → Int32) (r : Nat → Nat) : Nat → Nat
  | 0 => q_mx (q_cT (q_pre W) r (q_n W 98)) (q_n W 98)
  | x + 1 => if 0 < q_cpl W (x + 1) then (if q_al W r x < (q_hs (q_wks W) (q_n W 98) (x + 1) r + q_cpl W (x + 1) - 1) / q_cpl W (x + 1) then (q_hs (q_wks W) (q_n W 98) (x + 1) r + q_cpl W (x + 1) - 1) / q_cpl W (x + 1) else q_al W r x) else q_al W r x
/-- no fewer hours than the class's bound -/
theorem q_al_fin {W : Nat → Int32} {r : Nat → Nat} {k : Nat} (hN : q_n W 98 ≤ 8) (hpre : ∀ i j, i < q_n W 98 → (q_pre W i).testBit j = true → j < i) (hc : q_clo (q_pre W) (q_n W 98) r) (h : q_fin (q_wks W) (q_cpl W) (q_pre W) (q_n W 98) k r) : ∀ x, x < 16 → q_al W r x ≤ k := by
  intro x
  induction x with
  | zero => intro _; exact q_fin_chain hN hpre hc h
  | succ x ih =>
    intro hx
    rw [q_al]
    have h1 := ih (by omega)
    split
    · rename_i hpos
      have h2 := q_ceil hpos (q_fin_hours hN hx h)
      split
      · exact h2
      · exact h1
    · exact h1
theorem q_hs_le {W : Nat → Int32} {r : Nat → Nat} {x : Nat} (hN : q_n W 98 ≤ 8) (h : ∀ i, i < q_n W 98 → r i < 4) : q_hs (q_wks W) (q_n W 98) x r ≤ 24 := by
  have h1 := q_sum_bd (f := fun i => if (q_wks W x).testBit i = true then r i else 0) (c := 3) (n := q_n W 98) (fun i hi => by
    have := h i hi
    split
    · omega
    · exact Nat.zero_le _)
  unfold q_hs; omega
theorem q_al_le {W : Nat → Int32} {r : Nat → Nat} (hN : q_n W 98 ≤ 8) (h : ∀ i, i < q_n W 98 → r i < 4) : ∀ x, q_al W r x ≤ 1000
  | 0 => q_mx_le (fun i hi => by have := q_cT_le (pre := q_pre W) h (i + 1) i (Nat.lt_succ_self i) hi; omega)
  | x + 1 => by
    rw [q_al]
    have h1 := q_al_le hN h x
    have h2 : (q_hs (q_wks W) (q_n W 98) (x + 1) r + q_cpl W (x + 1) - 1) / q_cpl W (x + 1) ≤ q_hs (q_wks W) (q_n W 98) (x + 1) r + q_cpl W (x + 1) - 1 := Nat.div_le_self _ _
    have h3 := q_hs_le (x := x + 1) hN h
    have h4 := q_cpl_le (W := W) (x := x + 1)
    split
    · split <;> omega
    · exact h1
end
