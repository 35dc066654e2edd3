section
-- needs: game
/-! no fewer hours than these -/
def q_mx (f : Nat → Nat) : Nat → Nat
  | 0 => 0
  | n + 1 => if q_mx f n < f n then f n else q_mx f n
theorem q_mx_ge {f : Nat → Nat} : ∀ {n i : Nat}, i < n → f i ≤ q_mx f n
  | 0, _, h => absurd h (Nat.not_lt_zero _)
  | n + 1, i, h => by
    rw [q_mx]
    by_cases e : i = n
    · subst e; split <;> omega
    · have := q_mx_ge (f := f) (n := n) (i := i) (by omega)
      split <;> omega
theorem q_mx_le {f : Nat → Nat} {b : Nat} : ∀ {n : Nat}, (∀ i, i < n → f i ≤ b) → q_mx f n ≤ b
  | 0, _ => Nat.zero_le _
  | n + 1, h => by
    rw [q_mx]
    have h1 := q_mx_le (f := f) (b := b) (n := n) (fun i hi => h i (by omega))
    have h2 := h n (Nat.lt_succ_self n)
    split <;> omega
/-- the longest way that ends with each -/
def q_cT (pre r : Nat → Nat) : Nat → Nat → Nat
  | 0 => fun _ => 0
  | n + 1 => q_up (q_cT pre r n) n (r n + q_mx (fun j => if (pre n).testBit j = true then q_cT pre r n j else 0) n)
theorem q_cT_hi {pre r : Nat → Nat} {i : Nat} : ∀ {n m : Nat}, i < n → q_cT pre r (n + m) i = q_cT pre r n i
  | _, 0, _ => rfl
  | n, m + 1, h => by
    rw [show n + (m + 1) = (n + m) + 1 by omega, q_cT, q_up_n (by omega), q_cT_hi h]
theorem q_cT_eq {pre r : Nat → Nat} {i N : Nat} (h : i < N) : q_cT pre r N i = r i + q_mx (fun j => if (pre i).testBit j = true then q_cT pre r N j else 0) i := by
  obtain ⟨m, rfl⟩ : ∃ m, N = (i + 1) + m := ⟨N - (i + 1), by omega⟩
  rw [q_cT_hi (Nat.lt_succ_self i), q_cT, q_up_s]
  congr 1
  have : ∀ n, n ≤ i → q_mx (fun j => if (pre i).testBit j = true then q_cT pre r i j else 0) n = q_mx (fun j => if (pre i).testBit j = true then q_cT pre r ((i + 1) + m) j else 0) n := by
    intro n
    induction n with
    | zero => intro _; rfl
    | succ n ih =>
      intro hn
      rw [q_mx, q_mx, ih (by omega), show (i + 1) + m = i + (1 + m) by omega, q_cT_hi (n := i) (m := 1 + m) (show n < i by omega)]
  exact this i (Nat.le_refl _)
/-- what is done has all before it done -/
def q_clo (pre : Nat → Nat) (N : Nat) (r : Nat → Nat) : Prop := ∀ j, j < N → r j = 0 → ∀ l, (pre j).testBit l = true → r l = 0
theorem q_clo.stp {pre : Nat → Nat} {N S : Nat} {r : Nat → Nat} (h : q_clo pre N r) (hpre : ∀ i j, i < N → (pre i).testBit j = true → j < i) (hN : N ≤ 8) (hS : q_le S (q_opn pre N r)) : q_clo pre N (q_stp r S) := by
  intro j hj h0 l hl
  have hl2 := hpre j l hj hl
  unfold q_stp at h0 ⊢
  have hz : r l = 0 := by
    cases hb : S.testBit j with
    | true => exact (q_opn_tb.mp (hS j hb)).2.2 l (by omega) hl
    | false =>
      rw [hb] at h0
      have : false.toNat = 0 := rfl
      exact h j hj (by omega) l hl
  rw [hz]; exact Nat.zero_sub _
theorem q_cT_0 {pre : Nat → Nat} {N : Nat} {r : Nat → Nat} (h : q_clo pre N r) : ∀ n i, i < n → i < N → r i = 0 → q_cT pre r N i = 0 := by
  intro n
  induction n with
  | zero => intro i hi; exact absurd hi (Nat.not_lt_zero i)
  | succ n ih =>
    intro i hi hN h0
    rw [q_cT_eq hN, h0, Nat.zero_add]
    have : q_mx (fun j => if (pre i).testBit j = true then q_cT pre r N j else 0) i ≤ 0 := q_mx_le (fun j hj => by
      split
      · rename_i hb
        rw [ih j (by omega) (by omega) (h i hN h0 j hb)]; exact Nat.le_refl _
      · exact Nat.le_refl _)
    omega
theorem q_cT_stp {pre : Nat → Nat} {N S : Nat} {r : Nat → Nat} (hN : N ≤ 8) (h : q_clo pre N r) (hS : q_le S (q_opn pre N r)) : ∀ n i, i < n → i < N → q_cT pre r N i ≤ q_cT pre (q_stp r S) N i + 1 := by
  intro n
  induction n with
  | zero => intro i hi; exact absurd hi (Nat.not_lt_zero i)
  | succ n ih =>
    intro i hi hiN
    rw [q_cT_eq hiN, q_cT_eq (r := q_stp r S) hiN]
    have hr : q_stp r S i = r i - (S.testBit i).toNat := rfl
    cases hb : S.testBit i with
    | true =>
      have ho := (q_opn_tb.mp (hS i hb)).2.2
      have hz : q_mx (fun j => if (pre i).testBit j = true then q_cT pre r N j else 0) i ≤ 0 := q_mx_le (fun j hj => by
        split
        · rename_i hp
          rw [q_cT_0 h (j + 1) j (Nat.lt_succ_self j) (by omega) (ho j (by omega) hp)]; exact Nat.le_refl _
        · exact Nat.le_refl _)
      rw [hb] at hr
      have : true.toNat = 1 := rfl
      omega
    | false =>
      rw [hb] at hr
      have : false.toNat = 0 := rfl
      have hm : q_mx (fun j => if (pre i).testBit j = true then q_cT pre r N j else 0) i ≤ q_mx (fun j => if (pre i).testBit j = true then q_cT pre (q_stp r S) N j else 0) i + 1 := q_mx_le (fun j hj => by
        have g := q_mx_ge (f := fun j => if (pre i).testBit j = true then q_cT pre (q_stp r S) N j else 0) hj
        by_cases hp : (pre i).testBit j = true
        · rw [if_pos hp] at g ⊢
          have := ih j (by omega) (by omega)
          omega
        · rw [if_neg hp]; exact Nat.zero_le _)
      omega
theorem q_fin_chain {wk c pre : Nat → Nat} {N : Nat} (hN : N ≤ 8) (hpre : ∀ i j, i < N → (pre i).testBit j = true → j < i) : ∀ {k : Nat} {r : Nat → Nat}, q_clo pre N r → q_fin wk c pre N k r → q_mx (q_cT pre r N) N ≤ k
  | 0, r, hc, h => q_mx_le (fun i hi => by rw [q_cT_0 hc (i + 1) i (Nat.lt_succ_self i) hi (h i hi)]; exact Nat.le_refl _)
  | k + 1, r, hc, h => by
    rcases h with h | ⟨S, h1, h2, h3⟩
    · exact q_mx_le (fun i hi => by rw [q_cT_0 hc (i + 1) i (Nat.lt_succ_self i) hi (h i hi)]; exact Nat.zero_le _)
    · have h4 := q_fin_chain hN hpre (hc.stp hpre hN h1) h3
      refine q_mx_le (fun i hi => ?_)
      have g1 := q_cT_stp hN hc h1 (i + 1) i (Nat.lt_succ_self i) hi
      have g2 := q_mx_ge (f := q_cT pre (q_stp r S) N) hi
      omega
/-- the hours that works of some kinds still need -/
def q_hs (wk : Nat → Nat) (N x : Nat) (r : Nat → Nat) : Nat := q_sum (fun i => if (wk x).testBit i = true then r i else 0) N
theorem q_fin_hours {wk c pre : Nat → Nat} {N x : Nat} (hN : N ≤ 8) (hx : x < 16) : ∀ {k : Nat} {r : Nat → Nat}, q_fin wk c pre N k r → q_hs wk N x r ≤ k * c x
  | 0, r, h => by
    unfold q_hs
    rw [q_sum_z (fun i hi => by rw [h i hi]; split <;> rfl)]
    exact Nat.zero_le _
  | k + 1, r, h => by
    rcases h with h | ⟨S, h1, h2, h3⟩
    · unfold q_hs
      rw [q_sum_z (fun i hi => by rw [h i hi]; split <;> rfl)]
      exact Nat.zero_le _
    · have h4 := q_fin_hours hN hx h3
      have h5 := h2 x hx
      have e : q_hs wk N x r = q_hs wk N x (q_stp r S) + q_sum (fun i => ((S &&& wk x).testBit i).toNat) N := by
        unfold q_hs
        rw [← q_sum_add]
        refine q_sum_cong (fun i hi => ?_)
        rw [Nat.testBit_and]
        unfold q_stp
        cases hw : (wk x).testBit i with
        | false => rw [if_neg (by decide), if_neg (by decide), Bool.and_false]; rfl
        | true =>
          rw [if_pos rfl, if_pos rfl, Bool.and_true]
          cases hb : S.testBit i with
          | false => rfl
          | true =>
            have := (q_opn_tb.mp (h1 i hb)).2.1
            have : true.toNat = 1 := rfl
            omega
      have e2 : q_sum (fun i => ((S &&& wk x).testBit i).toNat) N ≤ q_bc (S &&& wk x) := by
        rw [← cnt_sum]
        have : ∀ m, cnt (fun i => (S &&& wk x).testBit i) N ≤ cnt (fun i => (S &&& wk x).testBit i) (N + m) := by
          intro m
          induction m with
          | zero => exact Nat.le_refl _
          | succ m ih => exact Nat.le_trans ih (Nat.le_add_right _ _)
        have h8 := this (8 - N)
        rw [show N + (8 - N) = 8 by omega] at h8
        exact h8
      rw [Nat.succ_mul, e]
      omega
theorem q_ceil {h k c : Nat} (hc : 0 < c) (hle : h ≤ k * c) : (h + c - 1) / c ≤ k := by
  have : h + c - 1 < (k + 1) * c := by rw [Nat.succ_mul]; omega
  have := (Nat.div_lt_iff_lt_mul hc).mpr this
  omega
end
