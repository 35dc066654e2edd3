section
-- needs: link
/-! what is left, two bits a work -/
def q_en (r : Nat → Nat) : Nat → Nat
  | 0 => 0
  | n + 1 => q_en r n + r n * 4 ^ n
theorem q_en_lt {r : Nat → Nat} : ∀ {n}, (∀ i, i < n → r i < 4) → q_en r n < 4 ^ n
  | 0, _ => by rw [q_en]; decide
  | n + 1, h => by
    rw [q_en, Nat.pow_succ]
    have h1 := q_en_lt (r := r) (n := n) (fun i hi => h i (by omega))
    have h2 : r n * 4 ^ n ≤ 3 * 4 ^ n := Nat.mul_le_mul_right _ (by have := h n (Nat.lt_succ_self n); omega)
    omega
theorem q_en_dig {r : Nat → Nat} : ∀ {n}, (∀ i, i < n → r i < 4) → ∀ i, i < n → q_en r n / 4 ^ i % 4 = r i
  | 0, _, i, hi => absurd hi (Nat.not_lt_zero i)
  | n + 1, h, i, hi => by
    rw [q_en]
    by_cases e : i = n
    · subst e
      have h1 := q_en_lt (r := r) (n := i) (fun j hj => h j (by omega))
      rw [Nat.add_mul_div_right _ _ (Nat.pow_pos (by decide)), Nat.div_eq_of_lt h1, Nat.zero_add]
      exact Nat.mod_eq_of_lt (h i hi)
    · have h1 := q_en_dig (r := r) (n := n) (fun j hj => h j (by omega)) i (by omega)
      obtain ⟨k, rfl⟩ : ∃ k, n = i + 1 + k := ⟨n - i - 1, by omega⟩
      have e5 : 4 ^ (i + 1 + k) = 4 ^ k * 4 * 4 ^ i := by rw [show i + 1 + k = k + 1 + i by omega, Nat.pow_add, Nat.pow_add, Nat.pow_one]
      have e4 : r (i + 1 + k) * 4 ^ (i + 1 + k) = (r (i + 1 + k) * 4 ^ k * 4) * 4 ^ i := by
        rw [e5]
        simp only [Nat.mul_assoc]
      rw [e4, Nat.add_mul_div_right _ _ (Nat.pow_pos (by decide)), Nat.add_mul_mod_self_right]
      exact h1
theorem q_en_get {r : Nat → Nat} {n i : Nat} (h : ∀ i, i < n → r i < 4) (hi : i < n) : (q_en r n >>> (2 * i)) &&& 3 = r i := by
  rw [Nat.shiftRight_eq_div_pow, show 3 = 2 ^ 2 - 1 from rfl, Nat.and_two_pow_sub_one_eq_mod, Nat.pow_mul]
  exact q_en_dig h i hi
theorem q_en_z {r : Nat → Nat} : ∀ {n}, q_en r n = 0 ↔ ∀ i, i < n → r i = 0
  | 0 => ⟨fun _ i hi => absurd hi (Nat.not_lt_zero i), fun _ => rfl⟩
  | n + 1 => by
    rw [q_en]
    have ih := q_en_z (r := r) (n := n)
    have pos : 0 < 4 ^ n := Nat.pow_pos (by decide)
    constructor
    · intro h i hi
      have h2 : r n * 4 ^ n = 0 := by omega
      have h3 : r n = 0 := by
        rcases Nat.mul_eq_zero.mp h2 with h | h
        · exact h
        · omega
      rcases Nat.lt_or_ge i n with hl | hl
      · exact ih.mp (by omega) i hl
      · rw [show i = n by omega]; exact h3
    · intro h
      rw [ih.mpr (fun i hi => h i (by omega)), h n (Nat.lt_succ_self n), Nat.zero_mul]
/-- a set, two bits a work -/
def q_sp (S : Nat) : Nat → Nat := q_en (fun i => (S.testBit i).toNat)
theorem q_en_stp {r : Nat → Nat} {S : Nat} : ∀ {n}, (∀ i, i < n → S.testBit i = true → r i ≠ 0) → q_en (q_stp r S) n + q_sp S n = q_en r n
  | 0, _ => rfl
  | n + 1, h => by
    have ih := q_en_stp (r := r) (S := S) (n := n) (fun i hi => h i (by omega))
    show q_en (q_stp r S) n + q_stp r S n * 4 ^ n + (q_sp S n + (S.testBit n).toNat * 4 ^ n) = q_en r n + r n * 4 ^ n
    have e : q_stp r S n + (S.testBit n).toNat = r n := by
      unfold q_stp
      cases hb : S.testBit n with
      | false => rfl
      | true =>
        have := h n (Nat.lt_succ_self n) hb
        have : true.toNat = 1 := rfl
        omega
    have e2 : q_stp r S n * 4 ^ n + (S.testBit n).toNat * 4 ^ n = r n * 4 ^ n := by rw [← Nat.add_mul, e]
    omega
def q_spI (x0 : Int32) : Int32 := ((((((x0 ||| (x0 <<< ((Int32.ofNat 4) &&& 31))) &&& (Int32.ofNat 3855)) ||| (((x0 ||| (x0 <<< ((Int32.ofNat 4) &&& 31))) &&& (Int32.ofNat 3855)) <<< ((Int32.ofNat 2) &&& 31))) &&& (Int32.ofNat 13107)) ||| (((((x0 ||| (x0 <<< ((Int32.ofNat 4) &&& 31))) &&& (Int32.ofNat 3855)) ||| (((x0 ||| (x0 <<< ((Int32.ofNat 4) &&& 31))) &&& (Int32.ofNat 3855)) <<< ((Int32.ofNat 2) &&& 31))) &&& (Int32.ofNat 13107)) <<< ((Int32.ofNat 1) &&& 31))) &&& (Int32.ofNat 21845))
theorem q_spI_ok : ∀ S, S < 256 → q_spI (nI S) = nI (q_sp S 8) := by decide +kernel
variable {X : KXw} {n tot kn D : Nat} {kx : Nat → Nat × Nat} {M : MMw}
theorem c_spread (hD : 1 ≤ D) {S : Nat} (hS : S < 256) : callw X D 239 [.inl (nI S)] (Gk n tot kn kx) M = some (nI (q_sp S 8), Gk n tot kn kx, M) :=
  ex1 hD (fun cl => t_239_0_ok X cl n tot kn kx _ M) (fun cl => by
    unfold t_239_0
    exact congrArg (fun v => (some (.inl (v, Gk n tot kn kx, M)) : Option TRw)) (q_spI_ok S hS))
theorem q_sp_hi {S N : Nat} (hS : S < 2 ^ N) : ∀ c, q_sp S (N + c) = q_sp S N
  | 0 => rfl
  | c + 1 => by
    show q_sp S (N + c) + (S.testBit (N + c)).toNat * 4 ^ (N + c) = q_sp S N
    rw [Nat.testBit_lt_two_pow (Nat.lt_of_lt_of_le hS (Nat.pow_le_pow_right (by decide) (by omega))), q_sp_hi hS c, show false.toNat = 0 from rfl, Nat.zero_mul]
    rfl
def q_pre (W : Nat → Int32) (i : Nat) : Nat := q_n W (144 + 3 * i)
theorem c_openOf (hD : 1 ≤ D) {W : Nat → Int32} {r : Nat → Nat} (hr : ∀ i, i < q_n W 98 → r i < 4) (hc : CRhull M 17 W) (hy : q_invY W) : callw X D 236 [.inr (.inl 17), .inl (nI (q_en r (q_n W 98)))] (Gk n tot kn kx) M = some (nI (q_opn (q_pre W) (q_n W 98) r), Gk n tot kn kx, M) :=
  Sq.eq (Sq.mk (k := 0) hD (fun D' hD' => by
    obtain ⟨w1, w2⟩ := hy.1.2.2.1
    have e0 : M 17 0 = nI (q_n W 98) := by rw [hc.1]; exact w1
    have elt : q_en r (q_n W 98) < 2 ^ 16 := Nat.lt_of_lt_of_le (q_en_lt hr) (show 4 ^ q_n W 98 ≤ 4 ^ 8 from Nat.pow_le_pow_right (by decide) (by omega))
    have loop : ∀ (c i : Nat), i + c = q_n W 98 → Lq X (callw X D') 236 7 [some (.inr (.inl 17)), some (.inl (nI (q_en r (q_n W 98)))), some (.inl (nI (sto (fun i => decide (r i ≠ 0)) i))), some (.inl (nI (q_opn (q_pre W) i r))), some (.inl (nI i))] (Gk n tot kn kx) M (fun y M' => y = nI (q_opn (q_pre W) (q_n W 98) r) ∧ M' = M) := by
      intro c
      induction c with
      | zero =>
        intro i hi
        refine Lq.of (t_236_p17_7_ok X (callw X D') n tot kn kx _ _ _ _ M) ?_
        unfold t_236_p17_7
        rw [e0, if_neg (by rw [lt_i (by omega) (by omega)]; omega), Wq_ret, show i = q_n W 98 by omega]
        exact ⟨rfl, rfl⟩
      | succ c ih =>
        intro i hi
        refine Lq.of (t_236_p17_7_ok X (callw X D') n tot kn kx _ _ _ _ M) ?_
        unfold t_236_p17_7
        have hiN : i < q_n W 98 := by omega
        obtain ⟨_, _, _, k3, k4⟩ := hy.2.2.2.2.2.1 i hiN
        have e20 : M 20 i = nI (q_pre W i) := by rw [hc.2.2.2.2.1 i hiN]; exact k3
        have hri := hr i hiN
        have hpl : q_pre W i < 2 ^ i := k4
        have p8 : 2 ^ i ≤ 2 ^ 8 := Nat.pow_le_pow_right (by decide) (by omega)
        have hn := ih (i + 1) (by omega)
        have hle : q_pre W i &&& sto (fun i => decide (r i ≠ 0)) i ≤ q_pre W i := Nat.and_le_left
        have eop : q_opn (q_pre W) (i + 1) r = q_opn (q_pre W) i r ||| (if (decide (r i ≠ 0) && !q_any (fun j => (q_pre W i).testBit j && decide (r j ≠ 0)) 8) = true then 2 ^ i else 0) := rfl
        simp only [o_nI, z_nI]
        rw [e0, if_pos (by rw [lt_i (by omega) (by omega)]; omega), if_pos (by rw [lt_i (by omega) (by omega)]; omega), nI_mul, nI_shr (by omega) (by omega), nI_and, q_en_get hr hiN]
        by_cases h0 : r i = 0
        · have d0 : decide (r i ≠ 0) = false := decide_eq_false (fun hh => hh h0)
          rw [sto_sf (p := fun i => decide (r i ≠ 0)) d0, eop, d0, if_neg (by rw [Bool.false_and]; decide), Nat.or_zero] at hn
          rw [if_pos (by rw [h0]), Wq_jmp, i1_nI, nI_add]
          exact hn
        · have d1 : decide (r i ≠ 0) = true := decide_eq_true h0
          rw [sto_st (p := fun i => decide (r i ≠ 0)) d1, eop, d1, Bool.true_and] at hn
          rw [if_neg (by rw [eq_i (by omega) (by omega)]; exact h0), inb_nI (show i < 8 by omega) (by decide), if_pos rfl, nI_clamp (by omega), e20, nI_and, nI_shl (by omega), Nat.one_mul, nI_or, nI_or]
          have key : (q_pre W i &&& sto (fun i => decide (r i ≠ 0)) i = 0) ↔ q_any (fun j => (q_pre W i).testBit j && decide (r j ≠ 0)) 8 = false := by
            constructor
            · intro h
              cases e : q_any (fun j => (q_pre W i).testBit j && decide (r j ≠ 0)) 8 with
              | false => rfl
              | true =>
                obtain ⟨j, j8, hj⟩ := q_any_iff.mp e
                rw [Bool.and_eq_true] at hj
                have hji : j < i := by
                  rcases Nat.lt_or_ge j i with hl | hl
                  · exact hl
                  · rw [Nat.testBit_lt_two_pow (Nat.lt_of_lt_of_le hpl (Nat.pow_le_pow_right (by decide) hl))] at hj; cases hj.1
                have h2 := congrArg (fun x => x.testBit j) h
                simp only [Nat.testBit_and, sto_tb, Nat.zero_testBit, hj.1, Bool.true_and] at h2
                rw [decide_eq_true hji, Bool.true_and, hj.2] at h2; cases h2
            · intro h
              apply Nat.eq_of_testBit_eq
              intro j
              rw [Nat.testBit_and, sto_tb, Nat.zero_testBit]
              cases hb : (q_pre W i).testBit j with
              | false => rfl
              | true =>
                rw [Bool.true_and]
                by_cases hji : j < i
                · rw [decide_eq_true hji, Bool.true_and]
                  cases hd : decide (r j ≠ 0) with
                  | false => rfl
                  | true =>
                    have : q_any (fun j => (q_pre W i).testBit j && decide (r j ≠ 0)) 8 = true := q_any_iff.mpr ⟨j, by omega, by rw [hb, hd]; rfl⟩
                    rw [h] at this; cases this
                · rw [decide_eq_false hji]; rfl
          by_cases hz : q_pre W i &&& sto (fun i => decide (r i ≠ 0)) i = 0
          · rw [key.mp hz, if_pos (by rfl)] at hn
            rw [if_pos (by rw [hz]), Wq_jmp, i1_nI, nI_add]
            exact hn
          · have hq : q_any (fun j => (q_pre W i).testBit j && decide (r j ≠ 0)) 8 = true := by
              cases e : q_any (fun j => (q_pre W i).testBit j && decide (r j ≠ 0)) 8 with
              | true => rfl
              | false => exact absurd (key.mpr e) hz
            rw [hq, if_neg (by decide), Nat.or_zero] at hn
            rw [if_neg (by rw [eq_i (by omega) (by omega)]; exact hz), Wq_jmp, i1_nI, nI_add]
            exact hn
    refine Lq.of (t_236_p17_0_ok X (callw X D') n tot kn kx _ M) ?_
    unfold t_236_p17_0
    simp only [o_nI]
    rw [Wq_jmp]
    exact loop (q_n W 98) 0 (by omega)))
end
