section
-- needs: mtog
/-! the next smaller set; the least number of hours -/
theorem q_sub4 : ∀ O, O < 16 → ∀ x, x < 16 → x &&& O = x → ∀ y, y < x → y &&& O = y → y ≤ (x - 1) &&& O := by decide +kernel
theorem q_and15 : ∀ d, d < 16 → 15 &&& d = d := by decide +kernel
theorem q_le_and {a b : Nat} (h : q_le a b) : a &&& b = a := Nat.eq_of_testBit_eq (fun j => by
  rw [Nat.testBit_and]
  cases hj : a.testBit j with
  | false => rfl
  | true => rw [h j hj]; rfl)
theorem q_and_d (a b : Nat) : (a &&& b) / 16 = (a / 16) &&& (b / 16) := by
  have h := @Nat.shiftRight_and_distrib 4 a b
  simp only [Nat.shiftRight_eq_div_pow] at h
  exact h
theorem q_and_m (a b : Nat) : (a &&& b) % 16 = (a % 16) &&& (b % 16) := by
  rw [show 16 = 2 ^ 4 from rfl, ← Nat.and_two_pow_sub_one_eq_mod, ← Nat.and_two_pow_sub_one_eq_mod, ← Nat.and_two_pow_sub_one_eq_mod]
  apply Nat.eq_of_testBit_eq
  intro j
  simp only [Nat.testBit_and]
  cases a.testBit j <;> cases b.testBit j <;> cases (2 ^ 4 - 1).testBit j <;> rfl
theorem q_sub_next {x O y : Nat} (hO : O < 256) (hx : q_le x O) (hy : q_le y O) (h : y < x) : y ≤ (x - 1) &&& O := by
  have ex := q_le_and hx
  have ey := q_le_and hy
  have x8 := q_le_lt hx hO
  have xd : (x / 16) &&& (O / 16) = x / 16 := by rw [← q_and_d, ex]
  have xm : (x % 16) &&& (O % 16) = x % 16 := by rw [← q_and_m, ex]
  have yd : (y / 16) &&& (O / 16) = y / 16 := by rw [← q_and_d, ey]
  have ym : (y % 16) &&& (O % 16) = y % 16 := by rw [← q_and_m, ey]
  have zd := q_and_d (x - 1) O
  have zm := q_and_m (x - 1) O
  have O1 : O / 16 < 16 := by omega
  have O2 : O % 16 < 16 := by omega
  have hle : y % 16 ≤ O % 16 := by
    have : (y % 16) &&& (O % 16) ≤ O % 16 := Nat.and_le_right
    omega
  generalize (x - 1) &&& O = z at *
  by_cases h0 : x % 16 = 0
  · rw [show (x - 1) / 16 = x / 16 - 1 by omega] at zd
    rw [show (x - 1) % 16 = 15 by omega, q_and15 _ O2] at zm
    have h1 := q_sub4 (O / 16) O1 (x / 16) (by omega) xd (y / 16) (by omega) yd
    omega
  · rw [show (x - 1) / 16 = x / 16 by omega, xd] at zd
    rw [show (x - 1) % 16 = x % 16 - 1 by omega] at zm
    by_cases h1 : y / 16 < x / 16
    · omega
    · have h2 := q_sub4 (O % 16) O2 (x % 16) (by omega) xm (y % 16) (by omega) ym
      omega
/-- the least number of hours -/
def q_ds (wk c pre : Nat → Nat) (N : Nat) (r : Nat → Nat) (d : Nat) : Prop := q_fin wk c pre N d r ∧ ∀ k, k < d → ¬ q_fin wk c pre N k r
theorem q_fin_le {wk c pre : Nat → Nat} {N : Nat} {r : Nat → Nat} {j : Nat} : ∀ {k : Nat}, j ≤ k → q_fin wk c pre N j r → q_fin wk c pre N k r
  | 0, hk, h => by rw [show j = 0 by omega] at h; exact h
  | k + 1, hk, h => by
    by_cases e : j = k + 1
    · rw [e] at h; exact h
    · exact q_fin_s (q_fin_le (by omega) h)
theorem q_ds.uq {wk c pre : Nat → Nat} {N d e : Nat} {r : Nat → Nat} (h : q_ds wk c pre N r d) (g : q_ds wk c pre N r e) : d = e := by
  rcases Nat.lt_trichotomy d e with hl | hl | hl
  · exact absurd h.1 (g.2 d hl)
  · exact hl
  · exact absurd g.1 (h.2 e hl)
theorem q_ds.le {wk c pre : Nat → Nat} {N d k : Nat} {r : Nat → Nat} (h : q_ds wk c pre N r d) (g : q_fin wk c pre N k r) : d ≤ k := by
  rcases Nat.lt_or_ge k d with hl | hl
  · exact absurd g (h.2 k hl)
  · exact hl
theorem q_ds_ex {wk c pre : Nat → Nat} {N : Nat} {r : Nat → Nat} : ∀ {k : Nat}, q_fin wk c pre N k r → ∃ d, d ≤ k ∧ q_ds wk c pre N r d
  | 0, h => ⟨0, Nat.le_refl _, h, fun k hk => absurd hk (Nat.not_lt_zero k)⟩
  | k + 1, h => by
    by_cases g : q_fin wk c pre N k r
    · obtain ⟨d, h1, h2⟩ := q_ds_ex g
      exact ⟨d, by omega, h2⟩
    · exact ⟨k + 1, Nat.le_refl _, h, fun j hj hh => g (q_fin_le (by omega) hh)⟩
theorem q_ds_0 {wk c pre : Nat → Nat} {N : Nat} {r : Nat → Nat} (h : ∀ i, i < N → r i = 0) : q_ds wk c pre N r 0 := ⟨h, fun k hk => absurd hk (Nat.not_lt_zero k)⟩
theorem q_ds.z {wk c pre : Nat → Nat} {N : Nat} {r : Nat → Nat} (h : q_ds wk c pre N r 0) : ∀ i, i < N → r i = 0 := h.1
theorem q_opn_cg {pre r r' : Nat → Nat} {N : Nat} (hN : N ≤ 8) (hpre : ∀ i j, i < N → (pre i).testBit j = true → j < i) (h : ∀ i, i < N → r i = r' i) : q_opn pre N r = q_opn pre N r' := by
  apply Nat.eq_of_testBit_eq
  intro i
  rw [Bool.eq_iff_iff, q_opn_tb, q_opn_tb]
  constructor
  · rintro ⟨h1, h2, h3⟩
    exact ⟨h1, by rw [← h i h1]; exact h2, fun j j8 hj => by rw [← h j (by have := hpre i j h1 hj; omega)]; exact h3 j j8 hj⟩
  · rintro ⟨h1, h2, h3⟩
    exact ⟨h1, by rw [h i h1]; exact h2, fun j j8 hj => by rw [h j (by have := hpre i j h1 hj; omega)]; exact h3 j j8 hj⟩
theorem q_fin_cg {wk c pre : Nat → Nat} {N : Nat} (hN : N ≤ 8) (hpre : ∀ i j, i < N → (pre i).testBit j = true → j < i) : ∀ {k : Nat} {r r' : Nat → Nat}, (∀ i, i < N → r i = r' i) → q_fin wk c pre N k r → q_fin wk c pre N k r'
  | 0, r, r', h, g => fun i hi => by rw [← h i hi]; exact g i hi
  | k + 1, r, r', h, g => by
    rcases g with g | ⟨S, h1, h2, h3⟩
    · exact Or.inl (fun i hi => by rw [← h i hi]; exact g i hi)
    · exact Or.inr ⟨S, by rw [← q_opn_cg hN hpre h]; exact h1, h2, q_fin_cg hN hpre (fun i hi => by unfold q_stp; rw [h i hi]) h3⟩
theorem q_ds.cg {wk c pre : Nat → Nat} {N d : Nat} (hN : N ≤ 8) (hpre : ∀ i j, i < N → (pre i).testBit j = true → j < i) {r r' : Nat → Nat} (h : ∀ i, i < N → r i = r' i) (g : q_ds wk c pre N r d) : q_ds wk c pre N r' d :=
  ⟨q_fin_cg hN hpre h g.1, fun k hk hh => g.2 k hk (q_fin_cg hN hpre (fun i hi => (h i hi).symm) hh)⟩
theorem q_fin_all2 {wk c pre : Nat → Nat} {N : Nat} (hN : N ≤ 8) (hpre : ∀ i j, i < N → (pre i).testBit j = true → j < i) : ∀ {k : Nat} {r : Nat → Nat}, (∀ i, i < N → r i ≠ 0 → q_okS wk c (2 ^ i)) → q_sum r N ≤ k → q_fin wk c pre N k r
  | 0, r, _, hs => fun i hi => by have := q_sum_ge (f := r) hi; omega
  | k + 1, r, hok, hs => by
    by_cases h0 : ∀ i, i < N → r i = 0
    · exact Or.inl h0
    · have hex : ∃ i, i < N ∧ r i ≠ 0 ∧ ∀ j, j < i → r j = 0 := by
        cases hf : q_find (fun i => decide (r i ≠ 0)) N with
        | none =>
          refine absurd (fun i hi => ?_) h0
          have := q_find_none.mp hf i hi
          exact Classical.byContradiction (fun hn => by rw [decide_eq_true hn] at this; cases this)
        | some i =>
          obtain ⟨a1, a2, a3⟩ := q_find_some hf
          exact ⟨i, a1, of_decide_eq_true a2, fun j hj => Classical.byContradiction (fun hn => by have := a3 j hj; rw [decide_eq_true hn] at this; cases this)⟩
      obtain ⟨i, hi, hr, hlow⟩ := hex
      have e1 : q_sum (q_stp r (2 ^ i)) N + 1 ≤ q_sum r N := q_sum_less hi (fun j _ => Nat.sub_le _ _) (by
        unfold q_stp
        rw [pow_tb, decide_eq_true rfl]
        have : true.toNat = 1 := rfl
        omega)
      refine Or.inr ⟨2 ^ i, fun j hj => ?_, hok i hi hr, q_fin_all2 hN hpre (fun j hj hne => hok j hj (fun e => hne ?_)) (by omega)⟩
      · rw [pow_tb, decide_eq_true_eq] at hj
        rw [hj]
        exact q_opn_tb.mpr ⟨hi, hr, fun l _ hb => hlow l (hpre i l hi hb)⟩
      · unfold q_stp; rw [e]; exact Nat.zero_sub _
theorem q_sum_stp {pre r : Nat → Nat} {N S : Nat} (h : q_le S (q_opn pre N r)) (h0 : S ≠ 0) : q_sum (q_stp r S) N + 1 ≤ q_sum r N := by
  obtain ⟨i, hi⟩ := Nat.exists_testBit_of_ne_zero h0
  obtain ⟨h1, h2, _⟩ := q_opn_tb.mp (h i hi)
  exact q_sum_less h1 (fun j _ => Nat.sub_le _ _) (by
    unfold q_stp
    rw [hi]
    have : true.toNat = 1 := rfl
    omega)
/-- a set that an hour may do in the best way -/
def q_cand (wk c pre : Nat → Nat) (N : Nat) (r : Nat → Nat) (S : Nat) : Prop := S ≠ 0 ∧ q_le S (q_opn pre N r) ∧ q_okS wk c S ∧ ∀ i, (q_opn pre N r).testBit i = true → S.testBit i = false → ¬ q_okS wk c (S ||| 2 ^ i)
theorem q_ds_full {wk c pre : Nat → Nat} {N d : Nat} {r : Nat → Nat} (hN : N ≤ 8) (h : q_ds wk c pre N r d) (h0 : ¬ ∀ i, i < N → r i = 0) : ∃ e S, d = e + 1 ∧ q_cand wk c pre N r S ∧ q_fin wk c pre N e (q_stp r S) := by
  cases d with
  | zero => exact absurd h.z h0
  | succ e =>
    obtain ⟨S, h1, h2, h3, h4⟩ := q_fin_full hN h.1 h0
    refine ⟨e, S, rfl, ⟨fun hS => ?_, h1, h2, h3⟩, h4⟩
    subst hS
    have e0 : q_stp r 0 = r := by
      funext i
      unfold q_stp
      rw [Nat.zero_testBit]
      rfl
    rw [e0] at h4
    exact h.2 e (Nat.lt_succ_self e) h4
theorem q_ds_sum {wk c pre : Nat → Nat} {N : Nat} (hN : N ≤ 8) : ∀ {d : Nat} {r : Nat → Nat}, q_ds wk c pre N r d → d ≤ q_sum r N
  | 0, r, _ => Nat.zero_le _
  | d + 1, r, h => by
    have h0 : ¬ ∀ i, i < N → r i = 0 := fun hz => h.2 0 (by omega) hz
    obtain ⟨e, S, h1, h2, h3⟩ := q_ds_full hN h h0
    have h4 : q_ds wk c pre N (q_stp r S) d := ⟨by rw [show d = e by omega]; exact h3, fun k hk hh => h.2 (k + 1) (by omega) (Or.inr ⟨S, h2.2.1, h2.2.2.1, hh⟩)⟩
    have h5 := q_ds_sum hN h4
    have h6 := q_sum_stp h2.2.1 h2.1
    omega
theorem q_sum_24 {r : Nat → Nat} {N : Nat} (hN : N ≤ 8) (h : ∀ i, i < N → r i < 4) : q_sum r N ≤ 24 := by
  have h1 := q_sum_le (f := r) (g := fun _ => 3) (n := N) (fun i hi => by have := h i hi; omega)
  have h2 : ∀ n, q_sum (fun _ => 3) n = 3 * n := fun n => by
    induction n with
    | zero => rfl
    | succ n ih =>
      show q_sum (fun _ => 3) n + 3 = 3 * (n + 1)
      omega
  rw [h2] at h1
  omega
theorem q_en_inj {r r' : Nat → Nat} {N : Nat} (h : ∀ i, i < N → r i < 4) (h' : ∀ i, i < N → r' i < 4) (e : q_en r N = q_en r' N) : ∀ i, i < N → r i = r' i := fun i hi => by
  rw [← q_en_dig h i hi, ← q_en_dig h' i hi, e]
/-- the first set that an hour may begin with, if r hours are left -/
def q_fsP (wk c pre : Nat → Nat) (N : Nat) (r : Nat → Nat) (d S : Nat) : Prop := S ≠ 0 ∧ q_le S (q_opn pre N r) ∧ q_okS wk c S ∧ q_fin wk c pre N d (q_stp r S)
theorem q_fs_ex {wk c pre : Nat → Nat} {N d : Nat} {r : Nat → Nat} (hN : N ≤ 8) (h : q_ds wk c pre N r (d + 1)) : ∃ S, q_fsP wk c pre N r d S := by
  obtain ⟨e, S, h1, h2, h3⟩ := q_ds_full hN h (fun hz => h.2 0 (by omega) hz)
  exact ⟨S, h2.1, h2.2.1, h2.2.2.1, by rw [show d = e by omega]; exact h3⟩
/-- in such a set the rest takes just d hours -/
theorem q_fs_ds {wk c pre : Nat → Nat} {N d S : Nat} {r : Nat → Nat} (h : q_ds wk c pre N r (d + 1)) (hS : S ≠ 0) (hO : q_le S (q_opn pre N r)) (hk : q_okS wk c S) : q_fin wk c pre N d (q_stp r S) ↔ q_ds wk c pre N (q_stp r S) d :=
  ⟨fun g => ⟨g, fun k hk2 hh => h.2 (k + 1) (by omega) (Or.inr ⟨S, hO, hk, hh⟩)⟩, fun g => g.1⟩
end
