section
-- needs: rank
/-! the game of hours: which sets go at once, how soon all can be done -/
def q_okS (wk c : Nat → Nat) (S : Nat) : Prop := ∀ x, x < 16 → q_bc (S &&& wk x) ≤ c x
def q_cp (O w : Nat) : Nat := O &&& (w ^^^ 4294967295)
theorem q_cp_tb {O w j : Nat} (hO : O < 256) : (q_cp O w).testBit j = (O.testBit j && !w.testBit j) := by
  unfold q_cp
  rw [Nat.testBit_and, Nat.testBit_xor, show 4294967295 = 2 ^ 32 - 1 from rfl, Nat.testBit_two_pow_sub_one]
  cases hj : O.testBit j with
  | false => rfl
  | true => rw [decide_eq_true (show j < 32 by have := q_bit8 hO hj; omega), Bool.xor_true]
theorem q_bc_split {S w : Nat} (hS : S < 256) : q_bc S = q_bc (S &&& w) + q_bc (q_cp S w) := by
  rw [← q_bc_oa]
  have z : (S &&& w) &&& q_cp S w = 0 := by
    apply Nat.eq_of_testBit_eq
    intro j
    rw [Nat.testBit_and, Nat.testBit_and, q_cp_tb hS, Nat.zero_testBit]
    cases S.testBit j <;> cases w.testBit j <;> rfl
  have o : (S &&& w) ||| q_cp S w = S := by
    apply Nat.eq_of_testBit_eq
    intro j
    rw [Nat.testBit_or, Nat.testBit_and, q_cp_tb hS]
    cases S.testBit j <;> cases w.testBit j <;> rfl
  rw [z, o, show q_bc 0 = 0 by decide +kernel]
  rfl
theorem q_max_le {wk c : Nat → Nat} {S O x : Nat} (hO : O < 256) (hS : q_le S O) (h : q_okS wk c S) (hx : x < 16) : q_bc S ≤ c x + q_bc (q_cp O (wk x)) := by
  have hS2 := q_le_lt hS hO
  rw [q_bc_split (w := wk x) hS2]
  refine Nat.add_le_add (h x hx) (q_bc_mono (fun j hj => ?_))
  rw [q_cp_tb hS2, Bool.and_eq_true] at hj
  rw [q_cp_tb hO, hS j hj.1, hj.2]; rfl
theorem q_bc_one : ∀ S, S < 256 → ∀ i, i < 8 → q_bc (S ||| 2 ^ i) ≤ q_bc S + 1 := by decide +kernel
theorem q_max_eq {wk c : Nat → Nat} (w0 : wk 0 = 0) (c0 : c 0 = 0) (wor : ∀ x y, x < 16 → y < 16 → wk (x ||| y) = wk x ||| wk y) (wand : ∀ x y, x < 16 → y < 16 → wk (x &&& y) = wk x &&& wk y) (csub : ∀ x y, x < 16 → y < 16 → c (x ||| y) + c (x &&& y) ≤ c x + c y)
    {S O : Nat} (hO : O < 256) (hS : q_le S O) (h : q_okS wk c S) (hmax : ∀ i, O.testBit i = true → S.testBit i = false → ¬ q_okS wk c (S ||| 2 ^ i)) : ∃ x, x < 16 ∧ c x + q_bc (q_cp O (wk x)) ≤ q_bc S := by
  have hS2 := q_le_lt hS hO
  have all : ∀ n, n ≤ 8 → ∃ x, x < 16 ∧ q_bc (S &&& wk x) = c x ∧ ∀ i, i < n → O.testBit i = true → S.testBit i = false → (wk x).testBit i = true := by
    intro n
    induction n with
    | zero => intro _; exact ⟨0, by decide, by rw [w0, c0, Nat.and_zero]; decide +kernel, fun i hi => absurd hi (Nat.not_lt_zero i)⟩
    | succ n ih =>
      intro hn
      obtain ⟨x, x1, x2, x3⟩ := ih (by omega)
      by_cases hi : O.testBit n = true ∧ S.testBit n = false
      · obtain ⟨hi1, hi2⟩ := hi
        have hbad : ∃ y, y < 16 ∧ c y < q_bc ((S ||| 2 ^ n) &&& wk y) := by
          refine Classical.byContradiction (fun hh => hmax n hi1 hi2 (fun y hy => ?_))
          refine Classical.byContradiction (fun hlt => hh ⟨y, hy, by omega⟩)
        obtain ⟨y, y1, y2⟩ := hbad
        have hyn : (wk y).testBit n = true := by
          cases e : (wk y).testBit n with
          | true => rfl
          | false =>
            have e2 : (S ||| 2 ^ n) &&& wk y = S &&& wk y := by
              apply Nat.eq_of_testBit_eq
              intro j
              rw [Nat.testBit_and, Nat.testBit_and, Nat.testBit_or, pow_tb]
              by_cases ej : j = n
              · subst ej; rw [e, Bool.and_false, Bool.and_false]
              · rw [decide_eq_false ej, Bool.or_false]
            rw [e2] at y2
            have := h y y1
            omega
        have yt : q_bc (S &&& wk y) = c y := by
          have e2 : (S ||| 2 ^ n) &&& wk y = (S &&& wk y) ||| 2 ^ n := by
            apply Nat.eq_of_testBit_eq
            intro j
            rw [Nat.testBit_and, Nat.testBit_or, Nat.testBit_or, Nat.testBit_and, pow_tb]
            by_cases ej : j = n
            · subst ej; rw [hyn, decide_eq_true rfl, Bool.or_true, Bool.or_true]; rfl
            · rw [decide_eq_false ej, Bool.or_false, Bool.or_false]
          rw [e2] at y2
          have k1 := q_bc_one (S &&& wk y) (q_le_lt q_le_and1 hS2) n (by omega)
          have k2 := h y y1
          omega
        have o16 : x ||| y < 2 ^ 4 := Nat.or_lt_two_pow x1 y1
        have a16 : x &&& y < 16 := Nat.lt_of_le_of_lt Nat.and_le_left x1
        refine ⟨x ||| y, o16, ?_, ?_⟩
        · have k1 := h (x ||| y) o16
          have k2 := h (x &&& y) a16
          have k3 := csub x y x1 y1
          have k4 := q_bc_oa (a := S &&& wk x) (b := S &&& wk y)
          have e1 : (S &&& wk x) ||| (S &&& wk y) = S &&& wk (x ||| y) := by
            rw [wor x y x1 y1]
            apply Nat.eq_of_testBit_eq
            intro j
            simp only [Nat.testBit_and, Nat.testBit_or]
            cases S.testBit j <;> cases (wk x).testBit j <;> cases (wk y).testBit j <;> rfl
          have e2 : (S &&& wk x) &&& (S &&& wk y) = S &&& wk (x &&& y) := by
            rw [wand x y x1 y1]
            apply Nat.eq_of_testBit_eq
            intro j
            simp only [Nat.testBit_and]
            cases S.testBit j <;> cases (wk x).testBit j <;> cases (wk y).testBit j <;> rfl
          rw [e1, e2] at k4
          omega
        · intro i hin h1 h2
          rw [wor x y x1 y1, Nat.testBit_or]
          rcases Nat.lt_or_ge i n with hl | hl
          · rw [x3 i hl h1 h2]; rfl
          · rw [show i = n by omega, hyn, Bool.or_true]
      · refine ⟨x, x1, x2, fun i hin h1 h2 => ?_⟩
        rcases Nat.lt_or_ge i n with hl | hl
        · exact x3 i hl h1 h2
        · rw [show i = n by omega] at h1 h2; exact absurd ⟨h1, h2⟩ hi
  obtain ⟨x, x1, x2, x3⟩ := all 8 (Nat.le_refl _)
  refine ⟨x, x1, ?_⟩
  rw [q_bc_split (w := wk x) hS2, x2]
  refine Nat.add_le_add_left (q_bc_mono (fun j hj => ?_)) _
  rw [q_cp_tb hO, Bool.and_eq_true, Bool.not_eq_true'] at hj
  rw [q_cp_tb hS2]
  cases e : S.testBit j with
  | true => rw [hj.2]; rfl
  | false => rw [x3 j (q_bit8 hO hj.1) hj.1 e] at hj; cases hj.2
theorem q_okS.sub {wk c : Nat → Nat} {S S' : Nat} (h : q_okS wk c S) (hs : q_le S' S) : q_okS wk c S' := fun x hx =>
  Nat.le_trans (q_bc_mono (fun j hj => by
    rw [Nat.testBit_and, Bool.and_eq_true] at hj ⊢
    exact ⟨hs j hj.1, hj.2⟩)) (h x hx)
/-- every set that goes lies in one that can't grow -/
theorem q_grow {wk c : Nat → Nat} {O : Nat} (hO : O < 256) : ∀ (n S : Nat), q_bc O ≤ q_bc S + n → q_le S O → q_okS wk c S → ∃ S', q_le S S' ∧ q_le S' O ∧ q_okS wk c S' ∧ ∀ i, O.testBit i = true → S'.testBit i = false → ¬ q_okS wk c (S' ||| 2 ^ i) := by
  intro n
  induction n with
  | zero =>
    intro S hn hS h
    refine ⟨S, fun _ h => h, hS, h, fun i h1 h2 => ?_⟩
    have k := cnt_less (p := fun j => S.testBit j) (q := fun j => O.testBit j) (t := i) (q_bit8 hO h1) (fun j _ hj => hS j hj) h2 h1
    have k2 : q_bc S + 1 ≤ q_bc O := k
    omega
  | succ n ih =>
    intro S hn hS h
    by_cases hex : ∃ i, O.testBit i = true ∧ S.testBit i = false ∧ q_okS wk c (S ||| 2 ^ i)
    · obtain ⟨i, h1, h2, h3⟩ := hex
      have i8 := q_bit8 hO h1
      have hS2 := q_le_lt hS hO
      have k := (q_rm_no S hS2 i i8 h2).2.2.2.1
      obtain ⟨S', s1, s2, s3, s4⟩ := ih (S ||| 2 ^ i) (by omega) (q_le_or1 hS (fun j hj => by rw [pow_tb, decide_eq_true_eq] at hj; rw [hj]; exact h1)) h3
      exact ⟨S', fun j hj => s1 j (by rw [Nat.testBit_or, hj]; rfl), s2, s3, s4⟩
    · exact ⟨S, fun _ h => h, hS, h, fun i h1 h2 h3 => hex ⟨i, h1, h2, h3⟩⟩
/-- what is open, with r hours left -/
def q_opn (pre : Nat → Nat) (N : Nat) (r : Nat → Nat) : Nat := sto (fun i => decide (r i ≠ 0) && !q_any (fun j => (pre i).testBit j && decide (r j ≠ 0)) 8) N
theorem q_opn_tb {pre : Nat → Nat} {N i : Nat} {r : Nat → Nat} : (q_opn pre N r).testBit i = true ↔ i < N ∧ r i ≠ 0 ∧ ∀ j, j < 8 → (pre i).testBit j = true → r j = 0 := by
  unfold q_opn
  rw [sto_tb, Bool.and_eq_true, Bool.and_eq_true, decide_eq_true_eq, decide_eq_true_eq, Bool.not_eq_true']
  constructor
  · rintro ⟨h1, h2, h3⟩
    refine ⟨h1, h2, fun j hj hb => ?_⟩
    refine Classical.byContradiction (fun hn => ?_)
    have : q_any (fun j => (pre i).testBit j && decide (r j ≠ 0)) 8 = true := q_any_iff.mpr ⟨j, hj, by rw [hb, decide_eq_true hn]; rfl⟩
    rw [h3] at this; cases this
  · rintro ⟨h1, h2, h3⟩
    refine ⟨h1, h2, ?_⟩
    cases e : q_any (fun j => (pre i).testBit j && decide (r j ≠ 0)) 8 with
    | false => rfl
    | true =>
      obtain ⟨j, hj, hb⟩ := q_any_iff.mp e
      rw [Bool.and_eq_true, decide_eq_true_eq] at hb
      exact absurd (h3 j hj hb.1) hb.2
def q_stp (r : Nat → Nat) (S : Nat) : Nat → Nat := fun i => r i - (S.testBit i).toNat
/-- all can be done within k hours -/
def q_fin (wk c pre : Nat → Nat) (N : Nat) : Nat → (Nat → Nat) → Prop
  | 0, r => ∀ i, i < N → r i = 0
  | k + 1, r => (∀ i, i < N → r i = 0) ∨ ∃ S, q_le S (q_opn pre N r) ∧ q_okS wk c S ∧ q_fin wk c pre N k (q_stp r S)
theorem q_fin_z {wk c pre : Nat → Nat} {N : Nat} : ∀ {k : Nat} {r : Nat → Nat}, (∀ i, i < N → r i = 0) → q_fin wk c pre N k r
  | 0, _, h => h
  | _ + 1, _, h => Or.inl h
theorem q_fin_s {wk c pre : Nat → Nat} {N : Nat} : ∀ {k : Nat} {r : Nat → Nat}, q_fin wk c pre N k r → q_fin wk c pre N (k + 1) r
  | 0, _, h => Or.inl h
  | k + 1, r, h => by
    rcases h with h | ⟨S, h1, h2, h3⟩
    · exact Or.inl h
    · exact Or.inr ⟨S, h1, h2, q_fin_s h3⟩
theorem q_fin_mono {wk c pre : Nat → Nat} {N : Nat} : ∀ {k : Nat} {r r' : Nat → Nat}, (∀ i, r' i ≤ r i) → q_fin wk c pre N k r → q_fin wk c pre N k r'
  | 0, r, r', hle, h => fun i hi => by have := h i hi; have := hle i; omega
  | k + 1, r, r', hle, h => by
    rcases h with h | ⟨S, h1, h2, h3⟩
    · exact Or.inl (fun i hi => by have := h i hi; have := hle i; omega)
    · refine Or.inr ⟨sto (fun i => S.testBit i && decide (r' i ≠ 0)) N, fun i hi => ?_, h2.sub (fun i hi => ?_), q_fin_mono (fun i => ?_) h3⟩
      · rw [sto_tb, Bool.and_eq_true, Bool.and_eq_true, decide_eq_true_eq, decide_eq_true_eq] at hi
        obtain ⟨g1, g2, g3⟩ := q_opn_tb.mp (h1 i hi.2.1)
        exact q_opn_tb.mpr ⟨hi.1, hi.2.2, fun j hj hb => by have := g3 j hj hb; have := hle j; omega⟩
      · rw [sto_tb, Bool.and_eq_true, Bool.and_eq_true] at hi
        exact hi.2.1
      · unfold q_stp
        have l := hle i
        rw [sto_tb]
        cases hb : S.testBit i with
        | false =>
          rw [Bool.false_and, Bool.and_false]
          have : false.toNat = 0 := rfl
          omega
        | true =>
          have hiN := (q_opn_tb.mp (h1 i hb)).1
          rw [decide_eq_true hiN, Bool.true_and, Bool.true_and]
          have : true.toNat = 1 := rfl
          by_cases h0 : r' i = 0
          · omega
          · rw [decide_eq_true h0]; omega
/-- the best first hour is a full one -/
theorem q_fin_full {wk c pre : Nat → Nat} {N k : Nat} {r : Nat → Nat} (hN : N ≤ 8) (h : q_fin wk c pre N (k + 1) r) (h0 : ¬ ∀ i, i < N → r i = 0) : ∃ S, q_le S (q_opn pre N r) ∧ q_okS wk c S ∧ (∀ i, (q_opn pre N r).testBit i = true → S.testBit i = false → ¬ q_okS wk c (S ||| 2 ^ i)) ∧ q_fin wk c pre N k (q_stp r S) := by
  rcases h with h | ⟨S, h1, h2, h3⟩
  · exact absurd h h0
  · have hO : q_opn pre N r < 256 := sto_le (m := 8) hN
    obtain ⟨S', s1, s2, s3, s4⟩ := q_grow hO (q_bc (q_opn pre N r)) S (Nat.le_add_left _ _) h1 h2
    refine ⟨S', s2, s3, s4, q_fin_mono (fun i => ?_) h3⟩
    unfold q_stp
    cases hb : S.testBit i with
    | false => have : false.toNat = 0 := rfl; omega
    | true => rw [s1 i hb]; exact Nat.le_refl _
/-- what nobody can do is never done -/
theorem q_fin_no {wk c pre : Nat → Nat} {N i : Nat} (hi : i < N) (hb : ¬ q_okS wk c (2 ^ i)) : ∀ {k : Nat} {r : Nat → Nat}, r i ≠ 0 → ¬ q_fin wk c pre N k r
  | 0, r, h0, h => h0 (h i hi)
  | k + 1, r, h0, h => by
    rcases h with h | ⟨S, h1, h2, h3⟩
    · exact h0 (h i hi)
    · have hS : S.testBit i = false := by
        cases e : S.testBit i with
        | false => rfl
        | true => exact absurd (h2.sub (fun j hj => by rw [pow_tb, decide_eq_true_eq] at hj; rw [hj]; exact e)) hb
      refine q_fin_no hi hb (r := q_stp r S) ?_ h3
      unfold q_stp
      rw [hS]; exact h0
/-- if each can be done, all can -/
theorem q_fin_all {wk c pre : Nat → Nat} {N : Nat} (hN : N ≤ 8) (hpre : ∀ i j, (pre i).testBit j = true → j < i) : ∀ {k : Nat} {r : Nat → Nat}, (∀ i, i < N → r i ≠ 0 → q_okS wk c (2 ^ i)) → (∀ i, N ≤ i → r i = 0) → q_sum r N ≤ k → q_fin wk c pre N k r
  | 0, r, _, _, hs => fun i hi => by have := q_sum_ge (f := r) hi; omega
  | k + 1, r, hok, hz, hs => by
    by_cases h0 : ∀ i, i < N → r i = 0
    · exact Or.inl h0
    · have hex : ∃ i, i < N ∧ r i ≠ 0 ∧ ∀ j, j < i → r j = 0 := by
        cases hf : q_find (fun i => decide (r i ≠ 0)) N with
        | none =>
          refine absurd (fun i hi => ?_) h0
          have := q_find_none.mp hf i hi
          exact Classical.byContradiction (fun hn => by rw [decide_eq_true hn] at this; cases this)
        | some i =>
          obtain ⟨a1, a2, a3⟩ := q_find_some hf
          exact ⟨i, a1, of_decide_eq_true a2, fun j hj => Classical.byContradiction (fun hn => by have := a3 j hj; rw [decide_eq_true hn] at this; cases this)⟩
      obtain ⟨i, hi, hr, hlow⟩ := hex
      have e1 : q_sum (q_stp r (2 ^ i)) N + 1 ≤ q_sum r N := q_sum_less hi (fun j _ => Nat.sub_le _ _) (by
        unfold q_stp
        rw [pow_tb, decide_eq_true rfl]
        have : true.toNat = 1 := rfl
        omega)
      refine Or.inr ⟨2 ^ i, fun j hj => ?_, hok i hi hr, q_fin_all hN hpre (fun j hj hne => hok j hj (fun e => hne ?_)) (fun j hj => ?_) (by omega)⟩
      · rw [pow_tb, decide_eq_true_eq] at hj
        rw [hj]
        exact q_opn_tb.mpr ⟨hi, hr, fun l _ hb => hlow l (hpre i l hb)⟩
      · unfold q_stp; rw [e]; exact Nat.zero_sub _
      · unfold q_stp; rw [hz j hj]; exact Nat.zero_sub _
end
