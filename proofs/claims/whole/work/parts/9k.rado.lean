section
-- needs: orders
/-! sets that can be served together: Rado's theorem on masks below 256 -/
def q_le (a b : Nat) : Prop := ∀ j, a.testBit j = true → b.testBit j = true
theorem cnt_oa {p q : Nat → Bool} : ∀ n, cnt (fun i => p i || q i) n + cnt (fun i => p i && q i) n = cnt p n + cnt q n
  | 0 => rfl
  | n + 1 => by
    show cnt (fun i => p i || q i) n + (p n || q n).toNat + (cnt (fun i => p i && q i) n + (p n && q n).toNat) = cnt p n + (p n).toNat + (cnt q n + (q n).toNat)
    have h := cnt_oa (p := p) (q := q) n
    have e : (p n || q n).toNat + (p n && q n).toNat = (p n).toNat + (q n).toNat := by cases p n <;> cases q n <;> rfl
    omega
theorem q_bc_oa {a b : Nat} : q_bc (a ||| b) + q_bc (a &&& b) = q_bc a + q_bc b := by
  have h := cnt_oa (p := fun i => a.testBit i) (q := fun i => b.testBit i) 8
  unfold q_bc
  rw [cnt_cong (p := fun i => (a ||| b).testBit i) (q := fun i => a.testBit i || b.testBit i) (fun i _ => Nat.testBit_or _ _ _), cnt_cong (p := fun i => (a &&& b).testBit i) (q := fun i => a.testBit i && b.testBit i) (fun i _ => Nat.testBit_and _ _ _)]
  exact h
theorem q_bc_mono {a b : Nat} (h : q_le a b) : q_bc a ≤ q_bc b := cnt_mono (fun i _ => h i)
theorem q_le_or1 {a b c : Nat} (h1 : q_le a c) (h2 : q_le b c) : q_le (a ||| b) c := fun j hj => by
  rw [Nat.testBit_or, Bool.or_eq_true] at hj
  rcases hj with hj | hj
  · exact h1 j hj
  · exact h2 j hj
theorem q_le_and1 {a b : Nat} : q_le (a &&& b) a := fun j hj => by
  rw [Nat.testBit_and, Bool.and_eq_true] at hj; exact hj.1
theorem q_le_and2 {a b : Nat} : q_le (a &&& b) b := fun j hj => by
  rw [Nat.testBit_and, Bool.and_eq_true] at hj; exact hj.2
theorem q_le_lt {a b : Nat} (h : q_le a b) (hb : b < 256) : a < 256 := by
  have e : a &&& b = a := by
    apply Nat.eq_of_testBit_eq
    intro j
    rw [Nat.testBit_and]
    cases hj : a.testBit j with
    | false => rfl
    | true => rw [h j hj]; rfl
  have := Nat.and_le_right (n := a) (m := b)
  omega
/-- a set without one -/
def q_wo (s i : Nat) : Nat := sto (fun j => s.testBit j && !decide (j = i)) 8
theorem q_wo_tb {s i j : Nat} (hs : s < 256) : (q_wo s i).testBit j = (s.testBit j && !decide (j = i)) := by
  unfold q_wo
  rw [sto_tb]
  by_cases h : j < 8
  · rw [decide_eq_true h, Bool.true_and]
  · rw [decide_eq_false h, Nat.testBit_lt_two_pow (Nat.lt_of_lt_of_le hs (show 2 ^ 8 ≤ 2 ^ j from Nat.pow_le_pow_right (by decide) (by omega)))]; rfl
theorem q_wo_lt {s i : Nat} : q_wo s i < 256 := sto_le (m := 8) (by decide)
theorem q_bit8 {s j : Nat} (hs : s < 256) (h : s.testBit j = true) : j < 8 := by
  rcases Nat.lt_or_ge j 8 with hl | hl
  · exact hl
  · rw [Nat.testBit_lt_two_pow (Nat.lt_of_lt_of_le hs (show 2 ^ 8 ≤ 2 ^ j from Nat.pow_le_pow_right (by decide) hl))] at h; cases h
theorem q_bc_wo {s i : Nat} (hs : s < 256) (h : s.testBit i = true) : q_bc (q_wo s i) + 1 = q_bc s := by
  have e : q_wo s i = q_rm s i := by
    apply Nat.eq_of_testBit_eq
    intro j
    rw [q_wo_tb hs]
    unfold q_rm
    rw [Nat.testBit_and, Nat.testBit_xor, pow_tb, show 4294967295 = 2 ^ 32 - 1 from rfl, Nat.testBit_two_pow_sub_one]
    cases hj : s.testBit j with
    | false => rfl
    | true => rw [decide_eq_true (show j < 32 by have := q_bit8 hs hj; omega), Bool.xor_true]
  rw [e]
  exact (q_rm_in s hs i (q_bit8 hs h) h).2.1
/-- the union of a family over a set -/
def q_un (A : Nat → Nat) (J : Nat) : Nat := sto (fun e => q_any (fun w => J.testBit w && (A w).testBit e) 8) 8
theorem q_un_lt {A : Nat → Nat} {J : Nat} : q_un A J < 256 := sto_le (m := 8) (by decide)
theorem q_un_tb {A : Nat → Nat} {J e : Nat} : (q_un A J).testBit e = true ↔ e < 8 ∧ ∃ w, w < 8 ∧ J.testBit w = true ∧ (A w).testBit e = true := by
  unfold q_un
  rw [sto_tb, Bool.and_eq_true, decide_eq_true_eq, q_any_iff]
  constructor
  · rintro ⟨h1, w, h2, h3⟩
    rw [Bool.and_eq_true] at h3
    exact ⟨h1, w, h2, h3⟩
  · rintro ⟨h1, w, h2, h3⟩
    exact ⟨h1, w, h2, by rw [h3.1, h3.2]; rfl⟩
def q_mono (r : Nat → Nat) : Prop := ∀ a b, b < 256 → q_le a b → r a ≤ r b
def q_subm (r : Nat → Nat) : Prop := ∀ a b, a < 256 → b < 256 → r (a ||| b) + r (a &&& b) ≤ r a + r b
def q_hall (r : Nat → Nat) (A : Nat → Nat) (S : Nat) : Prop := ∀ J, q_le J S → q_bc J ≤ r (q_un A J)
theorem q_hall_bad {r A : Nat → Nat} {S : Nat} (h : ¬ q_hall r A S) : ∃ J, q_le J S ∧ r (q_un A J) < q_bc J := by
  refine Classical.byContradiction (fun hn => h (fun J hJ => ?_))
  refine Classical.byContradiction (fun hlt => hn ⟨J, hJ, by omega⟩)
theorem q_tz_in {a i : Nat} (ha : a < 256) (h : a.testBit i = true) : a.testBit (q_tz a) = true := by
  unfold q_tz
  cases hf : q_find (fun i => a.testBit i) 8 with
  | none => rw [q_find_none.mp hf i (q_bit8 ha h)] at h; cases h
  | some j => exact (q_find_some hf).2.1
theorem q_rado1 {r : Nat → Nat} (h0 : r 0 = 0) {S : Nat} (hS : S < 256) (A : Nat → Nat) (hA : ∀ w, A w < 256) (hH : q_hall r A S) (hone : ∀ w, S.testBit w = true → ∀ a b, (A w).testBit a = true → (A w).testBit b = true → a = b) : ∃ τ : Nat → Nat, (∀ w, S.testBit w = true → (A w).testBit (τ w) = true) ∧ q_hall r (fun w => 2 ^ τ w) S := by
  have ne : ∀ w, S.testBit w = true → ∃ a, (A w).testBit a = true := by
    intro w hw
    have hw8 := q_bit8 hS hw
    have h1 := hH (2 ^ w) (fun j hj => by rw [pow_tb, decide_eq_true_eq] at hj; rw [hj]; exact hw)
    have h2 : 1 ≤ q_bc (2 ^ w) := by
      have h8 : 2 ^ w < 2 ^ 8 := Nat.pow_lt_pow_right (by decide) hw8
      have := q_bc_00 (2 ^ w) h8
      have hp := Nat.two_pow_pos w
      have : q_bc (2 ^ w) ≠ 0 := fun h => by have := this h; omega
      omega
    refine Classical.byContradiction (fun hn => ?_)
    have e : q_un A (2 ^ w) = 0 := by
      apply Nat.eq_of_testBit_eq
      intro i
      rw [Nat.zero_testBit]
      cases hi : (q_un A (2 ^ w)).testBit i with
      | false => rfl
      | true =>
        obtain ⟨_, v, _, h3, h4⟩ := q_un_tb.mp hi
        rw [pow_tb, decide_eq_true_eq] at h3
        rw [h3] at h4
        exact absurd ⟨i, h4⟩ hn
    rw [e, h0] at h1
    omega
  refine ⟨fun w => q_tz (A w), fun w hw => ?_, fun J hJ => ?_⟩
  · obtain ⟨a, ha⟩ := ne w hw
    exact q_tz_in (hA w) ha
  · have e : q_un (fun w => 2 ^ q_tz (A w)) J = q_un A J := by
      apply Nat.eq_of_testBit_eq
      intro i
      rw [Bool.eq_iff_iff, q_un_tb, q_un_tb]
      constructor
      · rintro ⟨h1, v, h2, h3, h4⟩
        rw [pow_tb, decide_eq_true_eq] at h4
        obtain ⟨a, ha⟩ := ne v (hJ v h3)
        exact ⟨h1, v, h2, h3, by rw [h4]; exact q_tz_in (hA v) ha⟩
      · rintro ⟨h1, v, h2, h3, h4⟩
        refine ⟨h1, v, h2, h3, ?_⟩
        rw [pow_tb, decide_eq_true_eq]
        exact hone v (hJ v h3) _ _ h4 (q_tz_in (hA v) h4)
    rw [e]
    exact hH J hJ
theorem q_rado {r : Nat → Nat} (hm : q_mono r) (hsm : q_subm r) (h0 : r 0 = 0) {S : Nat} (hS : S < 256) : ∀ (m : Nat) (A : Nat → Nat), (∀ w, A w < 256) → q_sum (fun w => q_bc (A w)) 8 ≤ m → q_hall r A S → ∃ τ : Nat → Nat, (∀ w, S.testBit w = true → (A w).testBit (τ w) = true) ∧ q_hall r (fun w => 2 ^ τ w) S := by
  intro m
  induction m with
  | zero =>
    intro A hA hle hH
    exact q_rado1 h0 hS A hA hH (fun w hw a b ha hb => by
      have h1 := q_sum_ge (f := fun w => q_bc (A w)) (q_bit8 hS hw)
      have h2 := q_bc_wo (hA w) ha
      omega)
  | succ m ih =>
    intro A hA hle hH
    by_cases hex : ∃ w a b, S.testBit w = true ∧ (A w).testBit a = true ∧ (A w).testBit b = true ∧ a ≠ b
    · obtain ⟨w, a, b, hw, ha, hb, hab⟩ := hex
      have hw8 := q_bit8 hS hw
      have dec : ∀ c, (A w).testBit c = true → q_sum (fun v => q_bc (q_up A w (q_wo (A w) c) v)) 8 ≤ m := fun c hc => by
        have h1 := q_sum_less (f := fun v => q_bc (q_up A w (q_wo (A w) c) v)) (g := fun v => q_bc (A v)) (i := w) hw8 (fun j _ => by
          by_cases e : j = w
          · subst e; rw [q_up_s]; have := q_bc_wo (hA j) hc; omega
          · rw [q_up_n e]; exact Nat.le_refl _) (by rw [q_up_s]; have := q_bc_wo (hA w) hc; omega)
        omega
      have lt : ∀ c v, q_up A w (q_wo (A w) c) v < 256 := fun c v => by
        by_cases e : v = w
        · subst e; rw [q_up_s]; exact q_wo_lt
        · rw [q_up_n e]; exact hA v
      have back : ∀ c, q_hall r (q_up A w (q_wo (A w) c)) S → (A w).testBit c = true → ∃ τ : Nat → Nat, (∀ w, S.testBit w = true → (A w).testBit (τ w) = true) ∧ q_hall r (fun w => 2 ^ τ w) S := fun c hc hcb => by
        obtain ⟨τ, t1, t2⟩ := ih _ (lt c) (dec c hcb) hc
        refine ⟨τ, fun v hv => ?_, t2⟩
        have h1 := t1 v hv
        by_cases e : v = w
        · subst e
          rw [q_up_s, q_wo_tb (hA v), Bool.and_eq_true] at h1
          exact h1.1
        · rw [q_up_n e] at h1; exact h1
      by_cases ca : q_hall r (q_up A w (q_wo (A w) a)) S
      · exact back a ca ha
      by_cases cb : q_hall r (q_up A w (q_wo (A w) b)) S
      · exact back b cb hb
      exfalso
      obtain ⟨J1, j1, l1⟩ := q_hall_bad ca
      obtain ⟨J2, j2, l2⟩ := q_hall_bad cb
      have inJ : ∀ c J, q_le J S → r (q_un (q_up A w (q_wo (A w) c)) J) < q_bc J → J.testBit w = true := fun c J hJ hlt => by
        cases e : J.testBit w with
        | true => rfl
        | false =>
          have e2 : q_un (q_up A w (q_wo (A w) c)) J = q_un A J := by
            apply Nat.eq_of_testBit_eq
            intro i
            rw [Bool.eq_iff_iff, q_un_tb, q_un_tb]
            constructor
            · rintro ⟨h1, v, h2, h3, h4⟩
              have : v ≠ w := fun hh => by rw [hh, e] at h3; cases h3
              rw [q_up_n this] at h4
              exact ⟨h1, v, h2, h3, h4⟩
            · rintro ⟨h1, v, h2, h3, h4⟩
              have : v ≠ w := fun hh => by rw [hh, e] at h3; cases h3
              exact ⟨h1, v, h2, h3, by rw [q_up_n this]; exact h4⟩
          rw [e2] at hlt
          have := hH J hJ
          omega
      have w1 := inJ a J1 j1 l1
      have w2 := inJ b J2 j2 l2
      have J1lt := q_le_lt j1 hS
      have J2lt := q_le_lt j2 hS
      have s1 := hsm (q_un (q_up A w (q_wo (A w) a)) J1) (q_un (q_up A w (q_wo (A w) b)) J2) q_un_lt q_un_lt
      have u1 : q_le (q_un A (J1 ||| J2)) (q_un (q_up A w (q_wo (A w) a)) J1 ||| q_un (q_up A w (q_wo (A w) b)) J2) := fun e he => by
        obtain ⟨h1, v, h2, h3, h4⟩ := q_un_tb.mp he
        rw [Nat.testBit_or, Bool.or_eq_true]
        by_cases ev : v = w
        · subst ev
          by_cases ea : e = a
          · refine Or.inr (q_un_tb.mpr ⟨h1, v, h2, w2, ?_⟩)
            rw [q_up_s, q_wo_tb (hA v), h4, decide_eq_false (fun hh => hab (ea.symm.trans hh))]; rfl
          · refine Or.inl (q_un_tb.mpr ⟨h1, v, h2, w1, ?_⟩)
            rw [q_up_s, q_wo_tb (hA v), h4, decide_eq_false ea]; rfl
        · rw [Nat.testBit_or, Bool.or_eq_true] at h3
          rcases h3 with h3 | h3
          · exact Or.inl (q_un_tb.mpr ⟨h1, v, h2, h3, by rw [q_up_n ev]; exact h4⟩)
          · exact Or.inr (q_un_tb.mpr ⟨h1, v, h2, h3, by rw [q_up_n ev]; exact h4⟩)
      have andlt : J1 &&& J2 < 256 := q_le_lt q_le_and1 J1lt
      have u2 : q_le (q_un A (q_wo (J1 &&& J2) w)) (q_un (q_up A w (q_wo (A w) a)) J1 &&& q_un (q_up A w (q_wo (A w) b)) J2) := fun e he => by
        obtain ⟨h1, v, h2, h3, h4⟩ := q_un_tb.mp he
        rw [q_wo_tb andlt, Bool.and_eq_true, Bool.not_eq_true', decide_eq_false_iff_not, Nat.testBit_and, Bool.and_eq_true] at h3
        rw [Nat.testBit_and, Bool.and_eq_true]
        exact ⟨q_un_tb.mpr ⟨h1, v, h2, h3.1.1, by rw [q_up_n h3.2]; exact h4⟩, q_un_tb.mpr ⟨h1, v, h2, h3.1.2, by rw [q_up_n h3.2]; exact h4⟩⟩
      have o1 : q_un (q_up A w (q_wo (A w) a)) J1 ||| q_un (q_up A w (q_wo (A w) b)) J2 < 2 ^ 8 := Nat.or_lt_two_pow q_un_lt q_un_lt
      have o2 : q_un (q_up A w (q_wo (A w) a)) J1 &&& q_un (q_up A w (q_wo (A w) b)) J2 < 256 := q_le_lt q_le_and1 q_un_lt
      have m1 := hm _ _ o1 u1
      have m2 := hm _ _ o2 u2
      have k1 := hH (J1 ||| J2) (q_le_or1 j1 j2)
      have k2 := hH (q_wo (J1 &&& J2) w) (fun j hj => by
        rw [q_wo_tb andlt, Bool.and_eq_true, Nat.testBit_and, Bool.and_eq_true] at hj
        exact j1 j hj.1.1)
      have k3 := q_bc_wo andlt (show (J1 &&& J2).testBit w = true by rw [Nat.testBit_and, w1, w2]; rfl)
      have k4 := q_bc_oa (a := J1) (b := J2)
      omega
    · exact q_rado1 h0 hS A hA hH (fun w hw a b ha hb => Classical.byContradiction (fun hab => hex ⟨w, a, b, hw, ha, hb, hab⟩))
end
