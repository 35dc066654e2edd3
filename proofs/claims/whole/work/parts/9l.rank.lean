section
-- needs: rado
/-! how many couples a set of tools can give -/
def q_mn (f : Nat → Nat) : Nat → Nat
  | 0 => f 0
  | n + 1 => if f (n + 1) < q_mn f n then f (n + 1) else q_mn f n
theorem q_mn_le {f : Nat → Nat} : ∀ {n i : Nat}, i ≤ n → q_mn f n ≤ f i
  | 0, i, h => by rw [show i = 0 by omega]; exact Nat.le_refl _
  | n + 1, i, h => by
    rw [q_mn]
    by_cases e : i = n + 1
    · subst e; split <;> omega
    · have := q_mn_le (f := f) (n := n) (i := i) (by omega)
      split <;> omega
theorem q_mn_at {f : Nat → Nat} : ∀ n, ∃ i, i ≤ n ∧ q_mn f n = f i
  | 0 => ⟨0, Nat.le_refl _, rfl⟩
  | n + 1 => by
    rw [q_mn]
    split
    · exact ⟨n + 1, Nat.le_refl _, rfl⟩
    · obtain ⟨i, h1, h2⟩ := q_mn_at (f := f) n
      exact ⟨i, by omega, h2⟩
def q_rank (ts : Nat → Nat) (T : Nat) : Nat := q_mn (fun Y => 4 - q_bc Y + q_bc (q_un ts Y &&& T)) 15
theorem q_rank_le {ts : Nat → Nat} {T Y : Nat} (h : Y < 16) : q_rank ts T ≤ 4 - q_bc Y + q_bc (q_un ts Y &&& T) := q_mn_le (f := fun Y => 4 - q_bc Y + q_bc (q_un ts Y &&& T)) (by omega)
theorem q_rank_at (ts : Nat → Nat) (T : Nat) : ∃ Y, Y < 16 ∧ q_rank ts T = 4 - q_bc Y + q_bc (q_un ts Y &&& T) := by
  obtain ⟨i, h1, h2⟩ := q_mn_at (f := fun Y => 4 - q_bc Y + q_bc (q_un ts Y &&& T)) 15
  exact ⟨i, by omega, h2⟩
theorem q_rank_mono {ts : Nat → Nat} : q_mono (q_rank ts) := fun a b _ h => by
  obtain ⟨Y, h1, h2⟩ := q_rank_at ts b
  rw [h2]
  refine Nat.le_trans (q_rank_le h1) (Nat.add_le_add_left (q_bc_mono (fun j hj => ?_)) _)
  rw [Nat.testBit_and, Bool.and_eq_true] at hj ⊢
  exact ⟨hj.1, h j hj.2⟩
theorem q_rank_bc {ts : Nat → Nat} {T : Nat} : q_rank ts T ≤ q_bc T := by
  have h := q_rank_le (ts := ts) (T := T) (Y := 15) (by decide)
  have e : q_bc 15 = 4 := by decide +kernel
  have h2 : q_bc (q_un ts 15 &&& T) ≤ q_bc T := q_bc_mono q_le_and2
  omega
theorem q_rank_0 {ts : Nat → Nat} : q_rank ts 0 = 0 := by
  have h := q_rank_bc (ts := ts) (T := 0)
  have e : q_bc 0 = 0 := by decide +kernel
  omega
theorem q_un_or {A : Nat → Nat} {J K : Nat} : q_un A (J ||| K) = q_un A J ||| q_un A K := by
  apply Nat.eq_of_testBit_eq
  intro i
  rw [Nat.testBit_or, Bool.eq_iff_iff, Bool.or_eq_true, q_un_tb, q_un_tb, q_un_tb]
  constructor
  · rintro ⟨h1, w, h2, h3, h4⟩
    rw [Nat.testBit_or, Bool.or_eq_true] at h3
    rcases h3 with h3 | h3
    · exact Or.inl ⟨h1, w, h2, h3, h4⟩
    · exact Or.inr ⟨h1, w, h2, h3, h4⟩
  · rintro (⟨h1, w, h2, h3, h4⟩ | ⟨h1, w, h2, h3, h4⟩)
    · exact ⟨h1, w, h2, by rw [Nat.testBit_or, h3]; rfl, h4⟩
    · exact ⟨h1, w, h2, by rw [Nat.testBit_or, h3, Bool.or_true], h4⟩
theorem q_un_and {A : Nat → Nat} {J K : Nat} : q_le (q_un A (J &&& K)) (q_un A J &&& q_un A K) := fun i hi => by
  obtain ⟨h1, w, h2, h3, h4⟩ := q_un_tb.mp hi
  rw [Nat.testBit_and, Bool.and_eq_true] at h3
  rw [Nat.testBit_and, Bool.and_eq_true]
  exact ⟨q_un_tb.mpr ⟨h1, w, h2, h3.1, h4⟩, q_un_tb.mpr ⟨h1, w, h2, h3.2, h4⟩⟩
theorem q_bc_16 : ∀ Y, Y < 16 → q_bc Y ≤ 4 := by decide +kernel
theorem q_rank_sub {ts : Nat → Nat} : q_subm (q_rank ts) := fun a b _ _ => by
  obtain ⟨Y, y1, y2⟩ := q_rank_at ts a
  obtain ⟨Z, z1, z2⟩ := q_rank_at ts b
  have o16 : Y ||| Z < 2 ^ 4 := Nat.or_lt_two_pow y1 z1
  have a16 : Y &&& Z < 16 := Nat.lt_of_le_of_lt Nat.and_le_left y1
  have h1 := q_rank_le (ts := ts) (T := a &&& b) (Y := Y ||| Z) o16
  have h2 := q_rank_le (ts := ts) (T := a ||| b) (Y := Y &&& Z) a16
  have h3 := q_bc_oa (a := Y) (b := Z)
  have b1 := q_bc_16 Y y1
  have b2 := q_bc_16 Z z1
  have b3 := q_bc_16 (Y ||| Z) o16
  have b4 := q_bc_16 (Y &&& Z) a16
  have h4 : q_bc (q_un ts (Y ||| Z) &&& (a &&& b)) + q_bc (q_un ts (Y &&& Z) &&& (a ||| b)) ≤ q_bc (q_un ts Y &&& a) + q_bc (q_un ts Z &&& b) := by
    rw [q_un_or, ← q_bc_oa (a := q_un ts Y &&& a), ← q_bc_oa (a := (q_un ts Y ||| q_un ts Z) &&& (a &&& b))]
    refine Nat.add_le_add (q_bc_mono (fun j hj => ?_)) (q_bc_mono (fun j hj => ?_))
    · rw [Nat.testBit_or, Bool.or_eq_true] at hj ⊢
      rw [Nat.testBit_and, Nat.testBit_and, Bool.and_eq_true, Bool.and_eq_true]
      rcases hj with hj | hj
      · rw [Nat.testBit_and, Nat.testBit_or, Nat.testBit_and, Bool.and_eq_true, Bool.or_eq_true, Bool.and_eq_true] at hj
        rcases hj.1 with h | h
        · exact Or.inl ⟨h, hj.2.1⟩
        · exact Or.inr ⟨h, hj.2.2⟩
      · rw [Nat.testBit_and, Bool.and_eq_true, Nat.testBit_or, Bool.or_eq_true] at hj
        have hu := q_un_and j hj.1
        rw [Nat.testBit_and, Bool.and_eq_true] at hu
        rcases hj.2 with h | h
        · exact Or.inl ⟨hu.1, h⟩
        · exact Or.inr ⟨hu.2, h⟩
    · rw [Nat.testBit_and, Bool.and_eq_true, Nat.testBit_and, Nat.testBit_and, Bool.and_eq_true, Bool.and_eq_true, Nat.testBit_and, Bool.and_eq_true] at hj
      have hu := q_un_and j hj.2.1
      rw [Nat.testBit_and, Bool.and_eq_true] at hu
      rw [Nat.testBit_and, Nat.testBit_and, Nat.testBit_and, Bool.and_eq_true, Bool.and_eq_true, Bool.and_eq_true]
      exact ⟨⟨hu.1, hj.1.2.1⟩, hu.2, hj.1.2.2⟩
  omega
/-- counted one to one -/
theorem cnt_inj {q : Nat → Bool} {f : Nat → Nat} {m : Nat} : ∀ {n : Nat} {p : Nat → Bool}, (∀ i, i < n → p i = true → f i < m ∧ q (f i) = true) → (∀ i j, i < n → j < n → p i = true → p j = true → f i = f j → i = j) → cnt p n ≤ cnt q m
  | 0, _, _, _ => Nat.zero_le _
  | n + 1, p, h1, h2 => by
    show cnt p n + (p n).toNat ≤ cnt q m
    cases hp : p n with
    | false => exact cnt_inj (fun i hi => h1 i (by omega)) (fun i j hi hj => h2 i j (by omega) (by omega))
    | true =>
      obtain ⟨g1, g2⟩ := h1 n (Nat.lt_succ_self n) hp
      have h3 := cnt_inj (q := fun j => q j && !decide (j = f n)) (f := f) (m := m) (n := n) (p := p) (fun i hi hpi => by
        obtain ⟨k1, k2⟩ := h1 i (by omega) hpi
        refine ⟨k1, ?_⟩
        rw [k2, decide_eq_false (fun e => by have := h2 i n (by omega) (Nat.lt_succ_self n) hpi hp e; omega)]; rfl) (fun i j hi hj => h2 i j (by omega) (by omega))
      have h4 := cnt_less (p := fun j => q j && !decide (j = f n)) (q := q) (t := f n) g1 (fun i _ hi => by rw [Bool.and_eq_true] at hi; exact hi.1) (by rw [decide_eq_true rfl, Bool.not_true, Bool.and_false]) g2
      have : true.toNat = 1 := rfl
      omega
theorem q_bc_inj {J K : Nat} {f : Nat → Nat} (hK : K < 256) (h1 : ∀ w, w < 8 → J.testBit w = true → K.testBit (f w) = true) (h2 : ∀ v w, v < 8 → w < 8 → J.testBit v = true → J.testBit w = true → f v = f w → v = w) : q_bc J ≤ q_bc K :=
  cnt_inj (fun i hi hp => ⟨q_bit8 hK (h1 i hi hp), h1 i hi hp⟩) h2
/-- a way to serve a set: tools and men -/
def q_way (ts A : Nat → Nat) (S : Nat) (τ μ : Nat → Nat) : Prop := (∀ w, S.testBit w = true → (A w).testBit (τ w) = true ∧ μ w < 4 ∧ (ts (μ w)).testBit (τ w) = true) ∧ ∀ v w, S.testBit v = true → S.testBit w = true → v ≠ w → τ v ≠ τ w ∧ μ v ≠ μ w
theorem q_way_hall {ts A : Nat → Nat} {S : Nat} {τ μ : Nat → Nat} (hA : ∀ w, A w < 256) (hts : ∀ m, ts m < 256) (h : q_way ts A S τ μ) : q_hall (q_rank ts) A S := by
  intro J hJ
  obtain ⟨Y, y1, y2⟩ := q_rank_at ts (q_un A J)
  obtain ⟨h1, h2⟩ := h
  rw [y2]
  have e1 : q_bc J = q_bc (sto (fun w => J.testBit w && Y.testBit (μ w)) 8) + q_bc (sto (fun w => J.testBit w && !Y.testBit (μ w)) 8) := by
    rw [← q_bc_oa]
    have z : sto (fun w => J.testBit w && Y.testBit (μ w)) 8 &&& sto (fun w => J.testBit w && !Y.testBit (μ w)) 8 = 0 := by
      rw [sto_and]
      exact sto_0.mpr (fun i _ => by cases J.testBit i <;> cases Y.testBit (μ i) <;> rfl)
    rw [z, show q_bc 0 = 0 by decide +kernel, Nat.add_zero, sto_or, q_bc_sto (by decide)]
    unfold q_bc
    exact cnt_cong (fun i _ => by cases J.testBit i <;> cases Y.testBit (μ i) <;> rfl)
  have inj : ∀ v w, J.testBit v = true → J.testBit w = true → (τ v = τ w → v = w) ∧ (μ v = μ w → v = w) := fun v w hv hw => by
    refine ⟨fun e => ?_, fun e => ?_⟩
    · exact Classical.byContradiction (fun hne => (h2 v w (hJ v hv) (hJ w hw) hne).1 e)
    · exact Classical.byContradiction (fun hne => (h2 v w (hJ v hv) (hJ w hw) hne).2 e)
  have sb : ∀ (b : Nat → Bool) w, (sto (fun w => J.testBit w && b w) 8).testBit w = true → w < 8 ∧ J.testBit w = true ∧ b w = true := fun b w hw => by
    rw [sto_tb, Bool.and_eq_true, Bool.and_eq_true, decide_eq_true_eq] at hw
    exact hw
  have l1 : q_bc (sto (fun w => J.testBit w && Y.testBit (μ w)) 8) ≤ q_bc (q_un ts Y &&& q_un A J) := by
    refine q_bc_inj (f := τ) (q_le_lt q_le_and1 q_un_lt) (fun w hw hb => ?_) (fun v w _ _ hv hw e => ?_)
    · obtain ⟨_, b1, b2⟩ := sb _ w hb
      obtain ⟨k1, k2, k3⟩ := h1 w (hJ w b1)
      have t8 := q_bit8 (hA w) k1
      rw [Nat.testBit_and, Bool.and_eq_true]
      exact ⟨q_un_tb.mpr ⟨t8, μ w, by omega, b2, k3⟩, q_un_tb.mpr ⟨t8, w, hw, b1, k1⟩⟩
    · exact (inj v w (sb _ v hv).2.1 (sb _ w hw).2.1).1 e
  have l2 : q_bc (sto (fun w => J.testBit w && !Y.testBit (μ w)) 8) ≤ q_bc (sto (fun m => !Y.testBit m) 4) := by
    refine q_bc_inj (f := μ) (sto_le (m := 8) (by decide)) (fun w hw hb => ?_) (fun v w _ _ hv hw e => ?_)
    · obtain ⟨_, b1, b2⟩ := sb _ w hb
      obtain ⟨k1, k2, k3⟩ := h1 w (hJ w b1)
      rw [sto_tb, decide_eq_true k2, b2]; rfl
    · exact (inj v w (sb _ v hv).2.1 (sb _ w hw).2.1).2 e
  have l3 : ∀ Y, Y < 16 → q_bc (sto (fun m => !Y.testBit m) 4) = 4 - q_bc Y := by decide +kernel
  have l4 := l3 Y y1
  omega
theorem q_two : ∀ v, v < 8 → ∀ w, w < 8 → v ≠ w → q_bc (2 ^ v ||| 2 ^ w) = 2 := by decide +kernel
theorem q_bc_pow : ∀ v, v < 8 → q_bc (2 ^ v) = 1 := by decide +kernel
theorem q_hall_inj {r f : Nat → Nat} {S : Nat} (hS : S < 256) (hr : ∀ T, r T ≤ q_bc T) (hf : ∀ w, S.testBit w = true → f w < 8) (h : q_hall r (fun w => 2 ^ f w) S) : ∀ v w, S.testBit v = true → S.testBit w = true → v ≠ w → f v ≠ f w := by
  intro v w hv hw hne e
  have v8 := q_bit8 hS hv
  have w8 := q_bit8 hS hw
  have h1 := h (2 ^ v ||| 2 ^ w) (q_le_or1 (fun j hj => by rw [pow_tb, decide_eq_true_eq] at hj; rw [hj]; exact hv) (fun j hj => by rw [pow_tb, decide_eq_true_eq] at hj; rw [hj]; exact hw))
  rw [q_two v v8 w w8 hne] at h1
  have h2 := hr (q_un (fun w => 2 ^ f w) (2 ^ v ||| 2 ^ w))
  have h3 : q_bc (q_un (fun w => 2 ^ f w) (2 ^ v ||| 2 ^ w)) ≤ q_bc (2 ^ f v) := q_bc_mono (fun j hj => by
    obtain ⟨_, u, _, k1, k2⟩ := q_un_tb.mp hj
    rw [Nat.testBit_or, pow_tb, pow_tb, Bool.or_eq_true, decide_eq_true_eq, decide_eq_true_eq] at k1
    rcases k1 with rfl | rfl
    · exact k2
    · rw [e]; exact k2)
  rw [q_bc_pow _ (hf v hv)] at h3
  omega
theorem q_hall_way {ts A : Nat → Nat} {S : Nat} (hS : S < 256) (hA : ∀ w, A w < 256) (h : q_hall (q_rank ts) A S) : ∃ τ μ, q_way ts A S τ μ := by
  obtain ⟨τ, t1, t2⟩ := q_rado q_rank_mono q_rank_sub q_rank_0 hS _ A hA (Nat.le_refl _) h
  have τ8 : ∀ w, S.testBit w = true → τ w < 8 := fun w hw => q_bit8 (hA w) (t1 w hw)
  have B4 : ∀ w, sto (fun m => (ts m).testBit (τ w)) 4 < 256 := fun w => sto_le (m := 8) (by decide)
  have hB : q_hall q_bc (fun w => sto (fun m => (ts m).testBit (τ w)) 4) S := by
    intro J hJ
    have h1 := t2 J hJ
    have hU : q_un (fun w => sto (fun m => (ts m).testBit (τ w)) 4) J < 16 := by
      have e : q_un (fun w => sto (fun m => (ts m).testBit (τ w)) 4) J &&& 15 = q_un (fun w => sto (fun m => (ts m).testBit (τ w)) 4) J := by
        apply Nat.eq_of_testBit_eq
        intro i
        rw [Nat.testBit_and, show 15 = 2 ^ 4 - 1 from rfl, Nat.testBit_two_pow_sub_one]
        cases hi : (q_un (fun w => sto (fun m => (ts m).testBit (τ w)) 4) J).testBit i with
        | false => rfl
        | true =>
          obtain ⟨_, w, _, _, h4⟩ := q_un_tb.mp hi
          rw [sto_tb, Bool.and_eq_true, decide_eq_true_eq] at h4
          rw [decide_eq_true h4.1]; rfl
      have := Nat.and_le_right (n := q_un (fun w => sto (fun m => (ts m).testBit (τ w)) 4) J) (m := 15)
      omega
    generalize hUe : q_un (fun w => sto (fun m => (ts m).testBit (τ w)) 4) J = U at hU
    have l3 : ∀ U, U < 16 → q_bc (sto (fun m => !U.testBit m) 4) + q_bc U = 4 := by decide +kernel
    have hY := l3 U hU
    have hlt : sto (fun m => !U.testBit m) 4 < 2 ^ 4 := sto_lt _ _
    have h2 := q_rank_le (ts := ts) (T := q_un (fun w => 2 ^ τ w) J) (Y := sto (fun m => !U.testBit m) 4) hlt
    have z : q_un ts (sto (fun m => !U.testBit m) 4) &&& q_un (fun w => 2 ^ τ w) J = 0 := by
      apply Nat.eq_of_testBit_eq
      intro i
      rw [Nat.zero_testBit]
      cases hi : (q_un ts (sto (fun m => !U.testBit m) 4) &&& q_un (fun w => 2 ^ τ w) J).testBit i with
      | false => rfl
      | true =>
        rw [Nat.testBit_and, Bool.and_eq_true] at hi
        obtain ⟨_, m, m8, m1, m2⟩ := q_un_tb.mp hi.1
        obtain ⟨_, w, w8, w1, w2⟩ := q_un_tb.mp hi.2
        rw [sto_tb, Bool.and_eq_true, decide_eq_true_eq, Bool.not_eq_true'] at m1
        rw [pow_tb, decide_eq_true_eq] at w2
        have hin : U.testBit m = true := by
          rw [← hUe]
          refine q_un_tb.mpr ⟨m8, w, w8, w1, ?_⟩
          rw [sto_tb, decide_eq_true m1.1, ← w2, m2]; rfl
        rw [m1.2] at hin; cases hin
    rw [z, show q_bc 0 = 0 by decide +kernel] at h2
    omega
  obtain ⟨μ, m1, m2⟩ := q_rado (r := q_bc) (fun a b _ hab => q_bc_mono hab) (fun a b _ _ => Nat.le_of_eq q_bc_oa) (by decide +kernel) hS _ _ B4 (Nat.le_refl _) hB
  have mm : ∀ w, S.testBit w = true → μ w < 4 ∧ (ts (μ w)).testBit (τ w) = true := fun w hw => by
    have := m1 w hw
    rw [sto_tb, Bool.and_eq_true, decide_eq_true_eq] at this
    exact this
  have i1 := q_hall_inj hS (fun T => q_rank_bc) τ8 t2
  have i2 := q_hall_inj hS (fun T => Nat.le_refl _) (fun w hw => by have := (mm w hw).1; omega) m2
  exact ⟨τ, μ, fun w hw => ⟨t1 w hw, mm w hw⟩, fun v w hv hw hne => ⟨i1 v w hv hw hne, i2 v w hv hw hne⟩⟩
end
