section
-- needs: changes
/-! mates -/
def q_bs (W : Nat → Int32) (p : Nat → Bool) : Nat → Option Nat
  | 0 => none
  | t + 1 => if p t = true then (match q_bs W p t with | none => some t | some r => if W (19 + 10 * r) < W (19 + 10 * t) then some t else some r) else q_bs W p t
theorem q_bs_some {W : Nat → Int32} {p : Nat → Bool} : ∀ {n r : Nat}, q_bs W p n = some r → r < n ∧ p r = true
  | 0, _, h => by cases h
  | n + 1, r, h => by
    rw [q_bs] at h
    by_cases hp : p n = true
    · rw [if_pos hp] at h
      cases e : q_bs W p n with
      | none => rw [e] at h; cases h; exact ⟨Nat.lt_succ_self _, hp⟩
      | some s =>
        rw [e] at h
        dsimp only at h
        by_cases hl : W (19 + 10 * s) < W (19 + 10 * n)
        · rw [if_pos hl] at h; cases h; exact ⟨Nat.lt_succ_self _, hp⟩
        · rw [if_neg hl] at h; cases h
          obtain ⟨a, b⟩ := q_bs_some e
          exact ⟨by omega, b⟩
    · rw [if_neg hp] at h
      obtain ⟨a, b⟩ := q_bs_some h
      exact ⟨by omega, b⟩
theorem q_bs_none {W : Nat → Int32} {p : Nat → Bool} : ∀ {n : Nat}, q_bs W p n = none → ∀ i, i < n → p i = false
  | 0, _, i, hi => absurd hi (Nat.not_lt_zero i)
  | n + 1, h, i, hi => by
    rw [q_bs] at h
    by_cases hp : p n = true
    · rw [if_pos hp] at h
      cases e : q_bs W p n with
      | none => rw [e] at h; cases h
      | some s =>
        rw [e] at h
        dsimp only at h
        split at h <;> cases h
    · rw [if_neg hp] at h
      rcases Nat.lt_or_ge i n with hl | hl
      · exact q_bs_none h i hl
      · rw [show i = n by omega]; exact eq_false_of_ne_true hp
theorem q_bs_cong {W : Nat → Int32} {p q : Nat → Bool} : ∀ {n : Nat}, (∀ i, i < n → p i = q i) → q_bs W p n = q_bs W q n
  | 0, _ => rfl
  | n + 1, h => by rw [q_bs, q_bs, q_bs_cong (fun i hi => h i (by omega)), h n (Nat.lt_succ_self n)]
theorem q_bs_hi {W : Nat → Int32} {p : Nat → Bool} {T : Nat} (h : ∀ i, T ≤ i → p i = false) : ∀ c, q_bs W p (T + c) = q_bs W p T
  | 0 => rfl
  | c + 1 => by
    rw [show T + (c + 1) = (T + c) + 1 by omega, q_bs, if_neg (by rw [h _ (by omega)]; decide), q_bs_hi h c]
abbrev Mt := (Nat → Option Nat) × (Nat → Option Nat) × (Nat → Nat)
abbrev Mt.B (σ : Mt) : Nat → Option Nat := σ.1
abbrev Mt.C (σ : Mt) : Nat → Option Nat := σ.2.1
abbrev Mt.A (σ : Mt) : Nat → Nat := σ.2.2
def q_up {α : Type} (f : Nat → α) (k : Nat) (v : α) : Nat → α := fun i => if i = k then v else f i
theorem q_up_s {α : Type} {f : Nat → α} {k : Nat} {v : α} : q_up f k v k = v := if_pos rfl
theorem q_up_n {α : Type} {f : Nat → α} {k i : Nat} {v : α} (h : i ≠ k) : q_up f k v i = f i := if_neg h
/-- what a man has left to ask -/
def q_lf (W : Nat → Int32) (A : Nat → Nat) (m : Nat) : Nat := if m < q_n W 97 then sto (fun t => q_serve W t m && !(A m).testBit t) (q_n W 96) else 0
def q_bt (W : Nat → Int32) (A : Nat → Nat) (m : Nat) : Option Nat := q_bs W (fun t => (q_lf W A m).testBit t) 8
def q_nx (W : Nat → Int32) (σ : Mt) : Option Nat := q_find (fun m => (σ.C m).isNone && decide (q_lf W σ.A m ≠ 0)) 4
def q_rt (W : Nat → Int32) (t m o : Nat) : Bool := decide (q_tell W t o 2 < q_tell W t m 2) || (decide (q_tell W t m 2 = q_tell W t o 2) && decide (m < o))
def q_akA (σ : Mt) (m t : Nat) : Nat → Nat := q_up σ.A m (σ.A m ||| 2 ^ t)
def q_ak1 (σ : Mt) (m t : Nat) : Mt := ⟨q_up σ.B t (some m), q_up σ.C m (some t), q_akA σ m t⟩
def q_ak2 (σ : Mt) (m t o : Nat) : Mt := ⟨q_up σ.B t (some m), q_up (q_up σ.C o none) m (some t), q_akA σ m t⟩
def q_ak3 (σ : Mt) (m t : Nat) : Mt := ⟨σ.B, σ.C, q_akA σ m t⟩
def q_ak (W : Nat → Int32) (σ : Mt) (m : Nat) : Mt := match q_bt W σ.A m with
  | none => σ
  | some t => match σ.B t with
    | none => q_ak1 σ m t
    | some o => if q_rt W t m o = true then q_ak2 σ m t o else q_ak3 σ m t
theorem q_ak_1 {W : Nat → Int32} {σ : Mt} {m t : Nat} (h1 : q_bt W σ.A m = some t) (h2 : σ.B t = none) : q_ak W σ m = q_ak1 σ m t := by
  unfold q_ak; rw [h1]; dsimp only; rw [h2]
theorem q_ak_2 {W : Nat → Int32} {σ : Mt} {m t o : Nat} (h1 : q_bt W σ.A m = some t) (h2 : σ.B t = some o) (h3 : q_rt W t m o = true) : q_ak W σ m = q_ak2 σ m t o := by
  unfold q_ak; rw [h1]; dsimp only; rw [h2]; dsimp only; rw [if_pos h3]
theorem q_ak_3 {W : Nat → Int32} {σ : Mt} {m t o : Nat} (h1 : q_bt W σ.A m = some t) (h2 : σ.B t = some o) (h3 : q_rt W t m o = false) : q_ak W σ m = q_ak3 σ m t := by
  unfold q_ak; rw [h1]; dsimp only; rw [h2]; dsimp only; rw [if_neg (by rw [h3]; decide)]
def q_mr (W : Nat → Int32) : Nat → Mt → Mt
  | 0, σ => σ
  | f + 1, σ => match q_nx W σ with | none => σ | some m => q_mr W f (q_ak W σ m)
def q_m0 : Mt := ⟨fun _ => none, fun _ => none, fun _ => 0⟩
def q_mF (W : Nat → Int32) : Mt := q_mr W 32 q_m0
/-- well formed -/
def q_mw (W : Nat → Int32) (σ : Mt) : Prop := (∀ t m, σ.B t = some m ↔ σ.C m = some t) ∧ (∀ t m, σ.B t = some m → t < q_n W 96 ∧ m < q_n W 97) ∧ ∀ m, σ.A m < 256
theorem q_lf_lt {W : Nat → Int32} {A : Nat → Nat} {m : Nat} (hT : q_n W 96 ≤ 8) : q_lf W A m < 256 := by
  unfold q_lf
  split
  · exact sto_le (m := 8) hT
  · decide
theorem q_lf_tb {W : Nat → Int32} {A : Nat → Nat} {m t : Nat} : (q_lf W A m).testBit t = (decide (m < q_n W 97) && (decide (t < q_n W 96) && (q_serve W t m && !(A m).testBit t))) := by
  unfold q_lf
  by_cases h : m < q_n W 97
  · rw [if_pos h, sto_tb, decide_eq_true h, Bool.true_and]
  · rw [if_neg h, Nat.zero_testBit, decide_eq_false h, Bool.false_and]
theorem q_bt_some {W : Nat → Int32} {A : Nat → Nat} {m t : Nat} (h : q_bt W A m = some t) : t < q_n W 96 ∧ m < q_n W 97 ∧ q_serve W t m = true ∧ (A m).testBit t = false ∧ (q_lf W A m).testBit t = true := by
  obtain ⟨_, h2⟩ := q_bs_some h
  have h3 := h2
  rw [q_lf_tb, Bool.and_eq_true, Bool.and_eq_true, Bool.and_eq_true, decide_eq_true_eq, decide_eq_true_eq, Bool.not_eq_true'] at h3
  exact ⟨h3.2.1, h3.1, h3.2.2.1, h3.2.2.2, h2⟩
theorem q_bt_none {W : Nat → Int32} {A : Nat → Nat} {m : Nat} (hT : q_n W 96 ≤ 8) (h : q_bt W A m = none) : q_lf W A m = 0 := by
  apply Nat.eq_of_testBit_eq
  intro i
  rw [Nat.zero_testBit]
  rcases Nat.lt_or_ge i 8 with hl | hl
  · exact q_bs_none h i hl
  · rw [q_lf_tb, decide_eq_false (show ¬ i < q_n W 96 by omega), Bool.false_and, Bool.and_false]
theorem q_bt_0 {W : Nat → Int32} {A : Nat → Nat} {m : Nat} (h : q_lf W A m = 0) : q_bt W A m = none := by
  cases e : q_bt W A m with
  | none => rfl
  | some t =>
    have := (q_bt_some e).2.2.2.2
    rw [h, Nat.zero_testBit] at this; cases this
theorem q_lf_up {W : Nat → Int32} {A : Nat → Nat} {m m' v : Nat} (h : m' ≠ m) : q_lf W (q_up A m v) m' = q_lf W A m' := by
  unfold q_lf
  rw [q_up_n h]
theorem q_lf_rm {W : Nat → Int32} {σ : Mt} {m t : Nat} (hT : q_n W 96 ≤ 8) : q_lf W (q_akA σ m t) m = q_lf W σ.A m &&& (2 ^ t ^^^ 4294967295) := by
  apply Nat.eq_of_testBit_eq
  intro i
  rw [Nat.testBit_and, q_lf_tb, q_lf_tb, Nat.testBit_xor, pow_tb, show 4294967295 = 2 ^ 32 - 1 from rfl, Nat.testBit_two_pow_sub_one]
  unfold q_akA
  rw [q_up_s, Nat.testBit_or, pow_tb]
  by_cases hi : i < q_n W 96
  · rw [decide_eq_true hi, decide_eq_true (show i < 32 by omega), Bool.xor_true]
    cases decide (m < q_n W 97) <;> cases q_serve W i m <;> cases (σ.A m).testBit i <;> cases decide (i = t) <;> rfl
  · rw [decide_eq_false hi, Bool.false_and, Bool.false_and, Bool.and_false, Bool.false_and]
/-- how much is left to ask -/
def q_mu (W : Nat → Int32) (A : Nat → Nat) : Nat := q_sum (fun m => q_bc (q_lf W A m)) 4
theorem cnt_less {p q : Nat → Bool} {t : Nat} : ∀ {n : Nat}, t < n → (∀ i, i < n → p i = true → q i = true) → p t = false → q t = true → cnt p n + 1 ≤ cnt q n
  | 0, ht, _, _, _ => absurd ht (Nat.not_lt_zero t)
  | n + 1, ht, h, hp, hq => by
    show cnt p n + (p n).toNat + 1 ≤ cnt q n + (q n).toNat
    by_cases e : t = n
    · subst e
      have h1 := cnt_mono (p := p) (q := q) (n := t) (fun i hi => h i (by omega))
      rw [hp, hq]
      have : false.toNat = 0 := rfl
      have : true.toNat = 1 := rfl
      omega
    · have h1 := cnt_less (p := p) (q := q) (n := n) (t := t) (by omega) (fun i hi => h i (by omega)) hp hq
      have h2 : (p n).toNat ≤ (q n).toNat := by
        cases e : p n with
        | false => exact Nat.zero_le _
        | true => rw [h n (Nat.lt_succ_self n) e]; exact Nat.le_refl _
      omega
theorem q_sum_less {f g : Nat → Nat} {i : Nat} : ∀ {n : Nat}, i < n → (∀ j, j < n → f j ≤ g j) → f i + 1 ≤ g i → q_sum f n + 1 ≤ q_sum g n
  | 0, h, _, _ => absurd h (Nat.not_lt_zero i)
  | n + 1, h, hle, hi => by
    show q_sum f n + f n + 1 ≤ q_sum g n + g n
    by_cases e : i = n
    · subst e
      have := q_sum_le (f := f) (g := g) (n := i) (fun j hj => hle j (by omega))
      omega
    · have h1 := q_sum_less (f := f) (g := g) (n := n) (i := i) (by omega) (fun j hj => hle j (by omega)) hi
      have h2 := hle n (Nat.lt_succ_self n)
      omega
theorem q_mu_less {W : Nat → Int32} {σ : Mt} {m t : Nat} (hT : q_n W 96 ≤ 8) (hN : q_n W 97 ≤ 4) (h : q_bt W σ.A m = some t) : q_mu W (q_akA σ m t) + 1 ≤ q_mu W σ.A := by
  obtain ⟨h1, h2, h3, h4, h5⟩ := q_bt_some h
  have tb : ∀ i, (q_lf W (q_akA σ m t) m).testBit i = true → (q_lf W σ.A m).testBit i = true := by
    intro i hi
    rw [q_lf_rm hT, Nat.testBit_and, Bool.and_eq_true] at hi
    exact hi.1
  have l1 : q_bc (q_lf W (q_akA σ m t) m) + 1 ≤ q_bc (q_lf W σ.A m) := by
    unfold q_bc
    refine cnt_less (t := t) (by omega) (fun i _ => tb i) ?_ h5
    rw [q_lf_tb]
    unfold q_akA
    rw [q_up_s, Nat.testBit_or, pow_tb, decide_eq_true rfl, Bool.or_true, Bool.not_true, Bool.and_false, Bool.and_false, Bool.and_false]
  refine q_sum_less (i := m) (by omega) (fun j _ => ?_) l1
  by_cases e : j = m
  · subst e; omega
  · unfold q_akA
    rw [q_lf_up e]; exact Nat.le_refl _
theorem q_ak_A {W : Nat → Int32} {σ : Mt} {m t : Nat} (h : q_bt W σ.A m = some t) : (q_ak W σ m).A = q_akA σ m t := by
  cases e : σ.B t with
  | none => rw [q_ak_1 h e]; rfl
  | some o =>
    cases e2 : q_rt W t m o with
    | true => rw [q_ak_2 h e e2]; rfl
    | false => rw [q_ak_3 h e e2]; rfl
theorem q_akA_lt {W : Nat → Int32} {σ : Mt} {m t : Nat} (hT : q_n W 96 ≤ 8) (h : q_mw W σ) (hb : q_bt W σ.A m = some t) : ∀ k, q_akA σ m t k < 256 := by
  intro k
  unfold q_akA
  by_cases e : k = m
  · subst e
    rw [q_up_s]
    have h1 := (q_bt_some hb).1
    have h2 : 2 ^ t < 2 ^ 8 := Nat.pow_lt_pow_right (by decide) (by omega)
    exact Nat.or_lt_two_pow (n := 8) (h.2.2 k) h2
  · rw [q_up_n e]; exact h.2.2 k
theorem q_mw.ak {W : Nat → Int32} {σ : Mt} {m t : Nat} (hT : q_n W 96 ≤ 8) (h : q_mw W σ) (hc : σ.C m = none) (hb : q_bt W σ.A m = some t) : q_mw W (q_ak W σ m) := by
  obtain ⟨b1, b2, _⟩ := q_bt_some hb
  have hA := q_akA_lt hT h hb
  obtain ⟨g1, g2, g3⟩ := h
  cases e : σ.B t with
  | none =>
    rw [q_ak_1 hb e]
    refine ⟨fun t' m' => ?_, fun t' m' hh => ?_, hA⟩
    · show q_up σ.B t (some m) t' = some m' ↔ q_up σ.C m (some t) m' = some t'
      by_cases et : t' = t
      · subst et
        rw [q_up_s]
        by_cases em : m' = m
        · subst em; rw [q_up_s]; exact ⟨fun _ => rfl, fun _ => rfl⟩
        · rw [q_up_n em, ← g1, e]
          exact ⟨fun hh => absurd (Option.some.inj hh).symm em, fun hh => (by cases hh)⟩
      · rw [q_up_n et]
        by_cases em : m' = m
        · subst em
          rw [q_up_s, g1, hc]
          exact ⟨fun hh => (by cases hh), fun hh => absurd (Option.some.inj hh).symm et⟩
        · rw [q_up_n em]; exact g1 t' m'
    · have hh2 : q_up σ.B t (some m) t' = some m' := hh
      by_cases et : t' = t
      · subst et
        rw [q_up_s] at hh2
        cases hh2
        exact ⟨b1, b2⟩
      · rw [q_up_n et] at hh2; exact g2 t' m' hh2
  | some o =>
    have ho := (g1 t o).mp e
    have hom : o ≠ m := fun hh => by rw [hh, hc] at ho; cases ho
    cases e2 : q_rt W t m o with
    | false => rw [q_ak_3 hb e e2]; exact ⟨g1, g2, hA⟩
    | true =>
      rw [q_ak_2 hb e e2]
      refine ⟨fun t' m' => ?_, fun t' m' hh => ?_, hA⟩
      · show q_up σ.B t (some m) t' = some m' ↔ q_up (q_up σ.C o none) m (some t) m' = some t'
        by_cases et : t' = t
        · subst et
          rw [q_up_s]
          by_cases em : m' = m
          · subst em; rw [q_up_s]; exact ⟨fun _ => rfl, fun _ => rfl⟩
          · rw [q_up_n em]
            by_cases eo : m' = o
            · subst eo
              rw [q_up_s]
              exact ⟨fun hh => absurd (Option.some.inj hh).symm em, fun hh => (by cases hh)⟩
            · rw [q_up_n eo, ← g1, e]
              exact ⟨fun hh => absurd (Option.some.inj hh).symm em, fun hh => absurd (Option.some.inj hh).symm eo⟩
        · rw [q_up_n et]
          by_cases em : m' = m
          · subst em
            rw [q_up_s, g1, hc]
            exact ⟨fun hh => (by cases hh), fun hh => absurd (Option.some.inj hh).symm et⟩
          · rw [q_up_n em]
            by_cases eo : m' = o
            · subst eo
              rw [q_up_s, g1, ho]
              exact ⟨fun hh => absurd (Option.some.inj hh).symm et, fun hh => (by cases hh)⟩
            · rw [q_up_n eo]; exact g1 t' m'
      · have hh2 : q_up σ.B t (some m) t' = some m' := hh
        by_cases et : t' = t
        · subst et
          rw [q_up_s] at hh2
          cases hh2
          exact ⟨b1, b2⟩
        · rw [q_up_n et] at hh2; exact g2 t' m' hh2
theorem q_m0_w {W : Nat → Int32} : q_mw W q_m0 := ⟨fun _ _ => ⟨fun h => (by cases h), fun h => (by cases h)⟩, fun _ _ h => (by cases h), fun _ => (show 0 < 256 by decide)⟩
theorem q_mu_0 {W : Nat → Int32} : q_mu W q_m0.A ≤ 32 := by
  have := q_sum_bd (f := fun m => q_bc (q_lf W q_m0.A m)) (c := 8) (n := 4) (fun m _ => cnt_le _ _)
  unfold q_mu; omega
theorem q_nx_some {W : Nat → Int32} {σ : Mt} {m : Nat} (h : q_nx W σ = some m) : m < 4 ∧ σ.C m = none ∧ q_lf W σ.A m ≠ 0 := by
  obtain ⟨h1, h2, _⟩ := q_find_some h
  rw [Bool.and_eq_true, decide_eq_true_eq, Option.isNone_iff_eq_none] at h2
  exact ⟨h1, h2.1, h2.2⟩
theorem q_lf_bt {W : Nat → Int32} {A : Nat → Nat} {m : Nat} (hT : q_n W 96 ≤ 8) (h : q_lf W A m ≠ 0) : ∃ t, q_bt W A m = some t := by
  cases e : q_bt W A m with
  | none => exact absurd (q_bt_none hT e) h
  | some t => exact ⟨t, rfl⟩
theorem q_mr_w {W : Nat → Int32} (hT : q_n W 96 ≤ 8) : ∀ {f : Nat} {σ : Mt}, q_mw W σ → q_mw W (q_mr W f σ)
  | 0, _, h => h
  | f + 1, σ, h => by
    rw [q_mr]
    cases e : q_nx W σ with
    | none => exact h
    | some m =>
      obtain ⟨_, h2, h3⟩ := q_nx_some e
      obtain ⟨t, ht⟩ := q_lf_bt hT h3
      exact q_mr_w hT (h.ak hT h2 ht)
variable {X : KXw} {n tot kn D : Nat} {kx : Nat → Nat × Nat} {M : MMw}
theorem c_sharpest (hD : 2 ≤ D) {W : Nat → Int32} {s : Nat} (hs : s < 256) (h : CRm M 10 W) : callw X D 187 [.inr (.inl 10), .inl (nI s)] (Gk n tot kn kx) M = some (q_oI (q_bs W (fun t => s.testBit t) 8), Gk n tot kn kx, M) :=
  Sq.eq (Sq.mk (k := 1) hD (fun D' hD' => by
    refine Lq.of (t_187_p10_0_ok X (callw X D') n tot kn kx _ M) ?_
    unfold t_187_p10_0
    simp only [o_nI]
    rw [Wq_jmp]
    have loop : ∀ (c t : Nat), t + c = 8 → Lq X (callw X D') 187 4 [some (.inr (.inl 10)), some (.inl (nI s)), some (.inl (q_oI (q_bs W (fun t => s.testBit t) t))), some (.inl (nI t))] (Gk n tot kn kx) M (fun x M' => x = q_oI (q_bs W (fun t => s.testBit t) 8) ∧ M' = M) := by
      intro c
      induction c with
      | zero =>
        intro t ht
        refine Lq.of (t_187_p10_4_ok X (callw X D') n tot kn kx _ _ _ M) ?_
        unfold t_187_p10_4
        simp only [o_nI]
        rw [if_neg (by rw [lt_i (by omega) (by omega)]; omega), Wq_ret, show t = 8 by omega]
        exact ⟨rfl, rfl⟩
      | succ c ih =>
        intro t ht
        refine Lq.of (t_187_p10_4_ok X (callw X D') n tot kn kx _ _ _ M) ?_
        unfold t_187_p10_4
        have t8 : t < 8 := by omega
        have ed : ∀ k, k < 8 → M 11 k = W (19 + 10 * k) := fun k hk => h.2.2.2.2.1 k hk
        have hn := ih (t + 1) (by omega)
        rw [q_bs] at hn
        simp only [o_nI]
        rw [if_pos (by rw [lt_i (by omega) (by omega)]; omega), c_isIn (by omega), bnd_some, q_bit_nI (by omega) (by omega)]
        cases hb : s.testBit t with
        | false =>
          rw [hb, if_neg (by decide)] at hn
          rw [if_pos (by rfl), Wq_jmp, i1_nI, nI_add]
          exact hn
        | true =>
          rw [hb, if_pos rfl] at hn
          rw [if_neg (by decide +kernel)]
          cases hq : q_bs W (fun t => s.testBit t) t with
          | none =>
            rw [hq] at hn
            rw [if_pos (by rw [m1n]; rfl), Wq_jmp, i1_nI, nI_add]
            exact hn
          | some r =>
            have hr := (q_bs_some hq).1
            rw [hq] at hn
            dsimp only at hn
            have e : q_oI (some r) = nI r := rfl
            rw [e, if_neg (by rw [m1n, nI_nm1 (by omega)]; exact id), inb_nI t8 (by decide), inb_nI (show r < 8 by omega) (by decide), if_pos rfl, if_pos rfl, nI_clamp (by omega), nI_clamp (by omega), ed r (by omega), ed t t8]
            by_cases g : W (19 + 10 * r) < W (19 + 10 * t)
            · rw [if_pos g] at hn
              rw [if_pos g, Wq_jmp, i1_nI, nI_add]
              exact hn
            · rw [if_neg g] at hn
              rw [if_neg g, Wq_jmp, i1_nI, nI_add]
              exact hn
    exact loop 8 0 (by omega)))
theorem c_rather (hD : 4 ≤ D) {W : Nat → Int32} {t m o : Nat} (ht : t < 8) (hm : m < 4) (ho : o < 4) (h : CX M 10 W) : Sq X D 188 [.inr (.inl 131), .inr (.inl 1), .inr (.inl 120), .inl (nI t), .inl (nI m), .inl (nI o)] (Gk n tot kn kx) M (fun x M' => x = b2i (q_rt W t m o) ∧ Fr [121, 122] M M') :=
  Sq.mk (k := 3) hD (fun D' hD' => by
    refine Lq.of (t_188_p131_p1_p120_0_ok X (callw X D') n tot kn kx _ _ _ M) ?_
    unfold t_188_p131_p1_p120_0
    simp only [o_nI]
    refine Wq.call (c_tell10 (by omega) ht hm (show 2 < 3 by decide) h) ?_
    rintro x M1 ⟨rfl, f1⟩
    refine Wq.call (c_tell10 (by omega) ht ho (show 2 < 3 by decide) (h.fr f1 (by decide))) ?_
    rintro x M2 ⟨rfl, f2⟩
    unfold q_rt
    by_cases g1 : q_tell W t o 2 < q_tell W t m 2
    · rw [if_pos g1, Wq_ret, decide_eq_true g1]; exact ⟨rfl, f1.tr f2⟩
    · rw [if_neg g1, decide_eq_false g1]
      by_cases g2 : q_tell W t m 2 = q_tell W t o 2
      · rw [if_pos g2, decide_eq_true g2]
        by_cases g3 : m < o
        · rw [if_pos (by rw [lt_i (by omega) (by omega)]; exact g3), Wq_ret, decide_eq_true g3]; exact ⟨rfl, f1.tr f2⟩
        · rw [if_neg (by rw [lt_i (by omega) (by omega)]; exact g3), Wq_ret, decide_eq_false g3]; exact ⟨rfl, f1.tr f2⟩
      · rw [if_neg g2, decide_eq_false g2, Wq_ret]; exact ⟨rfl, f1.tr f2⟩)
/-- the class's three rows -/
def ClR (W : Nat → Int32) (M : MMw) (σ : Mt) : Prop := (∀ t, t < 8 → M 132 t = q_oI (σ.B t)) ∧ ∀ m, m < 4 → M 133 m = q_oI (σ.C m) ∧ M 134 m = nI (q_lf W σ.A m)
theorem c_next (hD : 1 ≤ D) {W : Nat → Int32} {σ : Mt} (hT : q_n W 96 ≤ 8) (hC : ∀ m t, σ.C m = some t → t < 8) (h : ClR W M σ) : callw X D 186 [.inr (.inl 131)] (Gk n tot kn kx) M = some (q_oI (q_nx W σ), Gk n tot kn kx, M) :=
  Sq.eq (Sq.mk (k := 0) hD (fun D' hD' => by
    refine Lq.of (t_186_p131_0_ok X (callw X D') n tot kn kx M) ?_
    unfold t_186_p131_0
    simp only [o_nI]
    rw [Wq_jmp]
    have loop : ∀ (c m : Nat), m + c = 4 → (∀ j, j < m → ((σ.C j).isNone && decide (q_lf W σ.A j ≠ 0)) = false) → Lq X (callw X D') 186 2 [some (.inr (.inl 131)), some (.inl (nI m))] (Gk n tot kn kx) M (fun x M' => x = q_oI (q_nx W σ) ∧ M' = M) := by
      intro c
      induction c with
      | zero =>
        intro m hm hno
        refine Lq.of (t_186_p131_2_ok X (callw X D') n tot kn kx _ M) ?_
        unfold t_186_p131_2
        simp only [o_nI]
        rw [if_neg (by rw [lt_i (by omega) (by omega)]; omega), Wq_ret]
        refine ⟨?_, rfl⟩
        unfold q_nx
        rw [q_find_none.mpr (fun j hj => hno j (by omega)), m1n]
        rfl
      | succ c ih =>
        intro m hm hno
        refine Lq.of (t_186_p131_2_ok X (callw X D') n tot kn kx _ M) ?_
        unfold t_186_p131_2
        have m4 : m < 4 := by omega
        obtain ⟨e1, e2⟩ := h.2 m m4
        have hlt := q_lf_lt (W := W) (A := σ.A) (m := m) hT
        have hn : ((σ.C m).isNone && decide (q_lf W σ.A m ≠ 0)) = false → _ := fun hh => ih (m + 1) (by omega) (fun j hj => by
          rcases Nat.lt_or_ge j m with hl | hl
          · exact hno j hl
          · rw [show j = m by omega]; exact hh)
        simp only [o_nI, z_nI]
        rw [if_pos (by rw [lt_i (by omega) (by omega)]; omega), inb_nI m4 (by decide), if_pos rfl, nI_clamp (by omega), e1, e2]
        cases hc : σ.C m with
        | none =>
          rw [if_pos (by rw [m1n]; rfl), if_pos rfl]
          by_cases h0 : q_lf W σ.A m = 0
          · rw [if_pos (by rw [h0]), Wq_jmp, i1_nI, nI_add]
            exact hn (by rw [decide_eq_false (fun hh => hh h0), Bool.and_false])
          · rw [if_neg (by rw [eq_i (by omega) (by omega)]; exact h0), Wq_ret]
            refine ⟨?_, rfl⟩
            unfold q_nx
            rw [q_find_at hno (by rw [hc, decide_eq_true h0]; rfl) m4]
            rfl
        | some t =>
          have ht := hC m t hc
          have e : q_oI (some t) = nI t := rfl
          rw [e, if_neg (by rw [m1n, nI_nm1 (by omega)]; exact id), Wq_jmp, i1_nI, nI_add]
          exact hn (by rw [hc]; rfl)
    exact loop 4 0 (by omega) (fun j hj => absurd hj (Nat.not_lt_zero j))))

theorem c_ask (hD : 5 ≤ D) {W : Nat → Int32} {σ : Mt} {m : Nat} (hw : q_mw W σ) (hX : CX M 10 W) (h : ClR W M σ) (hc : σ.C m = none) (h0 : q_lf W σ.A m ≠ 0) : Sq X D 189 [.inr (.inl 131), .inr (.inl 1), .inr (.inl 120), .inl (nI m)] (Gk n tot kn kx) M (fun _ M' => ClR W M' (q_ak W σ m) ∧ Fr [121, 122, 132, 133, 134] M M') :=
  Sq.mk (k := 4) hD (fun D' hD' => by
    have w96 := hX.2.2.1.1.1.2
    have w97 := hX.2.2.1.1.2.1.2
    obtain ⟨t, hb⟩ := q_lf_bt (by omega) h0
    obtain ⟨b1, b2, b3, b4, b5⟩ := q_bt_some hb
    have m4 : m < 4 := by omega
    have t8 : t < 8 := by omega
    obtain ⟨h1, h2⟩ := h
    have hlt := q_lf_lt (W := W) (A := σ.A) (m := m) (by omega)
    have erm := q_lf_rm (W := W) (σ := σ) (m := m) (t := t) (by omega)
    have hqb : q_bs W (fun t => (q_lf W σ.A m).testBit t) 8 = some t := hb
    refine Lq.of (t_189_p131_p1_p120_0_ok X (callw X D') n tot kn kx _ M) ?_
    unfold t_189_p131_p1_p120_0
    simp only [o_nI, z_nI, m1n]
    rw [inb_nI m4 (by decide), if_pos rfl, nI_clamp (by omega), (h2 m m4).2, c_sharpest (by omega) hlt hX.2.1, hqb, bnd_some]
    have e : q_oI (some t) = nI t := rfl
    have els : nI (q_lf W σ.A m) &&& (nI (1 * 2 ^ t) ^^^ -1) = nI (q_lf W (q_akA σ m t) m) := by
      rw [erm, Nat.one_mul, nI_not, nI_and]
    rw [e, if_neg (by rw [nI_nm1 (by omega)]; exact id), if_pos rfl, if_pos rfl, inb_nI t8 (by decide), if_pos rfl, if_pos rfl, nI_clamp (by omega), (h2 m m4).2, h1 t t8, nI_shl (by omega), els]
    have lf : ∀ k, k ≠ m → q_lf W (q_akA σ m t) k = q_lf W σ.A k := fun k hk => by unfold q_akA; exact q_lf_up hk
    cases hB : σ.B t with
    | none =>
      rw [if_pos (by decide +kernel), if_pos rfl, Wq_ret, q_ak_1 hb hB]
      refine ⟨⟨fun t' ht' => ?_, fun m' hm' => ?_⟩, (((Fr.rf.up (by decide)).up (by decide)).up (by decide))⟩
      · rw [up_ne (by decide), up_at]
        show upW (up M 134 m _ 132) t (nI m) t' = q_oI (q_up σ.B t (some m) t')
        by_cases et : t' = t
        · subst et; rw [upW_s, q_up_s]; rfl
        · rw [upW_n et, q_up_n et, up_ne (by decide)]; exact h1 t' ht'
      · show _ = q_oI (q_up σ.C m (some t) m') ∧ _ = nI (q_lf W (q_akA σ m t) m')
        rw [up_at, up_ne (by decide), up_ne (by decide), up_ne (by decide), up_ne (by decide), up_at]
        by_cases em : m' = m
        · subst em; rw [upW_s, upW_s, q_up_s]; exact ⟨rfl, rfl⟩
        · rw [upW_n em, upW_n em, q_up_n em, lf m' em]; exact h2 m' hm'
    | some o =>
      have ho4 : o < 4 := by have := (hw.2.1 t o hB).2; omega
      have hom : o ≠ m := fun hh => by
        have := (hw.1 t o).mp hB
        rw [hh, hc] at this; cases this
      have eo : q_oI (some o) = nI o := rfl
      rw [eo, if_neg (by rw [lt_i (by omega) (by omega)]; omega), if_pos (by rw [lt_i (by omega) (by omega)]; exact ho4)]
      refine Wq.call (c_rather hD' t8 m4 ho4 (hX.fr (Fr.rf.up (L := [134]) (by decide)) (by decide))) ?_
      rintro x M4 ⟨rfl, f4⟩
      have f0 : Fr [121, 122, 134] M M4 := ((Fr.rf.up (by decide)).tr (f4.mono (by decide)))
      have g2 : M4 132 = M 132 := f0 132 (by decide)
      have g3 : M4 133 = M 133 := f0 133 (by decide)
      have g4 : M4 134 = upW (M 134) m (nI (q_lf W (q_akA σ m t) m)) := by rw [f4 134 (by decide), up_at]
      cases hr : q_rt W t m o with
      | false =>
        rw [if_pos (by rfl), Wq_ret, q_ak_3 hb hB hr]
        refine ⟨⟨fun t' ht' => by rw [g2]; exact h1 t' ht', fun m' hm' => ?_⟩, f0.mono (by decide)⟩
        show _ = q_oI (σ.C m') ∧ _ = nI (q_lf W (q_akA σ m t) m')
        rw [g3, g4]
        refine ⟨(h2 m' hm').1, ?_⟩
        by_cases em : m' = m
        · subst em; rw [upW_s]
        · rw [upW_n em, lf m' em]; exact (h2 m' hm').2
      | true =>
        rw [if_neg (by decide +kernel), inb_nI ho4 (by decide), if_pos rfl, if_pos rfl, if_pos rfl, Wq_ret, q_ak_2 hb hB hr, nI_clamp (by omega)]
        refine ⟨⟨fun t' ht' => ?_, fun m' hm' => ?_⟩, ((((f0.mono (by decide)).up (by decide)).up (by decide)).up (by decide))⟩
        · rw [up_ne (by decide), up_at, up_ne (by decide), g2]
          show upW (M 132) t (nI m) t' = q_oI (q_up σ.B t (some m) t')
          by_cases et : t' = t
          · subst et; rw [upW_s, q_up_s]; rfl
          · rw [upW_n et, q_up_n et]; exact h1 t' ht'
        · show _ = q_oI (q_up (q_up σ.C o none) m (some t) m') ∧ _ = nI (q_lf W (q_akA σ m t) m')
          rw [up_at, up_ne (by decide), up_at, up_ne (by decide), up_ne (by decide), up_ne (by decide), g3, g4]
          by_cases em : m' = m
          · subst em; rw [upW_s, upW_s, q_up_s]; exact ⟨rfl, rfl⟩
          · rw [upW_n em, upW_n em, q_up_n em, lf m' em]
            refine ⟨?_, (h2 m' hm').2⟩
            by_cases eo2 : m' = o
            · subst eo2; rw [upW_s, q_up_s]; rfl
            · rw [upW_n eo2, q_up_n eo2]; exact (h2 m' hm').1)
theorem c_match (hD : 6 ≤ D) {W : Nat → Int32} (hX : CX M 10 W) : Sq X D 190 [.inr (.inl 131), .inr (.inl 1), .inr (.inl 120)] (Gk n tot kn kx) M (fun _ M' => ClR W M' (q_mF W) ∧ Fr [121, 122, 132, 133, 134] M M') :=
  Sq.mk (k := 5) hD (fun D' hD' => by
    have w96 := hX.2.2.1.1.1.2
    obtain ⟨w3, w97⟩ := hX.2.2.1.1.2.1
    have e21 : M 2 1 = nI (q_n W 97) := by rw [hX.1.1.2.1]; exact w3
    refine Lq.of (t_190_p131_p1_p120_0_ok X (callw X D') n tot kn kx M) ?_
    unfold t_190_p131_p1_p120_0
    simp only [o_nI]
    rw [Wq_jmp]
    have run : ∀ (c k : Nat) (σ : Mt) (M1 : MMw), k + c = 32 → Fr [121, 122, 132, 133, 134] M M1 → q_mw W σ → ClR W M1 σ → q_mr W c σ = q_mF W → Lq X (callw X D') 190 70 [some (.inr (.inl 131)), some (.inr (.inl 1)), some (.inr (.inl 120)), some (.inl (nI k)), none] (Gk n tot kn kx) M1 (fun _ M' => ClR W M' (q_mF W) ∧ Fr [121, 122, 132, 133, 134] M M') := by
      intro c
      induction c with
      | zero =>
        intro k σ M1 hk hf hw hR hm
        refine Lq.of (t_190_p131_p1_p120_70_ok X (callw X D') n tot kn kx _ M1) ?_
        unfold t_190_p131_p1_p120_70
        simp only [o_nI]
        rw [if_neg (by rw [lt_i (by omega) (by omega)]; omega), Wq_ret, ← hm]
        exact ⟨hR, hf⟩
      | succ c ih =>
        intro k σ M1 hk hf hw hR hm
        refine Lq.of (t_190_p131_p1_p120_70_ok X (callw X D') n tot kn kx _ M1) ?_
        unfold t_190_p131_p1_p120_70
        simp only [o_nI]
        rw [if_pos (by rw [lt_i (by omega) (by omega)]; omega), c_next (by omega) (by omega) (fun m t hh => by have := (hw.2.1 t m ((hw.1 t m).mpr hh)).1; omega) hR, bnd_some]
        rw [q_mr] at hm
        cases hn : q_nx W σ with
        | none =>
          rw [hn] at hm
          dsimp only at hm
          rw [if_pos (by rw [m1n]; rfl), Wq_ret, ← hm]
          exact ⟨hR, hf⟩
        | some m =>
          rw [hn] at hm
          dsimp only at hm
          obtain ⟨m4, m1, m2⟩ := q_nx_some hn
          have e : q_oI (some m) = nI m := rfl
          rw [e, if_neg (by rw [m1n, nI_nm1 (by omega)]; exact id)]
          refine Wq.call (c_ask hD' hw (hX.fr hf (by decide)) hR m1 m2) ?_
          rintro x M2 ⟨hR2, f2⟩
          obtain ⟨t, ht⟩ := q_lf_bt (by omega) m2
          rw [Wq_jmp, i1_nI, nI_add]
          exact ih (k + 1) _ M2 (by omega) (hf.tr f2) (hw.ak (by omega) m1 ht) hR2 hm
    have lay2 : ∀ (c m : Nat) (M1 : MMw), m + c = 4 → Fr [121, 122, 132, 133, 134] M M1 → (∀ t, t < 8 → M1 132 t = -1) → (∀ k, k < m → M1 133 k = -1 ∧ M1 134 k = nI (q_lf W q_m0.A k)) → Lq X (callw X D') 190 23 [some (.inr (.inl 131)), some (.inr (.inl 1)), some (.inr (.inl 120)), some (.inl (nI m)), none] (Gk n tot kn kx) M1 (fun _ M' => ClR W M' (q_mF W) ∧ Fr [121, 122, 132, 133, 134] M M') := by
      intro c
      induction c with
      | zero =>
        intro m M1 hm hf hB hC
        refine Lq.of (t_190_p131_p1_p120_23_ok X (callw X D') n tot kn kx _ M1) ?_
        unfold t_190_p131_p1_p120_23
        simp only [o_nI]
        rw [if_neg (by rw [lt_i (by omega) (by omega)]; omega), Wq_jmp]
        exact run 32 0 q_m0 M1 (by omega) hf q_m0_w ⟨hB, fun k hk => hC k (by omega)⟩ rfl
      | succ c ih =>
        intro m M1 hm hf hB hC
        refine Lq.of (t_190_p131_p1_p120_23_ok X (callw X D') n tot kn kx _ M1) ?_
        unfold t_190_p131_p1_p120_23
        have m4 : m < 4 := by omega
        simp only [o_nI, m1n]
        rw [if_pos (by rw [lt_i (by omega) (by omega)]; omega), inb_nI m4 (by decide), if_pos rfl, if_pos rfl, nI_clamp (by omega)]
        have e21b : M1 2 1 = nI (q_n W 97) := by rw [hf 2 (by decide)]; exact e21
        rw [e21b]
        by_cases hN : m < q_n W 97
        · rw [if_pos (by rw [lt_i (by omega) (by omega)]; exact hN)]
          have f1 : Fr [121, 122, 132, 133, 134] M (up M1 133 m (-1)) := hf.up (by decide)
          refine Wq.call (c_toolsServing hD' m4 (hX.fr f1 (by decide))) ?_
          rintro x M2 ⟨rfl, f2⟩
          rw [if_pos rfl, Wq_jmp, i1_nI, nI_add]
          refine ih (m + 1) _ (by omega) ((f1.tr (f2.mono (by decide))).up (by decide)) (fun t ht => ?_) (fun k hk => ?_)
          · rw [up_ne (by decide), f2 132 (by decide), up_ne (by decide)]; exact hB t ht
          · rw [up_ne (by decide), up_at, f2 133 (by decide), f2 134 (by decide), up_at, up_ne (by decide)]
            by_cases e : k = m
            · subst e
              rw [upW_s, upW_s]
              refine ⟨rfl, ?_⟩
              unfold q_lf q_ts
              rw [if_pos hN]
              rw [sto_cong (fun t _ => by
                show q_serve W t k = (q_serve W t k && !(0 : Nat).testBit t)
                rw [Nat.zero_testBit, Bool.not_false, Bool.and_true])]
              rfl
            · rw [upW_n e, upW_n e]; exact hC k (by omega)
        · rw [if_neg (by rw [lt_i (by omega) (by omega)]; exact hN), Wq_jmp, i1_nI, nI_add]
          refine ih (m + 1) _ (by omega) ((hf.up (by decide)).up (by decide)) (fun t ht => ?_) (fun k hk => ?_)
          · rw [up_ne (by decide), up_ne (by decide)]; exact hB t ht
          · rw [up_ne (by decide), up_at, up_at, up_ne (by decide)]
            by_cases e : k = m
            · subst e
              rw [upW_s, upW_s]
              refine ⟨rfl, ?_⟩
              unfold q_lf
              rw [if_neg hN]
            · rw [upW_n e, upW_n e]; exact hC k (by omega)
    have lay1 : ∀ (c t : Nat) (M1 : MMw), t + c = 8 → Fr [121, 122, 132, 133, 134] M M1 → (∀ k, k < t → M1 132 k = -1) → Lq X (callw X D') 190 2 [some (.inr (.inl 131)), some (.inr (.inl 1)), some (.inr (.inl 120)), some (.inl (nI t)), none] (Gk n tot kn kx) M1 (fun _ M' => ClR W M' (q_mF W) ∧ Fr [121, 122, 132, 133, 134] M M') := by
      intro c
      induction c with
      | zero =>
        intro t M1 ht hf hB
        refine Lq.of (t_190_p131_p1_p120_2_ok X (callw X D') n tot kn kx _ M1) ?_
        unfold t_190_p131_p1_p120_2
        simp only [o_nI]
        rw [if_neg (by rw [lt_i (by omega) (by omega)]; omega), Wq_jmp]
        exact lay2 4 0 M1 (by omega) hf (fun k hk => hB k (by omega)) (fun k hk => absurd hk (Nat.not_lt_zero k))
      | succ c ih =>
        intro t M1 ht hf hB
        refine Lq.of (t_190_p131_p1_p120_2_ok X (callw X D') n tot kn kx _ M1) ?_
        unfold t_190_p131_p1_p120_2
        simp only [o_nI, m1n]
        rw [if_pos (by rw [lt_i (by omega) (by omega)]; omega), inb_nI (show t < 8 by omega) (by decide), if_pos rfl, nI_clamp (by omega), Wq_jmp, i1_nI, nI_add]
        refine ih (t + 1) _ (by omega) (hf.up (by decide)) (fun k hk => ?_)
        rw [up_at]
        by_cases e : k = t
        · subst e; rw [upW_s]
        · rw [upW_n e]; exact hB k (by omega)
    exact lay1 8 0 M (by omega) Fr.rf (fun k hk => absurd hk (Nat.not_lt_zero k)))
end
