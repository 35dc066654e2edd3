section
-- needs: bits
/-! the pure picture: W is the row w of the reference model; what its laws say -/
/-- the number at i -/
def q_n (W : Nat → Int32) (i : Nat) : Nat := (W i).toNatClampNeg
def q_bit (s i : Int32) : Bool := decide ((s >>> (i &&& 31)) &&& nI 1 = nI 1)
def q_rem (a b : Int32) : Int32 := a - a / b * b
def q_held (v lo hi : Int32) : Int32 := if (if hi < v then hi else v) < lo then lo else (if hi < v then hi else v)
def q_ab (W : Nat → Int32) (t m : Nat) : Int32 := if W (18 + 10 * t) = W (131 + 2 * m) then nI 1 else nI 0
def q_bell (W : Nat → Int32) : Int32 := q_rem (W 0) (nI 8)
def q_week (W : Nat → Int32) : Int32 := q_rem (W 0 / nI 8) (nI 7)
/-- what a law may ask for: of a tool and a man -/
def q_fact (W : Nat → Int32) (t m : Nat) : Nat → Int32
  | 0 => nI 0
  | 1 => W (130 + 2 * m)
  | 2 => W (19 + 10 * t)
  | 3 => W (20 + 10 * t)
  | 4 => W (23 + 10 * t)
  | 5 => W (16 + 10 * t)
  | 6 => q_ab W t m
  | 7 => W (17 + 10 * t)
  | 8 => q_bell W
  | 9 => q_week W
  | _ => W (24 + 10 * t)
def q_op (s a b : Int32) : Int32 :=
  if s = nI 23 then a + b else if s = nI 24 then a - b else if s = nI 25 then a * b
  else if s = nI 27 then (if a < b then nI 1 else nI 0) else if s = nI 28 then (if a = b then nI 1 else nI 0)
  else if s = nI 29 then (if b < a then nI 1 else nI 0) else if s = nI 31 then a &&& b else a ||| b
/-- one step on a stack, its top first -/
def q_step (F : Nat → Int32) (s v : Int32) (st : List Int32) : List Int32 :=
  if s < nI 23 then (if s = nI 0 then v else F s.toNatClampNeg) :: st
  else if s = nI 26 then (match st with | [] => [] | a :: r => a / v :: r)
  else if s = nI 30 then (match st with | [] => [] | a :: r => (nI 1 - a) :: r)
  else (match st with | b :: a :: r => q_op s a b :: r | _ => [])
/-- the steps of law k -/
def q_S (W : Nat → Int32) (k i : Nat) : Int32 × Int32 := (W (394 + 820 * k + 2 * i), W (394 + 820 * k + 2 * i + 1))
def q_run (F : Nat → Int32) (S : Nat → Int32 × Int32) : Nat → Nat → List Int32 → List Int32
  | 0, _, st => st
  | n + 1, i, st => q_run F S n (i + 1) (q_step F (S i).1 (S i).2 st)
def q_val (F : Nat → Int32) (S : Nat → Int32 × Int32) (b e : Nat) : Int32 := (q_run F S (e - b) b []).headD (nI 0)
/-- a step (s, v), which the class has as c, can be done at height h and leaves height g -/
def q_ok (s v c : Int32) (h g : Nat) : Prop :=
  (∃ k, k ≤ 9999 ∧ s = nI 0 ∧ v = nI k ∧ c = nI (16 * k) ∧ h < 64 ∧ g = h + 1) ∨
  (∃ k, k < 10 ∧ s = nI (k + 1) ∧ c = nI (16 * k + 1) ∧ h < 64 ∧ g = h + 1) ∨
  (∃ k, 1 ≤ k ∧ k ≤ 9999 ∧ s = nI 26 ∧ v = nI k ∧ c = nI (16 * k + 2) ∧ 1 ≤ h ∧ g = h) ∨
  (s = nI 30 ∧ c = nI 3 ∧ 1 ≤ h ∧ g = h) ∨
  (∃ p, p ∈ [(23, 4), (24, 5), (25, 6), (27, 7), (28, 8), (29, 9), (31, 10), (32, 11)] ∧ s = nI p.1 ∧ c = nI p.2 ∧ h = g + 1 ∧ 1 ≤ g)
/-- n steps from i on lead from height h to height g -/
def q_wf (S : Nat → Int32 × Int32) (C : Nat → Int32) : Nat → Nat → Nat → Nat → Prop
  | 0, _, h, g => h = g
  | n + 1, i, h, g => ∃ f, q_ok (S i).1 (S i).2 (C i) h f ∧ q_wf S C n (i + 1) f g
theorem q_wf_app {S : Nat → Int32 × Int32} {C : Nat → Int32} : ∀ {m n i h f g : Nat}, q_wf S C m i h f → q_wf S C n (i + m) f g → q_wf S C (m + n) i h g
  | 0, n, i, h, f, g, h1, h2 => by
    rw [Nat.zero_add]
    cases (show h = f from h1)
    exact h2
  | m + 1, n, i, h, f, g, h1, h2 => by
    obtain ⟨e, h3, h4⟩ := h1
    rw [show m + 1 + n = (m + n) + 1 by omega]
    exact ⟨e, h3, q_wf_app h4 (by rw [show i + 1 + m = i + (m + 1) by omega]; exact h2)⟩
theorem q_wf_cong {S S' : Nat → Int32 × Int32} {C C' : Nat → Int32} : ∀ {n i h g : Nat}, (∀ j, i ≤ j → j < i + n → S j = S' j ∧ C j = C' j) → q_wf S C n i h g → q_wf S' C' n i h g
  | 0, _, _, _, _, h1 => h1
  | n + 1, i, h, g, he, h1 => by
    obtain ⟨e, h3, h4⟩ := h1
    obtain ⟨a, b⟩ := he i (Nat.le_refl _) (by omega)
    exact ⟨e, by rw [← a, ← b]; exact h3, q_wf_cong (fun j h1 h2 => he j (by omega) (by omega)) h4⟩
theorem q_run_cong {F F' : Nat → Int32} {S S' : Nat → Int32 × Int32} (hF : ∀ i, F i = F' i) : ∀ {n i : Nat} {st : List Int32}, (∀ j, i ≤ j → j < i + n → S j = S' j) → q_run F S n i st = q_run F' S' n i st
  | 0, _, _, _ => rfl
  | n + 1, i, st, he => by
    have e : F = F' := funext hF
    subst e
    rw [q_run, q_run, he i (Nat.le_refl _) (by omega)]
    exact q_run_cong (fun _ => rfl) (fun j h1 h2 => he j (by omega) (by omega))
/-- law k of W is told well; the class has its code in C -/
def q_law (W : Nat → Int32) (k : Nat) (C : Nat → Int32) : Prop := ∃ l, l ≤ 16 ∧ W (100 + k) = nI l ∧ ∀ i, i < l → ∃ f m t w, f ≤ m ∧ m ≤ t ∧ t ≤ 400 ∧ W (266 + 16 * k + i) = nI f ∧ W (298 + 16 * k + i) = nI m ∧ W (330 + 16 * k + i) = nI t ∧ W (362 + 16 * k + i) = nI w ∧ (k = 0 → w = 20 ∨ w = 21) ∧ (k = 1 → w = 22 ∨ w = 23 ∨ w = 24) ∧ (k = 1 → q_wf (q_S W k) C (m - f) f 0 1) ∧ (m < t → q_wf (q_S W k) C (t - m) m 0 1)
/-- the first i below n with p -/
def q_find (p : Nat → Bool) : Nat → Option Nat
  | 0 => none
  | n + 1 => match q_find p n with
    | some i => some i
    | none => if p n then some n else none
theorem q_find_none {p : Nat → Bool} : ∀ {n : Nat}, q_find p n = none ↔ ∀ i, i < n → p i = false
  | 0 => ⟨fun _ i hi => absurd hi (Nat.not_lt_zero i), fun _ => rfl⟩
  | n + 1 => by
    have ih := @q_find_none p n
    rw [q_find]
    constructor
    · intro h i hi
      cases hf : q_find p n with
      | some j => rw [hf] at h; cases h
      | none =>
        rw [hf] at h
        dsimp only at h
        cases hp : p n with
        | true => rw [hp] at h; cases h
        | false =>
          rcases Nat.lt_or_ge i n with h1 | h1
          · exact ih.mp hf i h1
          · rw [show i = n by omega]; exact hp
    · intro h
      rw [ih.mpr (fun i hi => h i (by omega))]
      dsimp only
      rw [h n (Nat.lt_succ_self n)]
      rfl
theorem q_find_at {p : Nat → Bool} {i : Nat} (h : ∀ j, j < i → p j = false) (hp : p i = true) : ∀ {n : Nat}, i < n → q_find p n = some i
  | 0, hi => absurd hi (Nat.not_lt_zero i)
  | n + 1, hi => by
    rw [q_find]
    rcases Nat.lt_or_ge i n with h1 | h1
    · rw [q_find_at h hp h1]
    · have e : i = n := by omega
      subst e
      rw [q_find_none.mpr h]
      dsimp only
      rw [hp]
      rfl
theorem q_find_some {p : Nat → Bool} : ∀ {n i : Nat}, q_find p n = some i → i < n ∧ p i = true ∧ ∀ j, j < i → p j = false
  | 0, _, h => by cases h
  | n + 1, i, h => by
    rw [q_find] at h
    cases hf : q_find p n with
    | some j =>
      rw [hf] at h
      cases h
      obtain ⟨a, b, c⟩ := q_find_some hf
      exact ⟨by omega, b, c⟩
    | none =>
      rw [hf] at h
      dsimp only at h
      cases hp : p n with
      | false => rw [hp] at h; cases h
      | true =>
        rw [hp] at h
        cases h
        exact ⟨Nat.lt_succ_self _, hp, q_find_none.mp hf⟩
theorem q_find_cong {p q : Nat → Bool} : ∀ {n : Nat}, (∀ i, i < n → p i = q i) → q_find p n = q_find q n
  | 0, _ => rfl
  | n + 1, h => by rw [q_find, q_find, q_find_cong (fun i hi => h i (Nat.lt_succ_of_lt hi)), h n (Nat.lt_succ_self n)]
def q_holds (W : Nat → Int32) (k : Nat) (F : Nat → Int32) (i : Nat) : Bool := decide (W (330 + 16 * k + i) = W (298 + 16 * k + i)) || decide (q_val F (q_S W k) (q_n W (298 + 16 * k + i)) (q_n W (330 + 16 * k + i)) = nI 1)
def q_will (W : Nat → Int32) (t m : Nat) : Bool := match q_find (q_holds W 0 (q_fact W t m)) (q_n W 100) with
  | none => true
  | some i => decide (W (362 + i) = nI 20)
def q_strikes (W : Nat → Int32) (t : Nat) : Bool := q_bit (W 1) (W (17 + 10 * t))
def q_would (W : Nat → Int32) (t m : Nat) : Bool := !q_strikes W t && !decide (W (22 + 10 * t) = q_week W) && decide (nI 0 < W (19 + 10 * t)) && q_will W t m
def q_mays (W : Nat → Int32) (t : Nat) : Bool := q_bit (W (4 + q_n W (17 + 10 * t))) (W (16 + 10 * t))
/-- does the tool serve the man -/
def q_serve (W : Nat → Int32) (t m : Nat) : Bool := q_mays W t && q_would W t m
def q_lo (w : Nat) : Int32 := if w = 0 then nI 0 else if w = 1 then Int32.ofNat 4294967276 else Int32.ofNat 4294966297
def q_hi (w : Nat) : Int32 := if w = 2 then nI 999 else nI 20
/-- what the law of edges tells: 0 wear, 1 mood, 2 like -/
def q_tell (W : Nat → Int32) (t m w : Nat) : Int32 := match q_find (fun i => decide (W (378 + i) = nI (22 + w)) && q_holds W 1 (q_fact W t m) i) (q_n W 101) with
  | none => if w = 0 then nI 1 else nI 0
  | some i => q_held (q_val (q_fact W t m) (q_S W 1) (q_n W (282 + i)) (q_n W (314 + i))) (q_lo w) (q_hi w)
/-- branch and kind of a tool are as they must be -/
def q_kb (W : Nat → Int32) (t : Nat) : Prop := W (17 + 10 * t) = nI (q_n W (17 + 10 * t)) ∧ q_n W (17 + 10 * t) < 4 ∧ W (16 + 10 * t) = nI (q_n W (16 + 10 * t)) ∧ q_n W (16 + 10 * t) < 4
end
