section
-- needs: rel
/-! an hour, as a change of W -/
def q_for {α : Type} (f : Nat → α → α) : Nat → α → α
  | 0, a => a
  | n + 1, a => f n (q_for f n a)
theorem q_for_s {α : Type} (f : Nat → α → α) (n : Nat) (a : α) : q_for f (n + 1) a = f n (q_for f n a) := rfl
theorem q_for_0 {α : Type} (f : Nat → α → α) (a : α) : q_for f 0 a = a := rfl
theorem q_for_ind {α : Type} {f : Nat → α → α} {P : α → Prop} {a : α} : ∀ {n : Nat}, P a → (∀ i b, i < n → P b → P (f i b)) → P (q_for f n a)
  | 0, h, _ => h
  | n + 1, h, hs => hs n _ (Nat.lt_succ_self n) (q_for_ind h (fun i b hi hb => hs i b (Nat.lt_succ_of_lt hi) hb))
def q_all (p : Nat → Bool) : Nat → Bool
  | 0 => true
  | n + 1 => q_all p n && p n
theorem q_all_iff {p : Nat → Bool} : ∀ {n : Nat}, q_all p n = true ↔ ∀ i, i < n → p i = true
  | 0 => ⟨fun _ i hi => absurd hi (Nat.not_lt_zero i), fun _ => rfl⟩
  | n + 1 => by
    rw [q_all, Bool.and_eq_true, q_all_iff]
    constructor
    · rintro ⟨h1, h2⟩ i hi
      rcases Nat.lt_or_ge i n with h | h
      · exact h1 i h
      · rw [show i = n by omega]; exact h2
    · intro h
      exact ⟨fun i hi => h i (by omega), h n (Nat.lt_succ_self n)⟩
theorem q_all_no {p : Nat → Bool} {n i : Nat} (hi : i < n) (h : p i = false) : q_all p n = false := by
  cases hq : q_all p n with
  | false => rfl
  | true => rw [q_all_iff.mp hq i hi] at h; cases h
def q_doneB (W : Nat → Int32) (i : Nat) : Bool := decide (W (8 + i) = W (143 + 3 * i))
def q_openB (W : Nat → Int32) (i : Nat) : Bool := !q_doneB W i && q_all (fun j => !(q_n W (144 + 3 * i)).testBit j || q_doneB W j) i
def q_on (W : Nat → Int32) (l : Nat) : Bool := !decide (W 0 < W (169 + 5 * l)) && !decide (W (169 + 5 * l) + W (170 + 5 * l) - nI 1 < W 0)
def q_T (W : Nat → Int32) (l : Nat) : Nat := q_n W (166 + 5 * l)
def q_M (W : Nat → Int32) (l : Nat) : Nat := q_n W (167 + 5 * l)
def q_I (W : Nat → Int32) (l : Nat) : Nat := q_n W (168 + 5 * l)
def q_can (W : Nat → Int32) (busy l : Nat) : Bool :=
  !decide (W (25 + 10 * q_T W l) = nI 1) && (!busy.testBit (q_M W l) && (q_openB W (q_I W l) && (decide (W (142 + 3 * q_I W l) = W (16 + 10 * q_T W l)) && q_serve W (q_T W l) (q_M W l))))
def q_gr0 (v : Int32) : Int32 := if v < nI 0 then nI 0 else v
def q_wears (W : Nat → Int32) (t m : Nat) : Nat → Int32 :=
  upW (upW (upW (upW W (19 + 10 * t) (q_gr0 (W (19 + 10 * t) - q_tell W t m 0))) (20 + 10 * t) (q_held (W (20 + 10 * t) + q_tell W t m 1) (nI 0) (nI 99))) (23 + 10 * t) (W (23 + 10 * t) + nI 1)) (24 + 10 * t) (W (24 + 10 * t) + nI 1)
def q_note (W : Nat → Int32) (t m i : Nat) : Nat → Int32 := if W 2 = nI 200 then W else
  upW (upW (upW (upW (upW W (2034 + 4 * q_n W 2) (W 0)) (2034 + 4 * q_n W 2 + 1) (nI t)) (2034 + 4 * q_n W 2 + 2) (nI m)) (2034 + 4 * q_n W 2 + 3) (nI i)) 2 (W 2 + nI 1)
def q_did (W : Nat → Int32) (t m i : Nat) : Nat → Int32 := upW (upW (q_wears W t m) (25 + 10 * t) (nI 1)) (8 + i) (W (8 + i) + nI 1)
def q_do (tr : Bool) (W : Nat → Int32) (t m i : Nat) : Nat → Int32 := if tr then q_note (q_did W t m i) t m i else q_did W t m i
/-- W, the men at work, hours of work, lines refused, the first of them -/
abbrev Hst : Type := (Nat → Int32) × Nat × Nat × Nat × Option Nat
def q_fst (o : Option Nat) (l : Nat) : Option Nat := match o with | none => some l | some k => some k
def q_line (tr : Bool) (l : Nat) (s : Hst) : Hst :=
  if q_on s.1 l then (if q_can s.1 s.2.1 l then (q_do tr s.1 (q_T s.1 l) (q_M s.1 l) (q_I s.1 l), s.2.1 ||| 2 ^ q_M s.1 l, s.2.2.1 + 1, s.2.2.2.1, s.2.2.2.2)
    else (s.1, s.2.1, s.2.2.1, s.2.2.2.1 + 1, q_fst s.2.2.2.2 l)) else s
def q_drawn (W : Nat → Int32) : Nat → Int32 := upW W 3 (nI 1664525 * W 3 + nI 1013904223)
def q_top24 (v : Int32) : Int32 := (v.toUInt32 >>> ((nI 8).toUInt32 &&& Int32.toUInt32 31)).toInt32
def q_rust1 (t : Nat) (W : Nat → Int32) : Nat → Int32 :=
  if W (25 + 10 * t) = nI 0 ∧ nI 0 < W (19 + 10 * t) then (if q_rem (q_top24 (q_drawn W 3)) (nI 1000) < W 102 then upW (q_drawn W) (19 + 10 * t) (W (19 + 10 * t) - nI 1) else q_drawn W) else W
def q_zero9 (W : Nat → Int32) (n : Nat) : Nat → Int32 := q_for (fun t W => upW W (25 + 10 * t) (nI 0)) n W
def q_zero7 (W : Nat → Int32) (n : Nat) : Nat → Int32 := q_for (fun t W => upW W (23 + 10 * t) (nI 0)) n W
def q_begun (W : Nat → Int32) : Hst := (q_zero9 W (q_n W 96), 0, 0, 0, none)
def q_lines (tr : Bool) (W : Nat → Int32) : Hst := q_for (q_line tr) (q_n W 99) (q_begun W)
def q_rusted (tr : Bool) (W : Nat → Int32) : Nat → Int32 := if tr = true ∧ nI 0 < W 102 then q_for q_rust1 (q_n W 96) W else W
def q_later (W : Nat → Int32) : Nat → Int32 := upW W 0 (W 0 + nI 1)
def q_next (W : Nat → Int32) : Nat → Int32 := if q_bell (q_later W) = nI 0 then q_zero7 (q_later W) (q_n W 96) else q_later W
def q_hour (tr : Bool) (W : Nat → Int32) : Hst := (q_next (q_rusted tr (q_lines tr W).1), (q_lines tr W).2)
/-! numbers -/
theorem q_held_nI {v : Int32} {a b : Nat} (hab : a ≤ b) (hb : b < 2 ^ 31) : ∃ j, a ≤ j ∧ j ≤ b ∧ q_held v (nI a) (nI b) = nI j := by
  unfold q_held
  by_cases h1 : nI b < v
  · rw [if_pos h1, if_neg (by rw [lt_i (by omega) (by omega)]; omega)]
    exact ⟨b, hab, Nat.le_refl _, rfl⟩
  · rw [if_neg h1]
    by_cases h2 : v < nI a
    · rw [if_pos h2]
      exact ⟨a, Nat.le_refl _, hab, rfl⟩
    · rw [if_neg h2]
      have h0 : ¬ v < 0 := fun h => h2 (neg_lt h a (by omega))
      obtain ⟨e, hl⟩ := nI_self h0
      rw [e, lt_i (by omega) hl] at h1
      rw [e, lt_i hl (by omega)] at h2
      exact ⟨_, by omega, by omega, e⟩
theorem q_tell0 {W : Nat → Int32} {t m : Nat} : ∃ k, k ≤ 20 ∧ q_tell W t m 0 = nI k := by
  unfold q_tell
  cases q_find (fun i => decide (W (378 + i) = nI (22 + 0)) && q_holds W 1 (q_fact W t m) i) (q_n W 101) with
  | none => exact ⟨1, by decide, rfl⟩
  | some i =>
    obtain ⟨j, _, h2, h3⟩ := q_held_nI (v := q_val (q_fact W t m) (q_S W 1) (q_n W (282 + i)) (q_n W (314 + i))) (a := 0) (b := 20) (by decide) (by decide)
    exact ⟨j, h2, h3⟩
theorem sharp_ok : ∀ e, e < 100 → ∀ k, k < 21 → q_held (nI e + -nI k) (nI 0) (nI 99) = nI (e - k) ∧ q_gr0 (nI e - nI k) = nI (e - k) := by decide +kernel
/-! what an hour leaves -/
theorem q_n_up {W : Nat → Int32} {k i : Nat} {v : Int32} (h : i ≠ k) : q_n (upW W k v) i = q_n W i := q_n_eq (upW_n h)
theorem q_lt_up {W : Nat → Int32} {k i j b : Nat} (hj : j < b) (hb : b ≤ 2 ^ 31) (h : i ≠ k → q_lt W i b) : q_lt (upW W k (nI j)) i b := by
  by_cases e : i = k
  · subst e
    exact (q_lt_of (upW_s _ _ _) hj hb).1
  · exact q_lt_eq (upW_n e) (h e)
theorem q_lt_un {W : Nat → Int32} {k i b : Nat} {v : Int32} (hk : i ≠ k) (h : q_lt W i b) : q_lt (upW W k v) i b := q_lt_eq (upW_n hk) h
theorem q_invM.un {W : Nat → Int32} {k : Nat} {v : Int32} (hk : k = 0 ∨ k = 3 ∨ 2034 ≤ k ∨ (16 ≤ k ∧ k < 96 ∧ ((k - 16) % 10 = 8 ∨ (k - 16) % 10 = 9))) (h : q_invM W) (hn : q_n W 98 ≤ 8) : q_invM (upW W k v) := by
  obtain ⟨h1, h2, h3, h4, h5⟩ := h
  refine ⟨q_lt_un (by omega) h1, q_lt_un (by omega) h2, fun b hb => q_lt_un (by omega) (h3 b hb), fun t ht => ?_, fun i hi => ?_⟩
  · obtain ⟨a, b, c⟩ := h4 t ht
    refine ⟨q_lt_un (by omega) a, q_lt_un (by omega) b, ?_⟩
    rw [q_n_up (by omega), upW_n (by omega)]
    exact c
  · rw [q_n_up (by omega)] at hi
    obtain ⟨a, b, c⟩ := h5 i hi
    refine ⟨q_lt_un (by omega) a, ?_⟩
    rw [q_n_up (by omega), q_n_up (by omega)]
    exact ⟨b, c.cg (by omega) (fun k' hk' => upW_n (by omega))⟩
theorem q_invM.tool {W : Nat → Int32} {t f j : Nat} (ht : t < 8) (hf : f = 19 ∨ f = 20) (hj : j < 100) (h : q_invM W) (hn : q_n W 98 ≤ 8) : q_invM (upW W (f + 10 * t) (nI j)) := by
  obtain ⟨h1, h2, h3, h4, h5⟩ := h
  refine ⟨q_lt_un (by omega) h1, q_lt_un (by omega) h2, fun b hb => q_lt_un (by omega) (h3 b hb), fun t' ht' => ?_, fun i hi => ?_⟩
  · obtain ⟨a, b, c⟩ := h4 t' ht'
    refine ⟨q_lt_up hj (by decide) (fun _ => a), q_lt_up hj (by decide) (fun _ => b), ?_⟩
    rw [q_n_up (by omega), upW_n (by omega)]
    exact c
  · rw [q_n_up (by omega)] at hi
    obtain ⟨a, b, c⟩ := h5 i hi
    refine ⟨q_lt_un (by omega) a, ?_⟩
    rw [q_n_up (by omega), q_n_up (by omega)]
    exact ⟨b, c.cg (by omega) (fun k' hk' => upW_n (by omega))⟩
theorem q_invM.today {W : Nat → Int32} {t : Nat} {v : Int32} (ht : t < 8) (hv : v = nI 0 ∨ t < q_n W 96) (h : q_invM W) (hn : q_n W 98 ≤ 8) : q_invM (upW W (23 + 10 * t) v) := by
  obtain ⟨h1, h2, h3, h4, h5⟩ := h
  refine ⟨q_lt_un (by omega) h1, q_lt_un (by omega) h2, fun b hb => q_lt_un (by omega) (h3 b hb), fun t' ht' => ?_, fun i hi => ?_⟩
  · obtain ⟨a, b, c⟩ := h4 t' ht'
    refine ⟨q_lt_un (by omega) a, q_lt_un (by omega) b, ?_⟩
    rw [q_n_up (by omega)]
    intro hle
    by_cases e : t' = t
    · subst e
      rw [upW_s]
      rcases hv with hv | hv
      · exact hv
      · omega
    · rw [upW_n (by omega)]
      exact c hle
  · rw [q_n_up (by omega)] at hi
    obtain ⟨a, b, c⟩ := h5 i hi
    refine ⟨q_lt_un (by omega) a, ?_⟩
    rw [q_n_up (by omega), q_n_up (by omega)]
    exact ⟨b, c.cg (by omega) (fun k' hk' => upW_n (by omega))⟩
theorem q_doneB_f {W : Nat → Int32} {i : Nat} (hi : i < q_n W 98) (hy : q_invY W) (hm : q_invM W) : q_doneB W i = decide (q_n W (8 + i) = q_n W (143 + 3 * i)) := by
  unfold q_doneB
  have h1 := (hm.2.2.2.2 i hi).1
  have h2 := (hy.2.2.2.2.2.1 i hi).2.1
  rw [decide_eq_decide, h1.1, h2.1, eq_i (by have := h1.2; omega) (by have := h2.2; omega)]
theorem q_wears_Y {W : Nat → Int32} {t m : Nat} (ht : t < 8) : sameY W (q_wears W t m) :=
  (((sameY.rf.up (by unfold mvI; omega)).up (by unfold mvI; omega)).up (by unfold mvI; omega)).up (by unfold mvI; omega)
theorem q_wears_M {W : Nat → Int32} {t m : Nat} (ht : t < q_n W 96) (hy : q_invY W) (hm : q_invM W) : q_invM (q_wears W t m) := by
  obtain ⟨t1, t2, t3, t4, t5⟩ := hy.1
  have b1 := t1.2; have b3 := t3.2
  unfold q_wears
  obtain ⟨k, hk, ek⟩ := q_tell0 (W := W) (t := t) (m := m)
  have he := (hm.2.2.2.1 t (by omega)).1
  rw [ek, he.1, (sharp_ok _ he.2 k (by omega)).2]
  obtain ⟨j, hj1, hj2, ej⟩ := q_held_nI (v := W (20 + 10 * t) + q_tell W t m 1) (a := 0) (b := 99) (by decide) (by decide)
  rw [ej]
  have he2 := he.2
  refine q_invM.un (by omega) (q_invM.today (by omega) (Or.inr ?_) (q_invM.tool (by omega) (Or.inr rfl) (by omega) (q_invM.tool (by omega) (Or.inl rfl) (by omega) hm (by omega)) ?_) ?_) ?_
  · rw [q_n_up (by omega), q_n_up (by omega)]; exact ht
  · rw [q_n_up (by omega)]; omega
  · rw [q_n_up (by omega), q_n_up (by omega)]; omega
  · rw [q_n_up (by omega), q_n_up (by omega), q_n_up (by omega)]; omega
theorem q_did_Y {W : Nat → Int32} {t m i : Nat} (ht : t < 8) (hi : i < 8) : sameY W (q_did W t m i) := ((q_wears_Y ht).up (by unfold mvI; omega)).up (by unfold mvI; omega)
theorem q_wears_at {W : Nat → Int32} {t m k : Nat} (h1 : k ≠ 19 + 10 * t) (h2 : k ≠ 20 + 10 * t) (h3 : k ≠ 23 + 10 * t) (h4 : k ≠ 24 + 10 * t) : q_wears W t m k = W k := by
  unfold q_wears
  rw [upW_n h4, upW_n h3, upW_n h2, upW_n h1]
theorem q_openB_no {W : Nat → Int32} {i : Nat} (h : q_openB W i = true) : q_doneB W i = false := by
  unfold q_openB at h
  cases hd : q_doneB W i with
  | false => rfl
  | true => rw [hd] at h; cases h
theorem q_did_M {W : Nat → Int32} {t m i : Nat} (ht : t < q_n W 96) (hi : i < q_n W 98) (hop : q_openB W i = true) (hy : q_invY W) (hm : q_invM W) : q_invM (q_did W t m i) := by
  obtain ⟨t1, t2, t3, t4, t5⟩ := hy.1
  have b1 := t1.2; have b3 := t3.2
  have h0 := q_wears_M (m := m) ht hy hm
  have n98 : q_n (q_wears W t m) 98 = q_n W 98 := q_n_eq (q_wears_at (by omega) (by omega) (by omega) (by omega))
  have h9 : q_invM (upW (q_wears W t m) (25 + 10 * t) (nI 1)) := q_invM.un (by omega) h0 (by omega)
  have e8 : ∀ k, k < 16 → upW (q_wears W t m) (25 + 10 * t) (nI 1) k = W k := fun k hk => by rw [upW_n (by omega), q_wears_at (by omega) (by omega) (by omega) (by omega)]
  have e9 : ∀ k, 96 ≤ k → upW (q_wears W t m) (25 + 10 * t) (nI 1) k = W k := fun k hk => by rw [upW_n (by omega), q_wears_at (by omega) (by omega) (by omega) (by omega)]
  have hd := (hm.2.2.2.2 i hi).1
  have hle := (hm.2.2.2.2 i hi).2.1
  have hno := q_openB_no hop
  have hdn : q_doneB W i = false := hno
  have htk := (hy.2.2.2.2.2.1 i hi).2.1
  rw [q_doneB_f hi hy hm, decide_eq_false_iff_not] at hno
  have hd2 := hd.2; have htk2 := htk.2
  unfold q_did
  rw [hd.1, nI_add]
  generalize upW (q_wears W t m) (25 + 10 * t) (nI 1) = Z at h9 e8 e9
  obtain ⟨h1, h2, h3, h4, h5⟩ := h9
  have did_le : ∀ {i' : Nat}, i' < q_n Z 98 → q_n Z (8 + i') ≤ q_n Z (143 + 3 * i') → q_n (upW Z (8 + i) (nI (q_n W (8 + i) + 1))) (8 + i') ≤ q_n (upW Z (8 + i) (nI (q_n W (8 + i) + 1))) (143 + 3 * i') := by
    intro i' hi' b
    have e98 : q_n Z 98 = q_n W 98 := q_n_eq (e9 98 (by omega))
    have ef : q_n (upW Z (8 + i) (nI (q_n W (8 + i) + 1))) (143 + 3 * i') = q_n Z (143 + 3 * i') := q_n_up (by omega)
    rw [ef]
    by_cases e : i' = i
    · subst e
      rw [q_n_of (upW_s Z (8 + i') (nI (q_n W (8 + i') + 1))) (by omega), q_n_eq (e9 (143 + 3 * i') (by omega))]
      omega
    · rw [q_n_up (show 8 + i' ≠ 8 + i by omega)]
      exact b
  refine ⟨q_lt_un (by omega) h1, q_lt_un (by omega) h2, fun b hb => q_lt_un (by omega) (h3 b hb), fun t' ht' => ?_, fun i' hi' => ?_⟩
  · obtain ⟨a, b, c⟩ := h4 t' ht'
    refine ⟨q_lt_un (by omega) a, q_lt_un (by omega) b, ?_⟩
    rw [q_n_up (by omega), upW_n (by omega)]
    exact c
  · rw [q_n_up (by omega)] at hi'
    obtain ⟨a, b, c⟩ := h5 i' hi'
    have e98 : q_n Z 98 = q_n W 98 := q_n_eq (e9 98 (by omega))
    refine ⟨q_lt_up (by omega) (by decide) (fun _ => a), ?_, ?_⟩
    · exact did_le hi' b
    · intro hd l hl hb
      rw [q_n_up (by omega)] at hb
      by_cases e : i' = i
      · subst e
        rw [q_n_eq (e9 _ (by omega))] at hb
        have ho := hop
        unfold q_openB at ho
        rw [Bool.and_eq_true, q_all_iff] at ho
        have h := ho.2 l hl
        rw [hb, Bool.not_true, Bool.false_or] at h
        unfold q_doneB at h
        rw [upW_n (by omega), upW_n (by omega), e8 _ (by omega), e9 _ (by omega)]
        exact of_decide_eq_true h
      · rw [upW_n (by omega), upW_n (by omega)] at hd
        have h := c hd l hl hb
        have hli : l ≠ i := fun hh => by
          subst hh
          rw [e8 _ (by omega), e9 _ (by omega)] at h
          unfold q_doneB at hdn
          rw [decide_eq_true h] at hdn; cases hdn
        rw [upW_n (by omega), upW_n (by omega)]
        exact h
theorem q_note_Y {W : Nat → Int32} {t m i : Nat} : sameY W (q_note W t m i) := by
  unfold q_note
  split
  · exact sameY.rf
  · exact ((((sameY.rf.up (by unfold mvI; omega)).up (by unfold mvI; omega)).up (by unfold mvI; omega)).up (by unfold mvI; omega)).up (by unfold mvI; omega)
theorem q_note_M {W : Nat → Int32} {t m i : Nat} (hy : q_invY W) (hm : q_invM W) : q_invM (q_note W t m i) := by
  have b3 := hy.1.2.2.1.2
  unfold q_note
  split
  · exact hm
  · rename_i hne
    obtain ⟨l, hl⟩ : ∃ l, q_n W 2 = l := ⟨_, rfl⟩
    have h2 := hm.1
    unfold q_lt at h2
    rw [hl] at h2 ⊢
    obtain ⟨e2, hlt⟩ := h2
    rw [e2, eq_i (by omega) (by omega)] at hne
    rw [e2, nI_add]
    have hA : q_invM (upW (upW (upW (upW W (2034 + 4 * l) (W 0)) (2034 + 4 * l + 1) (nI t)) (2034 + 4 * l + 2) (nI m)) (2034 + 4 * l + 3) (nI i)) := by
      have e98 : ∀ (W1 : Nat → Int32) k v, 2034 ≤ k → q_n (upW W1 k v) 98 = q_n W1 98 := fun W1 k v hk => q_n_up (by omega)
      refine q_invM.un (by omega) (q_invM.un (by omega) (q_invM.un (by omega) (q_invM.un (by omega) hm (by omega)) ?_) ?_) ?_
      · rw [e98 _ _ _ (by omega)]; omega
      · rw [e98 _ _ _ (by omega), e98 _ _ _ (by omega)]; omega
      · rw [e98 _ _ _ (by omega), e98 _ _ _ (by omega), e98 _ _ _ (by omega)]; omega
    have l8 : q_n (upW (upW (upW (upW W (2034 + 4 * l) (W 0)) (2034 + 4 * l + 1) (nI t)) (2034 + 4 * l + 2) (nI m)) (2034 + 4 * l + 3) (nI i)) 98 ≤ 8 := by
      rw [q_n_up (by omega), q_n_up (by omega), q_n_up (by omega), q_n_up (by omega)]; have := hy.1.2.2.1.2; omega
    generalize upW (upW (upW (upW W (2034 + 4 * l) (W 0)) (2034 + 4 * l + 1) (nI t)) (2034 + 4 * l + 2) (nI m)) (2034 + 4 * l + 3) (nI i) = Z at hA l8 ⊢
    obtain ⟨g1, g2, g3, g4, g5⟩ := hA
    refine ⟨q_lt_up (by omega) (by decide) (fun h => absurd rfl h), q_lt_un (by omega) g2, fun b hb => q_lt_un (by omega) (g3 b hb), fun t' ht' => ?_, fun i' hi' => ?_⟩
    · obtain ⟨a, b, c⟩ := g4 t' ht'
      refine ⟨q_lt_un (by omega) a, q_lt_un (by omega) b, ?_⟩
      rw [q_n_up (by omega), upW_n (by omega)]
      exact c
    · rw [q_n_up (by omega)] at hi'
      obtain ⟨a, b, c⟩ := g5 i' hi'
      refine ⟨q_lt_un (by omega) a, ?_⟩
      rw [q_n_up (show 8 + i' ≠ 2 by omega), q_n_up (show 143 + 3 * i' ≠ 2 by omega)]
      exact ⟨b, c.cg (by omega) (fun k' hk' => upW_n (by omega))⟩
theorem q_do_ok {tr : Bool} {W : Nat → Int32} {t m i : Nat} (ht : t < q_n W 96) (hi : i < q_n W 98) (hop : q_openB W i = true) (hy : q_invY W) (hm : q_invM W) : sameY W (q_do tr W t m i) ∧ q_invM (q_do tr W t m i) := by
  have b1 := hy.1.1.2; have b3 := hy.1.2.2.1.2
  have h1 : sameY W (q_did W t m i) := q_did_Y (by omega) (by omega)
  have h2 := q_did_M (m := m) ht hi hop hy hm
  unfold q_do
  cases tr with
  | false => exact ⟨h1, h2⟩
  | true => exact ⟨h1.tr q_note_Y, q_note_M (hy.ch h1) h2⟩
theorem q_can_op {W : Nat → Int32} {b l : Nat} (h : q_can W b l = true) : q_openB W (q_I W l) = true := by
  unfold q_can at h
  simp only [Bool.and_eq_true] at h
  exact h.2.2.1
theorem q_line_ok {tr : Bool} {l : Nat} {s : Hst} (hl : l < q_n s.1 99) (hy : q_invY s.1) (hm : q_invM s.1) : sameY s.1 (q_line tr l s).1 ∧ q_invM (q_line tr l s).1 := by
  unfold q_line
  by_cases h1 : q_on s.1 l = true
  · rw [if_pos h1]
    by_cases h2 : q_can s.1 s.2.1 l = true
    · rw [if_pos h2]
      obtain ⟨a1, a2, a3, _⟩ := hy.2.2.2.2.2.2.2 l hl
      exact q_do_ok a1.2 a3.2 (q_can_op h2) hy hm
    · rw [if_neg h2]
      exact ⟨sameY.rf, hm⟩
  · rw [if_neg h1]
    exact ⟨sameY.rf, hm⟩
theorem q_zero9_ok {W : Nat → Int32} {n : Nat} (hn : n ≤ 8) (hy : q_invY W) (hm : q_invM W) : sameY W (q_zero9 W n) ∧ q_invM (q_zero9 W n) := by
  have b3 := hy.1.2.2.1.2
  unfold q_zero9
  refine q_for_ind (P := fun W' => sameY W W' ∧ q_invM W') ⟨sameY.rf, hm⟩ ?_
  rintro i W1 hi ⟨h1, h2⟩
  refine ⟨h1.up (by unfold mvI; omega), q_invM.un (by omega) h2 ?_⟩
  rw [q_n_eq (h1 98 (by unfold mvI; omega))]; omega
theorem q_zero7_ok {W : Nat → Int32} {n : Nat} (hn : n ≤ 8) (hy : q_invY W) (hm : q_invM W) : sameY W (q_zero7 W n) ∧ q_invM (q_zero7 W n) := by
  have b3 := hy.1.2.2.1.2
  unfold q_zero7
  refine q_for_ind (P := fun W' => sameY W W' ∧ q_invM W') ⟨sameY.rf, hm⟩ ?_
  rintro i W1 hi ⟨h1, h2⟩
  refine ⟨h1.up (by unfold mvI; omega), q_invM.today (by omega) (Or.inl rfl) h2 ?_⟩
  rw [q_n_eq (h1 98 (by unfold mvI; omega))]; omega
theorem q_lines_ok {tr : Bool} {W : Nat → Int32} (hy : q_invY W) (hm : q_invM W) {n : Nat} (hn : n ≤ q_n W 99) : sameY W (q_for (q_line tr) n (q_begun W)).1 ∧ q_invM (q_for (q_line tr) n (q_begun W)).1 := by
  have b1 := hy.1.1.2; have b4 := hy.1.2.2.2.1.2
  refine q_for_ind (P := fun s : Hst => sameY W s.1 ∧ q_invM s.1) (q_zero9_ok (by omega) hy hm) ?_
  rintro i s hi ⟨h1, h2⟩
  have h3 := q_line_ok (tr := tr) (l := i) (s := s) (by rw [q_n_eq (h1 99 (by unfold mvI; omega))]; omega) (hy.ch h1) h2
  exact ⟨h1.tr h3.1, h3.2⟩
theorem q_rust1_ok {W : Nat → Int32} {t : Nat} (ht : t < 8) (hn : q_n W 98 ≤ 8) (hm : q_invM W) : sameY W (q_rust1 t W) ∧ q_invM (q_rust1 t W) := by
  have hd : sameY W (q_drawn W) := sameY.rf.up (by unfold mvI; omega)
  have hdm : q_invM (q_drawn W) := q_invM.un (by omega) hm hn
  unfold q_rust1
  split
  · rename_i h
    split
    · refine ⟨hd.up (by unfold mvI; omega), ?_⟩
      have he := (hm.2.2.2.1 t ht).1
      have he2 := he.2
      have hpos := h.2
      rw [he.1, lt_i (by omega) (by omega)] at hpos
      rw [he.1, nI_sub (by omega)]
      exact q_invM.tool ht (Or.inl rfl) (by omega) hdm (by rw [q_n_eq (hd 98 (by unfold mvI; omega))]; exact hn)
    · exact ⟨hd, hdm⟩
  · exact ⟨sameY.rf, hm⟩
theorem q_rusts_ok {W : Nat → Int32} {n : Nat} (hn : n ≤ 8) (hy : q_invY W) (hm : q_invM W) : sameY W (q_for q_rust1 n W) ∧ q_invM (q_for q_rust1 n W) := by
  have b3 := hy.1.2.2.1.2
  refine q_for_ind (P := fun W' => sameY W W' ∧ q_invM W') ⟨sameY.rf, hm⟩ ?_
  rintro i W1 hi ⟨h1, h2⟩
  have h3 := q_rust1_ok (t := i) (W := W1) (by omega) (by rw [q_n_eq (h1 98 (by unfold mvI; omega))]; omega) h2
  exact ⟨h1.tr h3.1, h3.2⟩
theorem q_rusted_ok {tr : Bool} {W : Nat → Int32} (hy : q_invY W) (hm : q_invM W) : sameY W (q_rusted tr W) ∧ q_invM (q_rusted tr W) := by
  have b1 := hy.1.1.2
  unfold q_rusted
  split
  · exact q_rusts_ok (by omega) hy hm
  · exact ⟨sameY.rf, hm⟩
theorem q_next_ok {W : Nat → Int32} (hy : q_invY W) (hm : q_invM W) : sameY W (q_next W) ∧ q_invM (q_next W) := by
  have b1 := hy.1.1.2; have b3 := hy.1.2.2.1.2
  have h1 : sameY W (q_later W) := sameY.rf.up (by unfold mvI; omega)
  have h2 : q_invM (q_later W) := q_invM.un (by omega) hm (by omega)
  unfold q_next
  split
  · have h3 := q_zero7_ok (n := q_n W 96) (by omega) (hy.ch h1) h2
    exact ⟨h1.tr h3.1, h3.2⟩
  · exact ⟨h1, h2⟩
theorem q_hour_ok {tr : Bool} {W : Nat → Int32} (hy : q_invY W) (hm : q_invM W) : sameY W (q_hour tr W).1 ∧ q_invM (q_hour tr W).1 := by
  have h1 := q_lines_ok (tr := tr) hy hm (Nat.le_refl _)
  have h2 := q_rusted_ok (tr := tr) (hy.ch h1.1) h1.2
  have h3 := q_next_ok ((hy.ch h1.1).ch h2.1) h2.2
  exact ⟨(h1.1.tr h2.1).tr h3.1, h3.2⟩
/-! in thought nothing beyond 96 changes -/
def q_low (W W' : Nat → Int32) : Prop := ∀ k, 96 ≤ k → W' k = W k
theorem q_low.up {W W' : Nat → Int32} {k : Nat} {v : Int32} (h : q_low W W') (hk : k < 96) : q_low W (upW W' k v) := fun i hi => by rw [upW_n (by omega)]; exact h i hi
theorem q_low.tr {W W1 W2 : Nat → Int32} (h : q_low W W1) (h2 : q_low W1 W2) : q_low W W2 := fun i hi => (h2 i hi).trans (h i hi)
theorem q_low.rf {W : Nat → Int32} : q_low W W := fun _ _ => rfl
theorem q_wears_low {W : Nat → Int32} {t m : Nat} (ht : t < 8) : q_low W (q_wears W t m) := fun k hk => q_wears_at (by omega) (by omega) (by omega) (by omega)
theorem q_did_low {W : Nat → Int32} {t m i : Nat} (ht : t < 8) (hi : i < 8) : q_low W (q_did W t m i) := ((q_wears_low ht).up (by omega)).up (by omega)
theorem q_line_low {l : Nat} {s : Hst} (hl : l < q_n s.1 99) (hy : q_invY s.1) : q_low s.1 (q_line false l s).1 := by
  unfold q_line
  by_cases h1 : q_on s.1 l = true
  · rw [if_pos h1]
    by_cases h2 : q_can s.1 s.2.1 l = true
    · rw [if_pos h2]
      obtain ⟨a1, a2, a3, _⟩ := hy.2.2.2.2.2.2.2 l hl
      have b1 := hy.1.1.2; have b3 := hy.1.2.2.1.2
      have c1 := a1.2; have c3 := a3.2
      exact q_did_low (by unfold q_T; omega) (by unfold q_I; omega)
    · rw [if_neg h2]; exact q_low.rf
  · rw [if_neg h1]; exact q_low.rf
theorem q_hour_low {W : Nat → Int32} (hy : q_invY W) (hm : q_invM W) : q_low W (q_hour false W).1 := by
  have b1 := hy.1.1.2
  have h0 : q_low W (q_begun W).1 := q_for_ind (P := fun W' => q_low W W') q_low.rf (fun i W1 hi h => h.up (by omega))
  have h1 : sameY W (q_lines false W).1 ∧ q_invM (q_lines false W).1 ∧ q_low W (q_lines false W).1 := by
    refine q_for_ind (P := fun s : Hst => sameY W s.1 ∧ q_invM s.1 ∧ q_low W s.1) ⟨(q_zero9_ok (by omega) hy hm).1, (q_zero9_ok (by omega) hy hm).2, h0⟩ ?_
    rintro i s hi ⟨h1, h2, h3⟩
    have hi2 : i < q_n s.1 99 := by rw [q_n_eq (h1 99 (by unfold mvI; omega))]; omega
    have h4 := q_line_ok (tr := false) (l := i) (s := s) hi2 (hy.ch h1) h2
    exact ⟨h1.tr h4.1, h4.2, h3.tr (q_line_low hi2 (hy.ch h1))⟩
  have h2 : q_rusted false (q_lines false W).1 = (q_lines false W).1 := by
    unfold q_rusted
    rw [if_neg (by rintro ⟨h, _⟩; cases h)]
  show q_low W (q_next (q_rusted false (q_lines false W).1))
  rw [h2]
  have e96 : q_n (q_lines false W).1 96 = q_n W 96 := q_n_eq (h1.1 96 (by unfold mvI; omega))
  unfold q_next
  split
  · have hlat : q_low W (q_later (q_lines false W).1) := q_low.up (k := 0) h1.2.2 (by decide)
    refine hlat.tr ?_
    refine q_for_ind (P := fun W' => q_low (q_later (q_lines false W).1) W') q_low.rf (fun i W1 hi h => h.up (by omega))
  · exact q_low.up (k := 0) h1.2.2 (by decide)
end
