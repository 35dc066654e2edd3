section
-- needs: defs
/-! the class's places and the row W of the reference -/
/-- the number at i is below k -/
def q_lt (W : Nat → Int32) (i k : Nat) : Prop := W i = nI (q_n W i) ∧ q_n W i < k
theorem q_lt_of {W : Nat → Int32} {i k j : Nat} (h : W i = nI j) (hj : j < k) (hk : k ≤ 2 ^ 31) : q_lt W i k ∧ q_n W i = j := by
  unfold q_lt q_n
  rw [h, nI_clamp (by omega)]
  exact ⟨⟨rfl, hj⟩, rfl⟩
theorem q_lt_eq {W W' : Nat → Int32} {i k : Nat} (h : W' i = W i) : q_lt W i k → q_lt W' i k := by
  unfold q_lt q_n
  rw [h]
  exact id
theorem q_n_eq {W W' : Nat → Int32} {i : Nat} (h : W' i = W i) : q_n W' i = q_n W i := by
  unfold q_n
  rw [h]
def CRcrew (M : MMw) (c : Nat) (W : Nat → Int32) : Prop := M c 0 = W 96 ∧ M c 1 = W 97 ∧ M c 2 = W 102 ∧ M c 3 = W 103 ∧
  (∀ t, t < q_n W 96 → M (c + 1) t = W (16 + 10 * t) ∧ M (c + 2) t = W (17 + 10 * t) ∧ M (c + 3) t = W (18 + 10 * t) ∧ M (c + 4) t = W (21 + 10 * t) ∧ M (c + 5) t = W (22 + 10 * t)) ∧
  (∀ m, m < q_n W 97 → M (c + 6) m = W (130 + 2 * m) ∧ M (c + 7) m = W (131 + 2 * m))
def CRhull (M : MMw) (h : Nat) (W : Nat → Int32) : Prop := M h 0 = W 98 ∧ M h 4 = W 104 ∧
  (∀ i, i < q_n W 98 → M (h + 1) i = W (142 + 3 * i) ∧ M (h + 2) i = W (143 + 3 * i) ∧ M (h + 3) i = W (144 + 3 * i)) ∧
  (∀ j, j < q_n W 104 → M (h + 4) j = W (105 + 2 * j) ∧ M (h + 5) j = W (106 + 2 * j))
def CRrota (M : MMw) (r : Nat) (W : Nat → Int32) : Prop := M r 0 = W 99 ∧
  (∀ i, i < q_n W 99 → M (r + 1) i = W (166 + 5 * i) ∧ M (r + 2) i = W (167 + 5 * i) ∧ M (r + 3) i = W (168 + 5 * i) ∧ M (r + 4) i = W (169 + 5 * i) ∧ M (r + 5) i = W (170 + 5 * i))
def CRlaw (M : MMw) (l : Nat) (W : Nat → Int32) (k : Nat) : Prop := M l 0 = W (100 + k) ∧
  (∀ i, i < q_n W (100 + k) → M (l + 1) i = W (362 + 16 * k + i) + nI 80 ∧ M (l + 2) i = W (266 + 16 * k + i) ∧ M (l + 3) i = W (298 + 16 * k + i) ∧ M (l + 4) i = W (330 + 16 * k + i)) ∧
  q_law W k (M (l + 5))
def CRbook (M : MMw) (b : Nat) (W : Nat → Int32) : Prop := ∀ i, i < 4 * q_n W 2 → M b i = W (2034 + i)
def CRy (M : MMw) (b : Nat) (W : Nat → Int32) : Prop := CRcrew M (b + 1) W ∧ CRhull M (b + 16) W ∧ CRrota M (b + 24) W ∧ CRlaw M (b + 30) W 0 ∧ CRlaw M (b + 36) W 1
def CRm (M : MMw) (p : Nat) (W : Nat → Int32) : Prop := M p 6 = W 0 ∧ M p 7 = W 3 ∧ M p 8 = W 1 ∧ M p 9 = W 2 ∧
  (∀ t, t < q_n W 96 → M (p + 1) t = W (19 + 10 * t) ∧ M (p + 2) t = W (20 + 10 * t) ∧ M (p + 3) t = W (23 + 10 * t) ∧ M (p + 4) t = W (24 + 10 * t)) ∧
  (∀ i, i < 8 → M (p + 5) i = W (8 + i)) ∧ (∀ b, b < 4 → M (p + 6) b = W (4 + b))
/-- the indices that hours move -/
def mvI (i : Nat) : Prop := i < 16 ∨ (i < 96 ∧ ((i - 16) % 10 = 3 ∨ (i - 16) % 10 = 4 ∨ (i - 16) % 10 = 7 ∨ (i - 16) % 10 = 8 ∨ (i - 16) % 10 = 9))
theorem CRcrew.ch {M M' : MMw} {c : Nat} {W W' : Nat → Int32} (hM : ∀ d, c ≤ d → d ≤ c + 7 → M' d = M d) (hW : ∀ i, ¬ mvI i → W' i = W i) (hT : q_n W 96 ≤ 8) (h : CRcrew M c W) : CRcrew M' c W' := by
  obtain ⟨h1, h2, h3, h4, h5, h6⟩ := h
  have w96 : W' 96 = W 96 := hW _ (by unfold mvI; omega)
  have w97 : W' 97 = W 97 := hW _ (by unfold mvI; omega)
  refine ⟨?_, ?_, ?_, ?_, ?_, ?_⟩
  · rw [hM _ (by omega) (by omega), h1, w96]
  · rw [hM _ (by omega) (by omega), h2, w97]
  · rw [hM _ (by omega) (by omega), h3, hW _ (by unfold mvI; omega)]
  · rw [hM _ (by omega) (by omega), h4, hW _ (by unfold mvI; omega)]
  · intro t ht
    rw [q_n_eq w96] at ht
    obtain ⟨a1, a2, a3, a4, a5⟩ := h5 t ht
    refine ⟨?_, ?_, ?_, ?_, ?_⟩
    · rw [hM _ (by omega) (by omega), a1, hW _ (by unfold mvI; omega)]
    · rw [hM _ (by omega) (by omega), a2, hW _ (by unfold mvI; omega)]
    · rw [hM _ (by omega) (by omega), a3, hW _ (by unfold mvI; omega)]
    · rw [hM _ (by omega) (by omega), a4, hW _ (by unfold mvI; omega)]
    · rw [hM _ (by omega) (by omega), a5, hW _ (by unfold mvI; omega)]
  · intro t ht
    rw [q_n_eq w97] at ht
    obtain ⟨a1, a2⟩ := h6 t ht
    refine ⟨?_, ?_⟩
    · rw [hM _ (by omega) (by omega), a1, hW _ (by unfold mvI; omega)]
    · rw [hM _ (by omega) (by omega), a2, hW _ (by unfold mvI; omega)]
theorem CRhull.ch {M M' : MMw} {c : Nat} {W W' : Nat → Int32} (hM : ∀ d, c ≤ d → d ≤ c + 5 → M' d = M d) (hW : ∀ i, ¬ mvI i → W' i = W i) (h : CRhull M c W) : CRhull M' c W' := by
  obtain ⟨h1, h2, h5, h6⟩ := h
  have w98 : W' 98 = W 98 := hW _ (by unfold mvI; omega)
  have w104 : W' 104 = W 104 := hW _ (by unfold mvI; omega)
  refine ⟨?_, ?_, ?_, ?_⟩
  · rw [hM _ (by omega) (by omega), h1, w98]
  · rw [hM _ (by omega) (by omega), h2, w104]
  · intro t ht
    rw [q_n_eq w98] at ht
    obtain ⟨a1, a2, a3⟩ := h5 t ht
    refine ⟨?_, ?_, ?_⟩
    · rw [hM _ (by omega) (by omega), a1, hW _ (by unfold mvI; omega)]
    · rw [hM _ (by omega) (by omega), a2, hW _ (by unfold mvI; omega)]
    · rw [hM _ (by omega) (by omega), a3, hW _ (by unfold mvI; omega)]
  · intro t ht
    rw [q_n_eq w104] at ht
    obtain ⟨a1, a2⟩ := h6 t ht
    refine ⟨?_, ?_⟩
    · rw [hM _ (by omega) (by omega), a1, hW _ (by unfold mvI; omega)]
    · rw [hM _ (by omega) (by omega), a2, hW _ (by unfold mvI; omega)]
theorem CRrota.ch {M M' : MMw} {c : Nat} {W W' : Nat → Int32} (hM : ∀ d, c ≤ d → d ≤ c + 5 → M' d = M d) (hW : ∀ i, ¬ mvI i → W' i = W i) (h : CRrota M c W) : CRrota M' c W' := by
  obtain ⟨h1, h5⟩ := h
  have w99 : W' 99 = W 99 := hW _ (by unfold mvI; omega)
  refine ⟨?_, ?_⟩
  · rw [hM _ (by omega) (by omega), h1, w99]
  · intro t ht
    rw [q_n_eq w99] at ht
    obtain ⟨a1, a2, a3, a4, a5⟩ := h5 t ht
    refine ⟨?_, ?_, ?_, ?_, ?_⟩
    · rw [hM _ (by omega) (by omega), a1, hW _ (by unfold mvI; omega)]
    · rw [hM _ (by omega) (by omega), a2, hW _ (by unfold mvI; omega)]
    · rw [hM _ (by omega) (by omega), a3, hW _ (by unfold mvI; omega)]
    · rw [hM _ (by omega) (by omega), a4, hW _ (by unfold mvI; omega)]
    · rw [hM _ (by omega) (by omega), a5, hW _ (by unfold mvI; omega)]
theorem q_S_eq {W W' : Nat → Int32} (hW : ∀ i, ¬ mvI i → W' i = W i) (k : Nat) : q_S W' k = q_S W k := by
  funext i
  unfold q_S
  rw [hW _ (by unfold mvI; omega), hW _ (by unfold mvI; omega)]
theorem q_law.ch {W W' C : Nat → Int32} {k : Nat} (hW : ∀ i, ¬ mvI i → W' i = W i) (h : q_law W k C) : q_law W' k C := by
  obtain ⟨l, hl, hw, h2⟩ := h
  refine ⟨l, hl, by rw [hW _ (by unfold mvI; omega)]; exact hw, fun i hi => ?_⟩
  obtain ⟨f, m, t, w, h1, h2, h3, h4, h5, h6, h7, h8, h9, h10, h11⟩ := h2 i hi
  refine ⟨f, m, t, w, h1, h2, h3, ?_, ?_, ?_, ?_, h8, h9, ?_, ?_⟩
  · rw [hW _ (by unfold mvI; omega)]; exact h4
  · rw [hW _ (by unfold mvI; omega)]; exact h5
  · rw [hW _ (by unfold mvI; omega)]; exact h6
  · rw [hW _ (by unfold mvI; omega)]; exact h7
  · rw [q_S_eq hW]; exact h10
  · rw [q_S_eq hW]; exact h11
theorem CRlaw.ch {M M' : MMw} {c k : Nat} {W W' : Nat → Int32} (hM : ∀ d, c ≤ d → d ≤ c + 5 → M' d = M d) (hW : ∀ i, ¬ mvI i → W' i = W i) (h : CRlaw M c W k) : CRlaw M' c W' k := by
  obtain ⟨h1, h5, h6⟩ := h
  have w99 : W' (100 + k) = W (100 + k) := hW _ (by unfold mvI; omega)
  refine ⟨?_, ?_, ?_⟩
  · rw [hM _ (by omega) (by omega), h1, w99]
  · intro t ht
    rw [q_n_eq w99] at ht
    obtain ⟨a1, a2, a3, a4⟩ := h5 t ht
    refine ⟨?_, ?_, ?_, ?_⟩
    · rw [hM _ (by omega) (by omega), a1, hW _ (by unfold mvI; omega)]
    · rw [hM _ (by omega) (by omega), a2, hW _ (by unfold mvI; omega)]
    · rw [hM _ (by omega) (by omega), a3, hW _ (by unfold mvI; omega)]
    · rw [hM _ (by omega) (by omega), a4, hW _ (by unfold mvI; omega)]
  · rw [hM _ (by omega) (by omega)]; exact h6.ch hW
theorem CRy.ch {M M' : MMw} {b : Nat} {W W' : Nat → Int32} (hM : ∀ d, b < d → d < b + 42 → (d < b + 9 ∨ b + 15 < d) → M' d = M d) (hW : ∀ i, ¬ mvI i → W' i = W i) (hT : q_n W 96 ≤ 8) (h : CRy M b W) : CRy M' b W' :=
  ⟨h.1.ch (fun d h1 h2 => hM d (by omega) (by omega) (by omega)) hW hT, h.2.1.ch (fun d h1 h2 => hM d (by omega) (by omega) (by omega)) hW, h.2.2.1.ch (fun d h1 h2 => hM d (by omega) (by omega) (by omega)) hW,
    h.2.2.2.1.ch (fun d h1 h2 => hM d (by omega) (by omega) (by omega)) hW, h.2.2.2.2.ch (fun d h1 h2 => hM d (by omega) (by omega) (by omega)) hW⟩
/-- other places: nothing changes -/
theorem CRy.fr {L : List Nat} {M M' : MMw} {b : Nat} {W : Nat → Int32} (h : Fr L M M') (hL : ∀ d, d ∈ L → d ≤ b ∨ b + 42 ≤ d ∨ (b + 9 ≤ d ∧ d ≤ b + 15)) (hT : q_n W 96 ≤ 8) (hy : CRy M b W) : CRy M' b W :=
  hy.ch (fun d h1 h2 h3 => h d (fun hd => by have := hL d hd; omega)) (fun _ _ => rfl) hT
theorem CRm.fr {L : List Nat} {M M' : MMw} {p : Nat} {W : Nat → Int32} (h : Fr L M M') (hL : ∀ d, d ∈ L → d < p ∨ p + 7 ≤ d) (hm : CRm M p W) : CRm M' p W := by
  have e : ∀ d, p ≤ d → d < p + 7 → M' d = M d := fun d h1 h2 => h d (fun hd => by have := hL d hd; omega)
  obtain ⟨h1, h2, h3, h4, h5, h6, h7⟩ := hm
  refine ⟨?_, ?_, ?_, ?_, ?_, ?_, ?_⟩
  · rw [e _ (by omega) (by omega)]; exact h1
  · rw [e _ (by omega) (by omega)]; exact h2
  · rw [e _ (by omega) (by omega)]; exact h3
  · rw [e _ (by omega) (by omega)]; exact h4
  · rw [e _ (by omega) (by omega), e _ (by omega) (by omega), e _ (by omega) (by omega), e _ (by omega) (by omega)]; exact h5
  · rw [e _ (by omega) (by omega)]; exact h6
  · rw [e _ (by omega) (by omega)]; exact h7
/-- what stays true of W: what hours don't move -/
def q_invY (W : Nat → Int32) : Prop := q_lt W 96 9 ∧ q_lt W 97 5 ∧ q_lt W 98 9 ∧ q_lt W 99 21 ∧ q_lt W 104 13 ∧ q_lt W 102 1001 ∧ q_lt W 103 81 ∧
  (∀ t, t < q_n W 96 → q_kb W t ∧ q_lt W (18 + 10 * t) 2 ∧ q_lt W (21 + 10 * t) 10 ∧ q_lt W (22 + 10 * t) 8) ∧
  (∀ m, m < q_n W 97 → q_lt W (130 + 2 * m) 100 ∧ q_lt W (131 + 2 * m) 2) ∧
  (∀ i, i < q_n W 98 → q_lt W (142 + 3 * i) 4 ∧ q_lt W (143 + 3 * i) 4 ∧ 1 ≤ q_n W (143 + 3 * i) ∧ q_lt W (144 + 3 * i) (2 ^ i)) ∧
  (∀ j, j < q_n W 104 → q_lt W (105 + 2 * j) (q_n W 98) ∧ q_lt W (106 + 2 * j) (q_n W 98) ∧ q_n W (105 + 2 * j) ≠ q_n W (106 + 2 * j)) ∧
  (∀ i, i < q_n W 99 → q_lt W (166 + 5 * i) (q_n W 96) ∧ q_lt W (167 + 5 * i) (q_n W 97) ∧ q_lt W (168 + 5 * i) (q_n W 98) ∧ q_lt W (169 + 5 * i) 10000 ∧ q_lt W (170 + 5 * i) 100 ∧ 1 ≤ q_n W (170 + 5 * i))
/-- and what they do -/
def q_invM (W : Nat → Int32) : Prop := q_lt W 2 201 ∧ q_lt W 1 16 ∧ (∀ b, b < 4 → q_lt W (4 + b) 16) ∧
  (∀ t, t < q_n W 96 → q_lt W (19 + 10 * t) 100 ∧ q_lt W (20 + 10 * t) 100) ∧
  (∀ i, i < q_n W 98 → q_lt W (8 + i) 4 ∧ q_n W (8 + i) ≤ q_n W (143 + 3 * i) ∧ (0 < q_n W (8 + i) → ∀ j, j < i → (q_n W (144 + 3 * i)).testBit j = true → q_n W (8 + j) = q_n W (143 + 3 * j)))
end
