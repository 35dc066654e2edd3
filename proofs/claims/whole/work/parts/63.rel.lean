section
/-! the class's places and the row W of the reference -/
theorem m1n : nI 4294967295 = -1 := by decide +kernel
/-- the number at i is below k -/
def q_lt (W : Nat → Int32) (i k : Nat) : Prop := W i = nI (q_n W i) ∧ q_n W i < k
theorem q_lt_of {W : Nat → Int32} {i k j : Nat} (h : W i = nI j) (hj : j < k) (hk : k ≤ 2 ^ 31) : q_lt W i k ∧ q_n W i = j := by
  unfold q_lt q_n
  rw [h, nI_clamp (by omega)]
  exact ⟨⟨rfl, hj⟩, rfl⟩
theorem q_lt_eq {W W' : Nat → Int32} {i k : Nat} (h : W' i = W i) : q_lt W i k → q_lt W' i k := by
  unfold q_lt q_n
  rw [h]
  exact id
theorem q_n_eq {W W' : Nat → Int32} {i : Nat} (h : W' i = W i) : q_n W' i = q_n W i := by
  unfold q_n
  rw [h]
theorem q_n_of {W : Nat → Int32} {i j : Nat} (h : W i = nI j) (hj : j < 2 ^ 31) : q_n W i = j := by
  unfold q_n
  rw [h, nI_clamp hj]
/-- rows that say the same: f at t is g at k + s t -/
def lkr (f g : Nat → Int32) (k s n : Nat) : Prop := ∀ t, t < n → f t = g (k + s * t)
theorem lkr.up {f g : Nat → Int32} {k s n a : Nat} {v : Int32} (h : lkr f g k s n) (hs : 0 < s) : lkr (upW f a v) (upW g (k + s * a) v) k s n := by
  intro t ht
  by_cases e : t = a
  · subst e; rw [upW_s, upW_s]
  · have hne : k + s * t ≠ k + s * a := fun e2 => e (Nat.eq_of_mul_eq_mul_left hs (Nat.add_left_cancel e2))
    rw [upW_n e, upW_n hne, h t ht]
theorem lkr.un {f g : Nat → Int32} {k s n j : Nat} {v : Int32} (h : lkr f g k s n) (hj : ∀ t, t < n → k + s * t ≠ j) : lkr f (upW g j v) k s n := by
  intro t ht
  rw [upW_n (hj t ht), h t ht]
theorem lkr.ch {f f' g g' : Nat → Int32} {k s n : Nat} (h : lkr f g k s n) (hf : f' = f) (hg : ∀ t, t < n → g' (k + s * t) = g (k + s * t)) : lkr f' g' k s n := by
  intro t ht
  rw [hf, hg t ht, h t ht]
def CRcrew (M : MMw) (c : Nat) (W : Nat → Int32) : Prop := M c 0 = W 96 ∧ M c 1 = W 97 ∧ M c 2 = W 102 ∧ M c 3 = W 103 ∧
  lkr (M (c + 1)) W 16 10 8 ∧ lkr (M (c + 2)) W 17 10 8 ∧ lkr (M (c + 3)) W 18 10 8 ∧ lkr (M (c + 4)) W 21 10 8 ∧ lkr (M (c + 5)) W 22 10 8 ∧
  lkr (M (c + 6)) W 130 2 4 ∧ lkr (M (c + 7)) W 131 2 4
def CRhull (M : MMw) (h : Nat) (W : Nat → Int32) : Prop := M h 0 = W 98 ∧ M h 4 = W 104 ∧
  lkr (M (h + 1)) W 142 3 (q_n W 98) ∧ lkr (M (h + 2)) W 143 3 (q_n W 98) ∧ lkr (M (h + 3)) W 144 3 (q_n W 98) ∧
  lkr (M (h + 4)) W 105 2 (q_n W 104) ∧ lkr (M (h + 5)) W 106 2 (q_n W 104)
def CRrota (M : MMw) (r : Nat) (W : Nat → Int32) : Prop := M r 0 = W 99 ∧
  lkr (M (r + 1)) W 166 5 (q_n W 99) ∧ lkr (M (r + 2)) W 167 5 (q_n W 99) ∧ lkr (M (r + 3)) W 168 5 (q_n W 99) ∧ lkr (M (r + 4)) W 169 5 (q_n W 99) ∧ lkr (M (r + 5)) W 170 5 (q_n W 99)
def CRlaw (M : MMw) (l : Nat) (W : Nat → Int32) (k : Nat) : Prop := M l 0 = W (100 + k) ∧
  (∀ i, i < q_n W (100 + k) → M (l + 1) i = W (362 + 16 * k + i) + nI 80 ∧ M (l + 2) i = W (266 + 16 * k + i) ∧ M (l + 3) i = W (298 + 16 * k + i) ∧ M (l + 4) i = W (330 + 16 * k + i)) ∧
  q_law W k (M (l + 5))
def CRbook (M : MMw) (b : Nat) (W : Nat → Int32) : Prop := lkr (M b) W 2034 1 800
def CRy (M : MMw) (b : Nat) (W : Nat → Int32) : Prop := CRcrew M (b + 1) W ∧ CRhull M (b + 16) W ∧ CRrota M (b + 24) W ∧ CRlaw M (b + 30) W 0 ∧ CRlaw M (b + 36) W 1
def CRm (M : MMw) (p : Nat) (W : Nat → Int32) : Prop := M p 6 = W 0 ∧ M p 7 = W 3 ∧ M p 8 = W 1 ∧ M p 9 = W 2 ∧
  lkr (M (p + 1)) W 19 10 8 ∧ lkr (M (p + 2)) W 20 10 8 ∧ lkr (M (p + 3)) W 23 10 8 ∧ lkr (M (p + 4)) W 24 10 8 ∧
  lkr (M (p + 5)) W 8 1 8 ∧ lkr (M (p + 6)) W 4 1 4
/-- the indices that hours move -/
def mvI (i : Nat) : Prop := i < 16 ∨ (i < 96 ∧ ((i - 16) % 10 = 3 ∨ (i - 16) % 10 = 4 ∨ (i - 16) % 10 = 7 ∨ (i - 16) % 10 = 8 ∨ (i - 16) % 10 = 9)) ∨ 2034 ≤ i
def sameY (W W' : Nat → Int32) : Prop := ∀ i, ¬ mvI i → W' i = W i
theorem sameY.rf {W : Nat → Int32} : sameY W W := fun _ _ => rfl
theorem sameY.tr {W W1 W2 : Nat → Int32} (h : sameY W W1) (h2 : sameY W1 W2) : sameY W W2 := fun i hi => (h2 i hi).trans (h i hi)
theorem sameY.up {W W1 : Nat → Int32} {k : Nat} {v : Int32} (h : sameY W W1) (hk : mvI k) : sameY W (upW W1 k v) := fun i hi => by
  rw [upW_n (fun e => hi (by rw [e]; exact hk))]
  exact h i hi
/-- the yard's places that these words speak of -/
abbrev Yp (b d : Nat) : Prop := (b + 1 ≤ d ∧ d ≤ b + 8) ∨ (b + 16 ≤ d ∧ d ≤ b + 21) ∨ (b + 24 ≤ d ∧ d ≤ b + 41)
theorem CRcrew.ch {M M' : MMw} {c : Nat} {W W' : Nat → Int32} (hM : ∀ d, c ≤ d → d ≤ c + 7 → M' d = M d) (hW : sameY W W') (h : CRcrew M c W) : CRcrew M' c W' := by
  obtain ⟨h1, h2, h3, h4, a1, a2, a3, a4, a5, a6, a7⟩ := h
  refine ⟨?_, ?_, ?_, ?_, a1.ch (hM _ (by omega) (by omega)) ?_, a2.ch (hM _ (by omega) (by omega)) ?_, a3.ch (hM _ (by omega) (by omega)) ?_, a4.ch (hM _ (by omega) (by omega)) ?_, a5.ch (hM _ (by omega) (by omega)) ?_, a6.ch (hM _ (by omega) (by omega)) ?_, a7.ch (hM _ (by omega) (by omega)) ?_⟩
  · rw [hM _ (by omega) (by omega), h1, hW _ (by unfold mvI; omega)]
  · rw [hM _ (by omega) (by omega), h2, hW _ (by unfold mvI; omega)]
  · rw [hM _ (by omega) (by omega), h3, hW _ (by unfold mvI; omega)]
  · rw [hM _ (by omega) (by omega), h4, hW _ (by unfold mvI; omega)]
  all_goals (intro t ht; exact hW _ (by unfold mvI; omega))
theorem CRhull.ch {M M' : MMw} {c : Nat} {W W' : Nat → Int32} (hM : ∀ d, c ≤ d → d ≤ c + 5 → M' d = M d) (hW : sameY W W') (hn : q_n W 98 ≤ 8) (hn2 : q_n W 104 ≤ 12) (h : CRhull M c W) : CRhull M' c W' := by
  obtain ⟨h1, h2, a1, a2, a3, a4, a5⟩ := h
  have w98 : q_n W' 98 = q_n W 98 := q_n_eq (hW _ (by unfold mvI; omega))
  have w104 : q_n W' 104 = q_n W 104 := q_n_eq (hW _ (by unfold mvI; omega))
  refine ⟨?_, ?_, ?_, ?_, ?_, ?_, ?_⟩
  · rw [hM _ (by omega) (by omega), h1, hW _ (by unfold mvI; omega)]
  · rw [hM _ (by omega) (by omega), h2, hW _ (by unfold mvI; omega)]
  · rw [w98]; exact a1.ch (hM _ (by omega) (by omega)) (fun t ht => hW _ (by unfold mvI; omega))
  · rw [w98]; exact a2.ch (hM _ (by omega) (by omega)) (fun t ht => hW _ (by unfold mvI; omega))
  · rw [w98]; exact a3.ch (hM _ (by omega) (by omega)) (fun t ht => hW _ (by unfold mvI; omega))
  · rw [w104]; exact a4.ch (hM _ (by omega) (by omega)) (fun t ht => hW _ (by unfold mvI; omega))
  · rw [w104]; exact a5.ch (hM _ (by omega) (by omega)) (fun t ht => hW _ (by unfold mvI; omega))
theorem CRrota.ch {M M' : MMw} {c : Nat} {W W' : Nat → Int32} (hM : ∀ d, c ≤ d → d ≤ c + 5 → M' d = M d) (hW : sameY W W') (hn : q_n W 99 ≤ 20) (h : CRrota M c W) : CRrota M' c W' := by
  obtain ⟨h1, a1, a2, a3, a4, a5⟩ := h
  have w99 : q_n W' 99 = q_n W 99 := q_n_eq (hW _ (by unfold mvI; omega))
  refine ⟨?_, ?_, ?_, ?_, ?_, ?_⟩
  · rw [hM _ (by omega) (by omega), h1, hW _ (by unfold mvI; omega)]
  all_goals rw [w99]
  · exact a1.ch (hM _ (by omega) (by omega)) (fun t ht => hW _ (by unfold mvI; omega))
  · exact a2.ch (hM _ (by omega) (by omega)) (fun t ht => hW _ (by unfold mvI; omega))
  · exact a3.ch (hM _ (by omega) (by omega)) (fun t ht => hW _ (by unfold mvI; omega))
  · exact a4.ch (hM _ (by omega) (by omega)) (fun t ht => hW _ (by unfold mvI; omega))
  · exact a5.ch (hM _ (by omega) (by omega)) (fun t ht => hW _ (by unfold mvI; omega))
theorem q_S_eq {W W' : Nat → Int32} (hW : sameY W W') {k i : Nat} (hk : k < 2) (hi : i < 410) : q_S W' k i = q_S W k i := by
  unfold q_S
  rw [hW _ (by unfold mvI; omega), hW _ (by unfold mvI; omega)]
theorem q_law.ch {W W' C : Nat → Int32} {k : Nat} (hk : k < 2) (hW : sameY W W') (h : q_law W k C) : q_law W' k C := by
  obtain ⟨l, hl, hw, h2⟩ := h
  refine ⟨l, hl, by rw [hW _ (by unfold mvI; omega)]; exact hw, fun i hi => ?_⟩
  obtain ⟨f, m, t, w, h1, h2, h3, h4, h5, h6, h7, h8, h9, h10, h11⟩ := h2 i hi
  refine ⟨f, m, t, w, h1, h2, h3, ?_, ?_, ?_, ?_, h8, h9, fun a => ?_, fun a => ?_⟩
  · rw [hW _ (by unfold mvI; omega)]; exact h4
  · rw [hW _ (by unfold mvI; omega)]; exact h5
  · rw [hW _ (by unfold mvI; omega)]; exact h6
  · rw [hW _ (by unfold mvI; omega)]; exact h7
  · exact q_wf_cong (fun j a b => ⟨(q_S_eq hW hk (by omega)).symm, rfl⟩) (h10 a)
  · exact q_wf_cong (fun j a b => ⟨(q_S_eq hW hk (by omega)).symm, rfl⟩) (h11 a)
theorem q_law.cnt {W C : Nat → Int32} {k : Nat} (h : q_law W k C) : W (100 + k) = nI (q_n W (100 + k)) ∧ q_n W (100 + k) ≤ 16 := by
  obtain ⟨l, hl, hw, _⟩ := h
  rw [q_n_of hw (by omega)]
  exact ⟨hw, hl⟩
theorem CRlaw.ch {M M' : MMw} {c k : Nat} {W W' : Nat → Int32} (hk : k < 2) (hM : ∀ d, c ≤ d → d ≤ c + 5 → M' d = M d) (hW : sameY W W') (h : CRlaw M c W k) : CRlaw M' c W' k := by
  obtain ⟨h1, h5, h6⟩ := h
  have hc := h6.cnt.2
  have w99 : W' (100 + k) = W (100 + k) := hW _ (by unfold mvI; omega)
  refine ⟨?_, ?_, ?_⟩
  · rw [hM _ (by omega) (by omega), h1, w99]
  · intro t ht
    rw [q_n_eq w99] at ht
    obtain ⟨a1, a2, a3, a4⟩ := h5 t ht
    refine ⟨?_, ?_, ?_, ?_⟩
    · rw [hM _ (by omega) (by omega), a1, hW _ (by unfold mvI; omega)]
    · rw [hM _ (by omega) (by omega), a2, hW _ (by unfold mvI; omega)]
    · rw [hM _ (by omega) (by omega), a3, hW _ (by unfold mvI; omega)]
    · rw [hM _ (by omega) (by omega), a4, hW _ (by unfold mvI; omega)]
  · rw [hM _ (by omega) (by omega)]; exact h6.ch hk hW
/-- how many there are, at most -/
def q_top (W : Nat → Int32) : Prop := q_lt W 96 9 ∧ q_lt W 97 5 ∧ q_lt W 98 9 ∧ q_lt W 99 21 ∧ q_lt W 104 13
theorem q_top.ch {W W' : Nat → Int32} (hW : sameY W W') (h : q_top W) : q_top W' := by
  obtain ⟨a, b, c, d, e⟩ := h
  exact ⟨q_lt_eq (hW _ (by unfold mvI; omega)) a, q_lt_eq (hW _ (by unfold mvI; omega)) b, q_lt_eq (hW _ (by unfold mvI; omega)) c, q_lt_eq (hW _ (by unfold mvI; omega)) d, q_lt_eq (hW _ (by unfold mvI; omega)) e⟩
theorem CRy.ch {M M' : MMw} {b : Nat} {W W' : Nat → Int32} (hM : ∀ d, Yp b d → M' d = M d) (hW : sameY W W') (ht : q_top W) (h : CRy M b W) : CRy M' b W' := by
  obtain ⟨_, _, h98, h99, h104⟩ := ht
  have e98 := h98.2; have e99 := h99.2; have e104 := h104.2
  exact ⟨h.1.ch (fun d h1 h2 => hM d (by unfold Yp; omega)) hW, h.2.1.ch (fun d h1 h2 => hM d (by unfold Yp; omega)) hW (by omega) (by omega), h.2.2.1.ch (fun d h1 h2 => hM d (by unfold Yp; omega)) hW (by omega),
    h.2.2.2.1.ch (by decide) (fun d h1 h2 => hM d (by unfold Yp; omega)) hW, h.2.2.2.2.ch (by decide) (fun d h1 h2 => hM d (by unfold Yp; omega)) hW⟩
/-- other places: nothing changes -/
theorem CRy.fr {L : List Nat} {M M' : MMw} {b : Nat} {W : Nat → Int32} (h : Fr L M M') (hL : ∀ d, d ∈ L → ¬ Yp b d) (ht : q_top W) (hy : CRy M b W) : CRy M' b W :=
  hy.ch (fun d hd => h d (fun hl => hL d hl hd)) sameY.rf ht
theorem CRm.fr {L : List Nat} {M M' : MMw} {p : Nat} {W : Nat → Int32} (h : Fr L M M') (hL : ∀ d, d ∈ L → d < p ∨ p + 7 ≤ d) (hm : CRm M p W) : CRm M' p W := by
  have e : ∀ d, p ≤ d → d < p + 7 → M' d = M d := fun d h1 h2 => h d (fun hd => by have := hL d hd; omega)
  obtain ⟨h1, h2, h3, h4, a1, a2, a3, a4, a5, a6⟩ := hm
  rw [← e _ (by omega) (by omega)] at h1 h2 h3 h4 a1 a2 a3 a4 a5 a6
  exact ⟨h1, h2, h3, h4, a1, a2, a3, a4, a5, a6⟩
/-- what stays true of W: what hours don't move -/
def q_invY (W : Nat → Int32) : Prop := q_top W ∧ q_lt W 102 1001 ∧ q_lt W 103 81 ∧
  (∀ t, t < 8 → q_kb W t ∧ q_lt W (18 + 10 * t) 2 ∧ q_lt W (21 + 10 * t) 10 ∧ q_lt W (22 + 10 * t) 8) ∧
  (∀ m, m < 4 → q_lt W (130 + 2 * m) 100 ∧ q_lt W (131 + 2 * m) 2) ∧
  (∀ i, i < q_n W 98 → q_lt W (142 + 3 * i) 4 ∧ q_lt W (143 + 3 * i) 4 ∧ 1 ≤ q_n W (143 + 3 * i) ∧ q_lt W (144 + 3 * i) (2 ^ i)) ∧
  (∀ j, j < q_n W 104 → q_lt W (105 + 2 * j) (q_n W 98) ∧ q_lt W (106 + 2 * j) (q_n W 98) ∧ q_n W (105 + 2 * j) ≠ q_n W (106 + 2 * j)) ∧
  (∀ i, i < q_n W 99 → q_lt W (166 + 5 * i) (q_n W 96) ∧ q_lt W (167 + 5 * i) (q_n W 97) ∧ q_lt W (168 + 5 * i) (q_n W 98) ∧ q_lt W (169 + 5 * i) 10000 ∧ q_lt W (170 + 5 * i) 100 ∧ 1 ≤ q_n W (170 + 5 * i))
theorem q_kb.ch {W W' : Nat → Int32} {t : Nat} (hW : sameY W W') (ht : t < 8) (h : q_kb W t) : q_kb W' t := by
  have e1 : W' (17 + 10 * t) = W (17 + 10 * t) := hW _ (by unfold mvI; omega)
  have e2 : W' (16 + 10 * t) = W (16 + 10 * t) := hW _ (by unfold mvI; omega)
  unfold q_kb
  rw [q_n_eq e1, q_n_eq e2, e1, e2]
  exact h
theorem q_invY.ch {W W' : Nat → Int32} (hW : sameY W W') (h : q_invY W) : q_invY W' := by
  obtain ⟨h0, h1, h2, h3, h4, h5, h6, h7⟩ := h
  obtain ⟨t1, t2, t3, t4, t5⟩ := id h0
  have b1 := t1.2; have b2 := t2.2; have b3 := t3.2; have b4 := t4.2; have b5 := t5.2
  have e96 : q_n W' 96 = q_n W 96 := q_n_eq (hW _ (by unfold mvI; omega))
  have e97 : q_n W' 97 = q_n W 97 := q_n_eq (hW _ (by unfold mvI; omega))
  have e98 : q_n W' 98 = q_n W 98 := q_n_eq (hW _ (by unfold mvI; omega))
  have e99 : q_n W' 99 = q_n W 99 := q_n_eq (hW _ (by unfold mvI; omega))
  have e104 : q_n W' 104 = q_n W 104 := q_n_eq (hW _ (by unfold mvI; omega))
  refine ⟨h0.ch hW, q_lt_eq (hW _ (by unfold mvI; omega)) h1, q_lt_eq (hW _ (by unfold mvI; omega)) h2, fun t ht => ?_, fun m hm => ?_, fun i hi => ?_, fun j hj => ?_, fun i hi => ?_⟩
  · obtain ⟨a, b, c, d⟩ := h3 t ht
    exact ⟨a.ch hW ht, q_lt_eq (hW _ (by unfold mvI; omega)) b, q_lt_eq (hW _ (by unfold mvI; omega)) c, q_lt_eq (hW _ (by unfold mvI; omega)) d⟩
  · obtain ⟨a, b⟩ := h4 m hm
    exact ⟨q_lt_eq (hW _ (by unfold mvI; omega)) a, q_lt_eq (hW _ (by unfold mvI; omega)) b⟩
  · rw [e98] at hi
    obtain ⟨a, b, c, d⟩ := h5 i hi
    refine ⟨q_lt_eq (hW _ (by unfold mvI; omega)) a, q_lt_eq (hW _ (by unfold mvI; omega)) b, ?_, q_lt_eq (hW _ (by unfold mvI; omega)) d⟩
    rw [q_n_eq (hW (143 + 3 * i) (by unfold mvI; omega))]
    exact c
  · rw [e104] at hj
    obtain ⟨a, b, c⟩ := h6 j hj
    rw [e98]
    refine ⟨q_lt_eq (hW _ (by unfold mvI; omega)) a, q_lt_eq (hW _ (by unfold mvI; omega)) b, ?_⟩
    rw [q_n_eq (hW (105 + 2 * j) (by unfold mvI; omega)), q_n_eq (hW (106 + 2 * j) (by unfold mvI; omega))]
    exact c
  · rw [e99] at hi
    obtain ⟨a, b, c, d, e, f⟩ := h7 i hi
    rw [e96, e97, e98]
    refine ⟨q_lt_eq (hW _ (by unfold mvI; omega)) a, q_lt_eq (hW _ (by unfold mvI; omega)) b, q_lt_eq (hW _ (by unfold mvI; omega)) c, q_lt_eq (hW _ (by unfold mvI; omega)) d, q_lt_eq (hW _ (by unfold mvI; omega)) e, ?_⟩
    rw [q_n_eq (hW (170 + 5 * i) (by unfold mvI; omega))]
    exact f
/-- what is done has what goes before it done -/
def q_dn (W : Nat → Int32) (i : Nat) : Prop := W (8 + i) = W (143 + 3 * i) → ∀ l, l < i → (q_n W (144 + 3 * i)).testBit l = true → W (8 + l) = W (143 + 3 * l)
theorem q_dn.cg {W W' : Nat → Int32} {i : Nat} (h : q_dn W i) (hi : i < 8) (e : ∀ k, (8 ≤ k ∧ k < 16) ∨ (142 ≤ k ∧ k < 166) → W' k = W k) : q_dn W' i := by
  intro h1 l hl hb
  rw [e _ (by omega), e _ (by omega)] at h1
  rw [q_n_eq (e _ (by omega))] at hb
  rw [e _ (by omega), e _ (by omega)]
  exact h h1 l hl hb
/-- and what they do -/
def q_invM (W : Nat → Int32) : Prop := q_lt W 2 201 ∧ q_lt W 1 16 ∧ (∀ b, b < 4 → q_lt W (4 + b) 16) ∧
  (∀ t, t < 8 → q_lt W (19 + 10 * t) 100 ∧ q_lt W (20 + 10 * t) 100 ∧ (q_n W 96 ≤ t → W (23 + 10 * t) = nI 0)) ∧
  (∀ i, i < q_n W 98 → q_lt W (8 + i) 4 ∧ q_n W (8 + i) ≤ q_n W (143 + 3 * i) ∧ q_dn W i)
/-- the class, its moves at P, as W has it -/
def CX (M : MMw) (P : Nat) (W : Nat → Int32) : Prop := CRy M 1 W ∧ CRm M P W ∧ q_invY W ∧ q_invM W
theorem CX.fr {L : List Nat} {M M' : MMw} {P : Nat} {W : Nat → Int32} (h : Fr L M M') (hL : ∀ d, d ∈ L → ¬ Yp 1 d ∧ (d < P ∨ P + 7 ≤ d)) (hy : CX M P W) : CX M' P W :=
  ⟨hy.1.fr h (fun d hd => (hL d hd).1) hy.2.2.1.1, hy.2.1.fr h (fun d hd => (hL d hd).2), hy.2.2.1, hy.2.2.2⟩
end
