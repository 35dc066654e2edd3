section
-- needs: tape
/-! rows of W that say the same below 2034 -/
def eqE (W W' : Nat → Int32) : Prop := ∀ k, k < 2034 → W' k = W k
theorem CRcrew.chE {M M' : MMw} {c : Nat} {W W' : Nat → Int32} (hM : ∀ d, c ≤ d → d ≤ c + 7 → M' d = M d) (hW : eqE W W') (h : CRcrew M c W) : CRcrew M' c W' := by
  obtain ⟨h1, h2, h3, h4, a1, a2, a3, a4, a5, a6, a7⟩ := h
  refine ⟨?_, ?_, ?_, ?_, a1.ch (hM _ (by omega) (by omega)) ?_, a2.ch (hM _ (by omega) (by omega)) ?_, a3.ch (hM _ (by omega) (by omega)) ?_, a4.ch (hM _ (by omega) (by omega)) ?_, a5.ch (hM _ (by omega) (by omega)) ?_, a6.ch (hM _ (by omega) (by omega)) ?_, a7.ch (hM _ (by omega) (by omega)) ?_⟩
  · rw [hM _ (by omega) (by omega), h1, hW _ (by omega)]
  · rw [hM _ (by omega) (by omega), h2, hW _ (by omega)]
  · rw [hM _ (by omega) (by omega), h3, hW _ (by omega)]
  · rw [hM _ (by omega) (by omega), h4, hW _ (by omega)]
  all_goals (intro t ht; exact hW _ (by omega))
theorem CRhull.chE {M M' : MMw} {c : Nat} {W W' : Nat → Int32} (hM : ∀ d, c ≤ d → d ≤ c + 5 → M' d = M d) (hW : eqE W W') (hn : q_n W 98 ≤ 8) (hn2 : q_n W 104 ≤ 12) (h : CRhull M c W) : CRhull M' c W' := by
  obtain ⟨h1, h2, a1, a2, a3, a4, a5⟩ := h
  have w98 : q_n W' 98 = q_n W 98 := q_n_eq (hW _ (by omega))
  have w104 : q_n W' 104 = q_n W 104 := q_n_eq (hW _ (by omega))
  refine ⟨?_, ?_, ?_, ?_, ?_, ?_, ?_⟩
  · rw [hM _ (by omega) (by omega), h1, hW _ (by omega)]
  · rw [hM _ (by omega) (by omega), h2, hW _ (by omega)]
  · rw [w98]; exact a1.ch (hM _ (by omega) (by omega)) (fun t ht => hW _ (by omega))
  · rw [w98]; exact a2.ch (hM _ (by omega) (by omega)) (fun t ht => hW _ (by omega))
  · rw [w98]; exact a3.ch (hM _ (by omega) (by omega)) (fun t ht => hW _ (by omega))
  · rw [w104]; exact a4.ch (hM _ (by omega) (by omega)) (fun t ht => hW _ (by omega))
  · rw [w104]; exact a5.ch (hM _ (by omega) (by omega)) (fun t ht => hW _ (by omega))
theorem CRrota.chE {M M' : MMw} {c : Nat} {W W' : Nat → Int32} (hM : ∀ d, c ≤ d → d ≤ c + 5 → M' d = M d) (hW : eqE W W') (hn : q_n W 99 ≤ 20) (h : CRrota M c W) : CRrota M' c W' := by
  obtain ⟨h1, a1, a2, a3, a4, a5⟩ := h
  have w99 : q_n W' 99 = q_n W 99 := q_n_eq (hW _ (by omega))
  refine ⟨?_, ?_, ?_, ?_, ?_, ?_⟩
  · rw [hM _ (by omega) (by omega), h1, hW _ (by omega)]
  all_goals rw [w99]
  · exact a1.ch (hM _ (by omega) (by omega)) (fun t ht => hW _ (by omega))
  · exact a2.ch (hM _ (by omega) (by omega)) (fun t ht => hW _ (by omega))
  · exact a3.ch (hM _ (by omega) (by omega)) (fun t ht => hW _ (by omega))
  · exact a4.ch (hM _ (by omega) (by omega)) (fun t ht => hW _ (by omega))
  · exact a5.ch (hM _ (by omega) (by omega)) (fun t ht => hW _ (by omega))
theorem q_S_eqE {W W' : Nat → Int32} (hW : eqE W W') {k i : Nat} (hk : k < 2) (hi : i < 410) : q_S W' k i = q_S W k i := by
  unfold q_S
  rw [hW _ (by omega), hW _ (by omega)]
theorem q_law.chE {W W' C : Nat → Int32} {k : Nat} (hk : k < 2) (hW : eqE W W') (h : q_law W k C) : q_law W' k C := by
  obtain ⟨l, hl, hw, h2⟩ := h
  refine ⟨l, hl, by rw [hW _ (by omega)]; exact hw, fun i hi => ?_⟩
  obtain ⟨f, m, t, w, h1, h2, h3, h4, h5, h6, h7, h8, h9, h10, h11⟩ := h2 i hi
  refine ⟨f, m, t, w, h1, h2, h3, ?_, ?_, ?_, ?_, h8, h9, fun a => ?_, fun a => ?_⟩
  · rw [hW _ (by omega)]; exact h4
  · rw [hW _ (by omega)]; exact h5
  · rw [hW _ (by omega)]; exact h6
  · rw [hW _ (by omega)]; exact h7
  · exact q_wf_cong (fun j a b => ⟨(q_S_eqE hW hk (by omega)).symm, rfl⟩) (h10 a)
  · exact q_wf_cong (fun j a b => ⟨(q_S_eqE hW hk (by omega)).symm, rfl⟩) (h11 a)
theorem CRlaw.chE {M M' : MMw} {c k : Nat} {W W' : Nat → Int32} (hk : k < 2) (hM : ∀ d, c ≤ d → d ≤ c + 5 → M' d = M d) (hW : eqE W W') (h : CRlaw M c W k) : CRlaw M' c W' k := by
  obtain ⟨h1, h5, h6⟩ := h
  have hc := h6.cnt.2
  have w99 : W' (100 + k) = W (100 + k) := hW _ (by omega)
  refine ⟨?_, ?_, ?_⟩
  · rw [hM _ (by omega) (by omega), h1, w99]
  · intro t ht
    rw [q_n_eq w99] at ht
    obtain ⟨a1, a2, a3, a4⟩ := h5 t ht
    refine ⟨?_, ?_, ?_, ?_⟩
    · rw [hM _ (by omega) (by omega), a1, hW _ (by omega)]
    · rw [hM _ (by omega) (by omega), a2, hW _ (by omega)]
    · rw [hM _ (by omega) (by omega), a3, hW _ (by omega)]
    · rw [hM _ (by omega) (by omega), a4, hW _ (by omega)]
  · rw [hM _ (by omega) (by omega)]; exact h6.chE hk hW
theorem q_top.chE {W W' : Nat → Int32} (hW : eqE W W') (h : q_top W) : q_top W' := by
  obtain ⟨a, b, c, d, e⟩ := h
  exact ⟨q_lt_eq (hW _ (by omega)) a, q_lt_eq (hW _ (by omega)) b, q_lt_eq (hW _ (by omega)) c, q_lt_eq (hW _ (by omega)) d, q_lt_eq (hW _ (by omega)) e⟩
theorem CRy.chE {M M' : MMw} {b : Nat} {W W' : Nat → Int32} (hM : ∀ d, Yp b d → M' d = M d) (hW : eqE W W') (ht : q_top W) (h : CRy M b W) : CRy M' b W' := by
  obtain ⟨_, _, h98, h99, h104⟩ := ht
  have e98 := h98.2; have e99 := h99.2; have e104 := h104.2
  exact ⟨h.1.chE (fun d h1 h2 => hM d (by unfold Yp; omega)) hW, h.2.1.chE (fun d h1 h2 => hM d (by unfold Yp; omega)) hW (by omega) (by omega), h.2.2.1.chE (fun d h1 h2 => hM d (by unfold Yp; omega)) hW (by omega),
    h.2.2.2.1.chE (by decide) (fun d h1 h2 => hM d (by unfold Yp; omega)) hW, h.2.2.2.2.chE (by decide) (fun d h1 h2 => hM d (by unfold Yp; omega)) hW⟩
theorem q_kb.chE {W W' : Nat → Int32} {t : Nat} (hW : eqE W W') (ht : t < 8) (h : q_kb W t) : q_kb W' t := by
  have e1 : W' (17 + 10 * t) = W (17 + 10 * t) := hW _ (by omega)
  have e2 : W' (16 + 10 * t) = W (16 + 10 * t) := hW _ (by omega)
  unfold q_kb
  rw [q_n_eq e1, q_n_eq e2, e1, e2]
  exact h
theorem q_invY.chE {W W' : Nat → Int32} (hW : eqE W W') (h : q_invY W) : q_invY W' := by
  obtain ⟨h0, h1, h2, h3, h4, h5, h6, h7⟩ := h
  obtain ⟨t1, t2, t3, t4, t5⟩ := id h0
  have b1 := t1.2; have b2 := t2.2; have b3 := t3.2; have b4 := t4.2; have b5 := t5.2
  have e96 : q_n W' 96 = q_n W 96 := q_n_eq (hW _ (by omega))
  have e97 : q_n W' 97 = q_n W 97 := q_n_eq (hW _ (by omega))
  have e98 : q_n W' 98 = q_n W 98 := q_n_eq (hW _ (by omega))
  have e99 : q_n W' 99 = q_n W 99 := q_n_eq (hW _ (by omega))
  have e104 : q_n W' 104 = q_n W 104 := q_n_eq (hW _ (by omega))
  refine ⟨h0.chE hW, q_lt_eq (hW _ (by omega)) h1, q_lt_eq (hW _ (by omega)) h2, fun t ht => ?_, fun m hm => ?_, fun i hi => ?_, fun j hj => ?_, fun i hi => ?_⟩
  · obtain ⟨a, b, c, d⟩ := h3 t ht
    exact ⟨a.chE hW ht, q_lt_eq (hW _ (by omega)) b, q_lt_eq (hW _ (by omega)) c, q_lt_eq (hW _ (by omega)) d⟩
  · obtain ⟨a, b⟩ := h4 m hm
    exact ⟨q_lt_eq (hW _ (by omega)) a, q_lt_eq (hW _ (by omega)) b⟩
  · rw [e98] at hi
    obtain ⟨a, b, c, d⟩ := h5 i hi
    refine ⟨q_lt_eq (hW _ (by omega)) a, q_lt_eq (hW _ (by omega)) b, ?_, q_lt_eq (hW _ (by omega)) d⟩
    rw [q_n_eq (hW (143 + 3 * i) (by omega))]
    exact c
  · rw [e104] at hj
    obtain ⟨a, b, c⟩ := h6 j hj
    rw [e98]
    refine ⟨q_lt_eq (hW _ (by omega)) a, q_lt_eq (hW _ (by omega)) b, ?_⟩
    rw [q_n_eq (hW (105 + 2 * j) (by omega)), q_n_eq (hW (106 + 2 * j) (by omega))]
    exact c
  · rw [e99] at hi
    obtain ⟨a, b, c, d, e, f⟩ := h7 i hi
    rw [e96, e97, e98]
    refine ⟨q_lt_eq (hW _ (by omega)) a, q_lt_eq (hW _ (by omega)) b, q_lt_eq (hW _ (by omega)) c, q_lt_eq (hW _ (by omega)) d, q_lt_eq (hW _ (by omega)) e, ?_⟩
    rw [q_n_eq (hW (170 + 5 * i) (by omega))]
    exact f
theorem q_invM.chE {W W' : Nat → Int32} (hW : eqE W W') (hn : q_n W 98 ≤ 8) (h : q_invM W) : q_invM W' := by
  obtain ⟨h1, h2, h3, h4, h5⟩ := h
  have e96 : q_n W' 96 = q_n W 96 := q_n_eq (hW _ (by omega))
  have e98 : q_n W' 98 = q_n W 98 := q_n_eq (hW _ (by omega))
  refine ⟨q_lt_eq (hW _ (by omega)) h1, q_lt_eq (hW _ (by omega)) h2, fun b hb => q_lt_eq (hW _ (by omega)) (h3 b hb), fun t ht => ?_, fun i hi => ?_⟩
  · obtain ⟨a, b, c⟩ := h4 t ht
    refine ⟨q_lt_eq (hW _ (by omega)) a, q_lt_eq (hW _ (by omega)) b, ?_⟩
    rw [e96, hW _ (by omega)]; exact c
  · rw [e98] at hi
    obtain ⟨a, b, c⟩ := h5 i hi
    refine ⟨q_lt_eq (hW _ (by omega)) a, ?_⟩
    rw [q_n_eq (hW (8 + i) (by omega)), q_n_eq (hW (143 + 3 * i) (by omega))]; exact ⟨b, c.cg (by omega) (fun k hk => hW k (by omega))⟩
/-! copies -/
def CCP (M M' : MMw) (a b : Nat) : Prop := (∀ k, k < 4 → M' a k = M b k) ∧ (∀ i, 1 ≤ i → i ≤ 5 → ∀ k, k < 8 → M' (a + i) k = M (b + i) k) ∧ ∀ i, 6 ≤ i → i ≤ 7 → ∀ k, k < 4 → M' (a + i) k = M (b + i) k
def HCP (M M' : MMw) (a b : Nat) : Prop := M' a 0 = M b 0 ∧ M' a 4 = M b 4 ∧ (∀ i, 1 ≤ i → i ≤ 3 → ∀ k, k < 8 → M' (a + i) k = M (b + i) k) ∧ ∀ i, 4 ≤ i → i ≤ 5 → ∀ k, k < 12 → M' (a + i) k = M (b + i) k
def RCP (M M' : MMw) (a b : Nat) : Prop := M' a 0 = M b 0 ∧ ∀ i, 1 ≤ i → i ≤ 5 → ∀ k, k < 20 → M' (a + i) k = M (b + i) k
def LCP (M M' : MMw) (a b : Nat) : Prop := M' a 0 = M b 0 ∧ (∀ i, 1 ≤ i → i ≤ 4 → ∀ k, k < 16 → M' (a + i) k = M (b + i) k) ∧ ∀ k, k < 400 → M' (a + 5) k = M (b + 5) k
theorem lkr.cp {f f' g : Nat → Int32} {k s n : Nat} (h : lkr f g k s n) (hf : ∀ t, t < n → f' t = f t) : lkr f' g k s n := fun t ht => by rw [hf t ht]; exact h t ht
theorem CRcrew.cp {M M' : MMw} {a b : Nat} {W : Nat → Int32} (c : CCP M M' a b) (h : CRcrew M b W) : CRcrew M' a W := by
  obtain ⟨h1, h2, h3, h4, a1, a2, a3, a4, a5, a6, a7⟩ := h
  obtain ⟨e0, e8, e4⟩ := c
  exact ⟨by rw [e0 0 (by decide)]; exact h1, by rw [e0 1 (by decide)]; exact h2, by rw [e0 2 (by decide)]; exact h3, by rw [e0 3 (by decide)]; exact h4, a1.cp (e8 1 (by decide) (by decide)), a2.cp (e8 2 (by decide) (by decide)), a3.cp (e8 3 (by decide) (by decide)), a4.cp (e8 4 (by decide) (by decide)), a5.cp (e8 5 (by decide) (by decide)), a6.cp (e4 6 (by decide) (by decide)), a7.cp (e4 7 (by decide) (by decide))⟩
theorem CRhull.cp {M M' : MMw} {a b : Nat} {W : Nat → Int32} (c : HCP M M' a b) (hn : q_n W 98 ≤ 8) (hn2 : q_n W 104 ≤ 12) (h : CRhull M b W) : CRhull M' a W := by
  obtain ⟨h1, h2, a1, a2, a3, a4, a5⟩ := h
  obtain ⟨e0, e4, e8, e12⟩ := c
  exact ⟨by rw [e0]; exact h1, by rw [e4]; exact h2, a1.cp (fun t ht => e8 1 (by decide) (by decide) t (by omega)), a2.cp (fun t ht => e8 2 (by decide) (by decide) t (by omega)), a3.cp (fun t ht => e8 3 (by decide) (by decide) t (by omega)), a4.cp (fun t ht => e12 4 (by decide) (by decide) t (by omega)), a5.cp (fun t ht => e12 5 (by decide) (by decide) t (by omega))⟩
theorem CRrota.cp {M M' : MMw} {a b : Nat} {W : Nat → Int32} (c : RCP M M' a b) (hn : q_n W 99 ≤ 20) (h : CRrota M b W) : CRrota M' a W := by
  obtain ⟨h1, a1, a2, a3, a4, a5⟩ := h
  obtain ⟨e0, e8⟩ := c
  exact ⟨by rw [e0]; exact h1, a1.cp (fun t ht => e8 1 (by decide) (by decide) t (by omega)), a2.cp (fun t ht => e8 2 (by decide) (by decide) t (by omega)), a3.cp (fun t ht => e8 3 (by decide) (by decide) t (by omega)), a4.cp (fun t ht => e8 4 (by decide) (by decide) t (by omega)), a5.cp (fun t ht => e8 5 (by decide) (by decide) t (by omega))⟩
theorem q_law.cp {W C C' : Nat → Int32} {k : Nat} (e : ∀ j, j < 400 → C' j = C j) (h : q_law W k C) : q_law W k C' := by
  obtain ⟨l, hl, hw, h2⟩ := h
  refine ⟨l, hl, hw, fun i hi => ?_⟩
  obtain ⟨f, m, t, w, h1, h2, h3, h4, h5, h6, h7, h8, h9, h10, h11⟩ := h2 i hi
  exact ⟨f, m, t, w, h1, h2, h3, h4, h5, h6, h7, h8, h9, fun a => q_wf_cong (fun j a b => ⟨rfl, (e j (by omega)).symm⟩) (h10 a), fun a => q_wf_cong (fun j a b => ⟨rfl, (e j (by omega)).symm⟩) (h11 a)⟩
theorem CRlaw.cp {M M' : MMw} {a b : Nat} {W : Nat → Int32} {k : Nat} (c : LCP M M' a b) (h : CRlaw M b W k) : CRlaw M' a W k := by
  obtain ⟨h1, h2, h3⟩ := h
  obtain ⟨e0, e16, e400⟩ := c
  have hc := h3.cnt.2
  refine ⟨by rw [e0]; exact h1, fun i hi => ?_, h3.cp e400⟩
  rw [e16 1 (by decide) (by decide) i (by omega), e16 2 (by decide) (by decide) i (by omega), e16 3 (by decide) (by decide) i (by omega), e16 4 (by decide) (by decide) i (by omega)]
  exact h2 i hi
variable {X : KXw} {n tot kn D : Nat} {kx : Nat → Nat × Nat} {M : MMw}
set_option maxHeartbeats 2000000 in
theorem c_ccopy_45_2 (hD : 3 ≤ D) : Sq X D 306 [.inr (.inl 45), .inr (.inl 2)] (Gk n tot kn kx) M (fun _ M' => Fr [45, 46, 47, 48, 49, 50, 51, 52] M M' ∧ CCP M M' 45 2) :=
  Sq.mk (k := 2) hD (fun D' hD' => by
    refine Lq.of (t_306_p45_p2_0_ok X (callw X D') n tot kn kx M) ?_
    unfold t_306_p45_p2_0
    rw [c_copyRow (L := 8) hD' rfl rfl (by decide) (by decide), bnd_some]
    rw [c_copyRow (L := 8) hD' rfl rfl (by decide) (by decide), bnd_some]
    rw [c_copyRow (L := 8) hD' rfl rfl (by decide) (by decide), bnd_some]
    rw [c_copyRow (L := 8) hD' rfl rfl (by decide) (by decide), bnd_some]
    rw [c_copyRow (L := 8) hD' rfl rfl (by decide) (by decide), bnd_some]
    rw [c_copyRow (L := 4) hD' rfl rfl (by decide) (by decide), bnd_some]
    rw [c_copyRow (L := 4) hD' rfl rfl (by decide) (by decide), bnd_some]
    rw [Wq_ret]
    refine ⟨?_, ?_⟩
    · exact (((((((((((Fr.rf.up (by decide)).up (by decide)).up (by decide)).up (by decide)).cpy (by decide)).cpy (by decide)).cpy (by decide)).cpy (by decide)).cpy (by decide)).cpy (by decide)).cpy (by decide))
    · refine ⟨fun k hk => ?_, fun i h1 h2 k hk => ?_, fun i h1 h2 k hk => ?_⟩
      · have h3 : k = 0 ∨ k = 1 ∨ k = 2 ∨ k = 3 := by omega
        rcases h3 with rfl | rfl | rfl | rfl <;> simp (disch := omega) only [up_at, up_ne, upW_n, upW_s, cpy_ne, cpy_at, Nat.reduceAdd]
      · have h3 : i = 1 ∨ i = 2 ∨ i = 3 ∨ i = 4 ∨ i = 5 := by omega
        rcases h3 with rfl | rfl | rfl | rfl | rfl <;> simp (disch := omega) only [up_at, up_ne, upW_n, upW_s, cpy_ne, cpy_at, Nat.reduceAdd]
      · have h3 : i = 6 ∨ i = 7 := by omega
        rcases h3 with rfl | rfl <;> simp (disch := omega) only [up_at, up_ne, upW_n, upW_s, cpy_ne, cpy_at, Nat.reduceAdd])
set_option maxHeartbeats 2000000 in
theorem c_ccopy_2_45 (hD : 3 ≤ D) : Sq X D 306 [.inr (.inl 2), .inr (.inl 45)] (Gk n tot kn kx) M (fun _ M' => Fr [2, 3, 4, 5, 6, 7, 8, 9] M M' ∧ CCP M M' 2 45) :=
  Sq.mk (k := 2) hD (fun D' hD' => by
    refine Lq.of (t_306_p2_p45_0_ok X (callw X D') n tot kn kx M) ?_
    unfold t_306_p2_p45_0
    rw [c_copyRow (L := 8) hD' rfl rfl (by decide) (by decide), bnd_some]
    rw [c_copyRow (L := 8) hD' rfl rfl (by decide) (by decide), bnd_some]
    rw [c_copyRow (L := 8) hD' rfl rfl (by decide) (by decide), bnd_some]
    rw [c_copyRow (L := 8) hD' rfl rfl (by decide) (by decide), bnd_some]
    rw [c_copyRow (L := 8) hD' rfl rfl (by decide) (by decide), bnd_some]
    rw [c_copyRow (L := 4) hD' rfl rfl (by decide) (by decide), bnd_some]
    rw [c_copyRow (L := 4) hD' rfl rfl (by decide) (by decide), bnd_some]
    rw [Wq_ret]
    refine ⟨?_, ?_⟩
    · exact (((((((((((Fr.rf.up (by decide)).up (by decide)).up (by decide)).up (by decide)).cpy (by decide)).cpy (by decide)).cpy (by decide)).cpy (by decide)).cpy (by decide)).cpy (by decide)).cpy (by decide))
    · refine ⟨fun k hk => ?_, fun i h1 h2 k hk => ?_, fun i h1 h2 k hk => ?_⟩
      · have h3 : k = 0 ∨ k = 1 ∨ k = 2 ∨ k = 3 := by omega
        rcases h3 with rfl | rfl | rfl | rfl <;> simp (disch := omega) only [up_at, up_ne, upW_n, upW_s, cpy_ne, cpy_at, Nat.reduceAdd]
      · have h3 : i = 1 ∨ i = 2 ∨ i = 3 ∨ i = 4 ∨ i = 5 := by omega
        rcases h3 with rfl | rfl | rfl | rfl | rfl <;> simp (disch := omega) only [up_at, up_ne, upW_n, upW_s, cpy_ne, cpy_at, Nat.reduceAdd]
      · have h3 : i = 6 ∨ i = 7 := by omega
        rcases h3 with rfl | rfl <;> simp (disch := omega) only [up_at, up_ne, upW_n, upW_s, cpy_ne, cpy_at, Nat.reduceAdd])
set_option maxHeartbeats 2000000 in
theorem c_hcopy_60_17 (hD : 3 ≤ D) : Sq X D 138 [.inr (.inl 60), .inr (.inl 17)] (Gk n tot kn kx) M (fun _ M' => Fr [60, 61, 62, 63, 64, 65] M M' ∧ HCP M M' 60 17) :=
  Sq.mk (k := 2) hD (fun D' hD' => by
    refine Lq.of (t_138_p60_p17_0_ok X (callw X D') n tot kn kx M) ?_
    unfold t_138_p60_p17_0
    rw [c_copyRow (L := 8) hD' rfl rfl (by decide) (by decide), bnd_some]
    rw [c_copyRow (L := 8) hD' rfl rfl (by decide) (by decide), bnd_some]
    rw [c_copyRow (L := 8) hD' rfl rfl (by decide) (by decide), bnd_some]
    rw [c_copyRow (L := 12) hD' rfl rfl (by decide) (by decide), bnd_some]
    rw [c_copyRow (L := 12) hD' rfl rfl (by decide) (by decide), bnd_some]
    rw [Wq_ret]
    refine ⟨?_, ?_⟩
    · exact (((((((Fr.rf.up (by decide)).cpy (by decide)).cpy (by decide)).cpy (by decide)).up (by decide)).cpy (by decide)).cpy (by decide))
    · refine ⟨?_, ?_, fun i h1 h2 k hk => ?_, fun i h1 h2 k hk => ?_⟩
      · simp (disch := omega) only [up_at, up_ne, upW_n, upW_s, cpy_ne, cpy_at, Nat.reduceAdd]
      · simp (disch := omega) only [up_at, up_ne, upW_n, upW_s, cpy_ne, cpy_at, Nat.reduceAdd]
      · have h3 : i = 1 ∨ i = 2 ∨ i = 3 := by omega
        rcases h3 with rfl | rfl | rfl <;> simp (disch := omega) only [up_at, up_ne, upW_n, upW_s, cpy_ne, cpy_at, Nat.reduceAdd]
      · have h3 : i = 4 ∨ i = 5 := by omega
        rcases h3 with rfl | rfl <;> simp (disch := omega) only [up_at, up_ne, upW_n, upW_s, cpy_ne, cpy_at, Nat.reduceAdd])
set_option maxHeartbeats 2000000 in
theorem c_hcopy_17_60 (hD : 3 ≤ D) : Sq X D 138 [.inr (.inl 17), .inr (.inl 60)] (Gk n tot kn kx) M (fun _ M' => Fr [17, 18, 19, 20, 21, 22] M M' ∧ HCP M M' 17 60) :=
  Sq.mk (k := 2) hD (fun D' hD' => by
    refine Lq.of (t_138_p17_p60_0_ok X (callw X D') n tot kn kx M) ?_
    unfold t_138_p17_p60_0
    rw [c_copyRow (L := 8) hD' rfl rfl (by decide) (by decide), bnd_some]
    rw [c_copyRow (L := 8) hD' rfl rfl (by decide) (by decide), bnd_some]
    rw [c_copyRow (L := 8) hD' rfl rfl (by decide) (by decide), bnd_some]
    rw [c_copyRow (L := 12) hD' rfl rfl (by decide) (by decide), bnd_some]
    rw [c_copyRow (L := 12) hD' rfl rfl (by decide) (by decide), bnd_some]
    rw [Wq_ret]
    refine ⟨?_, ?_⟩
    · exact (((((((Fr.rf.up (by decide)).cpy (by decide)).cpy (by decide)).cpy (by decide)).up (by decide)).cpy (by decide)).cpy (by decide))
    · refine ⟨?_, ?_, fun i h1 h2 k hk => ?_, fun i h1 h2 k hk => ?_⟩
      · simp (disch := omega) only [up_at, up_ne, upW_n, upW_s, cpy_ne, cpy_at, Nat.reduceAdd]
      · simp (disch := omega) only [up_at, up_ne, upW_n, upW_s, cpy_ne, cpy_at, Nat.reduceAdd]
      · have h3 : i = 1 ∨ i = 2 ∨ i = 3 := by omega
        rcases h3 with rfl | rfl | rfl <;> simp (disch := omega) only [up_at, up_ne, upW_n, upW_s, cpy_ne, cpy_at, Nat.reduceAdd]
      · have h3 : i = 4 ∨ i = 5 := by omega
        rcases h3 with rfl | rfl <;> simp (disch := omega) only [up_at, up_ne, upW_n, upW_s, cpy_ne, cpy_at, Nat.reduceAdd])
set_option maxHeartbeats 2000000 in
theorem c_hcopy_17_106 (hD : 3 ≤ D) : Sq X D 138 [.inr (.inl 17), .inr (.inl 106)] (Gk n tot kn kx) M (fun _ M' => Fr [17, 18, 19, 20, 21, 22] M M' ∧ HCP M M' 17 106) :=
  Sq.mk (k := 2) hD (fun D' hD' => by
    refine Lq.of (t_138_p17_p106_0_ok X (callw X D') n tot kn kx M) ?_
    unfold t_138_p17_p106_0
    rw [c_copyRow (L := 8) hD' rfl rfl (by decide) (by decide), bnd_some]
    rw [c_copyRow (L := 8) hD' rfl rfl (by decide) (by decide), bnd_some]
    rw [c_copyRow (L := 8) hD' rfl rfl (by decide) (by decide), bnd_some]
    rw [c_copyRow (L := 12) hD' rfl rfl (by decide) (by decide), bnd_some]
    rw [c_copyRow (L := 12) hD' rfl rfl (by decide) (by decide), bnd_some]
    rw [Wq_ret]
    refine ⟨?_, ?_⟩
    · exact (((((((Fr.rf.up (by decide)).cpy (by decide)).cpy (by decide)).cpy (by decide)).up (by decide)).cpy (by decide)).cpy (by decide))
    · refine ⟨?_, ?_, fun i h1 h2 k hk => ?_, fun i h1 h2 k hk => ?_⟩
      · simp (disch := omega) only [up_at, up_ne, upW_n, upW_s, cpy_ne, cpy_at, Nat.reduceAdd]
      · simp (disch := omega) only [up_at, up_ne, upW_n, upW_s, cpy_ne, cpy_at, Nat.reduceAdd]
      · have h3 : i = 1 ∨ i = 2 ∨ i = 3 := by omega
        rcases h3 with rfl | rfl | rfl <;> simp (disch := omega) only [up_at, up_ne, upW_n, upW_s, cpy_ne, cpy_at, Nat.reduceAdd]
      · have h3 : i = 4 ∨ i = 5 := by omega
        rcases h3 with rfl | rfl <;> simp (disch := omega) only [up_at, up_ne, upW_n, upW_s, cpy_ne, cpy_at, Nat.reduceAdd])
set_option maxHeartbeats 2000000 in
theorem c_rcopy_68_25 (hD : 3 ≤ D) : Sq X D 144 [.inr (.inl 68), .inr (.inl 25)] (Gk n tot kn kx) M (fun _ M' => Fr [68, 69, 70, 71, 72, 73] M M' ∧ RCP M M' 68 25) :=
  Sq.mk (k := 2) hD (fun D' hD' => by
    refine Lq.of (t_144_p68_p25_0_ok X (callw X D') n tot kn kx M) ?_
    unfold t_144_p68_p25_0
    rw [c_copyRow (L := 20) hD' rfl rfl (by decide) (by decide), bnd_some]
    rw [c_copyRow (L := 20) hD' rfl rfl (by decide) (by decide), bnd_some]
    rw [c_copyRow (L := 20) hD' rfl rfl (by decide) (by decide), bnd_some]
    rw [c_copyRow (L := 20) hD' rfl rfl (by decide) (by decide), bnd_some]
    rw [c_copyRow (L := 20) hD' rfl rfl (by decide) (by decide), bnd_some]
    rw [Wq_ret]
    refine ⟨?_, ?_⟩
    · exact ((((((Fr.rf.up (by decide)).cpy (by decide)).cpy (by decide)).cpy (by decide)).cpy (by decide)).cpy (by decide))
    · refine ⟨?_, fun i h1 h2 k hk => ?_⟩
      · simp (disch := omega) only [up_at, up_ne, upW_n, upW_s, cpy_ne, cpy_at, Nat.reduceAdd]
      · have h3 : i = 1 ∨ i = 2 ∨ i = 3 ∨ i = 4 ∨ i = 5 := by omega
        rcases h3 with rfl | rfl | rfl | rfl | rfl <;> simp (disch := omega) only [up_at, up_ne, upW_n, upW_s, cpy_ne, cpy_at, Nat.reduceAdd])
set_option maxHeartbeats 2000000 in
theorem c_rcopy_25_68 (hD : 3 ≤ D) : Sq X D 144 [.inr (.inl 25), .inr (.inl 68)] (Gk n tot kn kx) M (fun _ M' => Fr [25, 26, 27, 28, 29, 30] M M' ∧ RCP M M' 25 68) :=
  Sq.mk (k := 2) hD (fun D' hD' => by
    refine Lq.of (t_144_p25_p68_0_ok X (callw X D') n tot kn kx M) ?_
    unfold t_144_p25_p68_0
    rw [c_copyRow (L := 20) hD' rfl rfl (by decide) (by decide), bnd_some]
    rw [c_copyRow (L := 20) hD' rfl rfl (by decide) (by decide), bnd_some]
    rw [c_copyRow (L := 20) hD' rfl rfl (by decide) (by decide), bnd_some]
    rw [c_copyRow (L := 20) hD' rfl rfl (by decide) (by decide), bnd_some]
    rw [c_copyRow (L := 20) hD' rfl rfl (by decide) (by decide), bnd_some]
    rw [Wq_ret]
    refine ⟨?_, ?_⟩
    · exact ((((((Fr.rf.up (by decide)).cpy (by decide)).cpy (by decide)).cpy (by decide)).cpy (by decide)).cpy (by decide))
    · refine ⟨?_, fun i h1 h2 k hk => ?_⟩
      · simp (disch := omega) only [up_at, up_ne, upW_n, upW_s, cpy_ne, cpy_at, Nat.reduceAdd]
      · have h3 : i = 1 ∨ i = 2 ∨ i = 3 ∨ i = 4 ∨ i = 5 := by omega
        rcases h3 with rfl | rfl | rfl | rfl | rfl <;> simp (disch := omega) only [up_at, up_ne, upW_n, upW_s, cpy_ne, cpy_at, Nat.reduceAdd])
set_option maxHeartbeats 2000000 in
theorem c_rcopy_25_114 (hD : 3 ≤ D) : Sq X D 144 [.inr (.inl 25), .inr (.inl 114)] (Gk n tot kn kx) M (fun _ M' => Fr [25, 26, 27, 28, 29, 30] M M' ∧ RCP M M' 25 114) :=
  Sq.mk (k := 2) hD (fun D' hD' => by
    refine Lq.of (t_144_p25_p114_0_ok X (callw X D') n tot kn kx M) ?_
    unfold t_144_p25_p114_0
    rw [c_copyRow (L := 20) hD' rfl rfl (by decide) (by decide), bnd_some]
    rw [c_copyRow (L := 20) hD' rfl rfl (by decide) (by decide), bnd_some]
    rw [c_copyRow (L := 20) hD' rfl rfl (by decide) (by decide), bnd_some]
    rw [c_copyRow (L := 20) hD' rfl rfl (by decide) (by decide), bnd_some]
    rw [c_copyRow (L := 20) hD' rfl rfl (by decide) (by decide), bnd_some]
    rw [Wq_ret]
    refine ⟨?_, ?_⟩
    · exact ((((((Fr.rf.up (by decide)).cpy (by decide)).cpy (by decide)).cpy (by decide)).cpy (by decide)).cpy (by decide))
    · refine ⟨?_, fun i h1 h2 k hk => ?_⟩
      · simp (disch := omega) only [up_at, up_ne, upW_n, upW_s, cpy_ne, cpy_at, Nat.reduceAdd]
      · have h3 : i = 1 ∨ i = 2 ∨ i = 3 ∨ i = 4 ∨ i = 5 := by omega
        rcases h3 with rfl | rfl | rfl | rfl | rfl <;> simp (disch := omega) only [up_at, up_ne, upW_n, upW_s, cpy_ne, cpy_at, Nat.reduceAdd])
set_option maxHeartbeats 2000000 in
theorem c_lcopy_74_31 (hD : 3 ≤ D) : Sq X D 134 [.inr (.inl 74), .inr (.inl 31)] (Gk n tot kn kx) M (fun _ M' => Fr [74, 75, 76, 77, 78, 79] M M' ∧ LCP M M' 74 31) :=
  Sq.mk (k := 2) hD (fun D' hD' => by
    refine Lq.of (t_134_p74_p31_0_ok X (callw X D') n tot kn kx M) ?_
    unfold t_134_p74_p31_0
    rw [c_copyRow (L := 16) hD' rfl rfl (by decide) (by decide), bnd_some]
    rw [c_copyRow (L := 16) hD' rfl rfl (by decide) (by decide), bnd_some]
    rw [c_copyRow (L := 16) hD' rfl rfl (by decide) (by decide), bnd_some]
    rw [c_copyRow (L := 16) hD' rfl rfl (by decide) (by decide), bnd_some]
    rw [c_copyRow (L := 400) hD' rfl rfl (by decide) (by decide), bnd_some]
    rw [Wq_ret]
    refine ⟨?_, ?_⟩
    · exact (((((((Fr.rf.up (by decide)).up (by decide)).cpy (by decide)).cpy (by decide)).cpy (by decide)).cpy (by decide)).cpy (by decide))
    · refine ⟨?_, fun i h1 h2 k hk => ?_, fun k hk => ?_⟩
      · simp (disch := omega) only [up_at, up_ne, upW_n, upW_s, cpy_ne, cpy_at, Nat.reduceAdd]
      · have h3 : i = 1 ∨ i = 2 ∨ i = 3 ∨ i = 4 := by omega
        rcases h3 with rfl | rfl | rfl | rfl <;> simp (disch := omega) only [up_at, up_ne, upW_n, upW_s, cpy_ne, cpy_at, Nat.reduceAdd]
      · simp (disch := omega) only [up_at, up_ne, upW_n, upW_s, cpy_ne, cpy_at, Nat.reduceAdd])
set_option maxHeartbeats 2000000 in
theorem c_lcopy_80_37 (hD : 3 ≤ D) : Sq X D 134 [.inr (.inl 80), .inr (.inl 37)] (Gk n tot kn kx) M (fun _ M' => Fr [80, 81, 82, 83, 84, 85] M M' ∧ LCP M M' 80 37) :=
  Sq.mk (k := 2) hD (fun D' hD' => by
    refine Lq.of (t_134_p80_p37_0_ok X (callw X D') n tot kn kx M) ?_
    unfold t_134_p80_p37_0
    rw [c_copyRow (L := 16) hD' rfl rfl (by decide) (by decide), bnd_some]
    rw [c_copyRow (L := 16) hD' rfl rfl (by decide) (by decide), bnd_some]
    rw [c_copyRow (L := 16) hD' rfl rfl (by decide) (by decide), bnd_some]
    rw [c_copyRow (L := 16) hD' rfl rfl (by decide) (by decide), bnd_some]
    rw [c_copyRow (L := 400) hD' rfl rfl (by decide) (by decide), bnd_some]
    rw [Wq_ret]
    refine ⟨?_, ?_⟩
    · exact (((((((Fr.rf.up (by decide)).up (by decide)).cpy (by decide)).cpy (by decide)).cpy (by decide)).cpy (by decide)).cpy (by decide))
    · refine ⟨?_, fun i h1 h2 k hk => ?_, fun k hk => ?_⟩
      · simp (disch := omega) only [up_at, up_ne, upW_n, upW_s, cpy_ne, cpy_at, Nat.reduceAdd]
      · have h3 : i = 1 ∨ i = 2 ∨ i = 3 ∨ i = 4 := by omega
        rcases h3 with rfl | rfl | rfl | rfl <;> simp (disch := omega) only [up_at, up_ne, upW_n, upW_s, cpy_ne, cpy_at, Nat.reduceAdd]
      · simp (disch := omega) only [up_at, up_ne, upW_n, upW_s, cpy_ne, cpy_at, Nat.reduceAdd])
set_option maxHeartbeats 2000000 in
theorem c_lcopy_31_74 (hD : 3 ≤ D) : Sq X D 134 [.inr (.inl 31), .inr (.inl 74)] (Gk n tot kn kx) M (fun _ M' => Fr [31, 32, 33, 34, 35, 36] M M' ∧ LCP M M' 31 74) :=
  Sq.mk (k := 2) hD (fun D' hD' => by
    refine Lq.of (t_134_p31_p74_0_ok X (callw X D') n tot kn kx M) ?_
    unfold t_134_p31_p74_0
    rw [c_copyRow (L := 16) hD' rfl rfl (by decide) (by decide), bnd_some]
    rw [c_copyRow (L := 16) hD' rfl rfl (by decide) (by decide), bnd_some]
    rw [c_copyRow (L := 16) hD' rfl rfl (by decide) (by decide), bnd_some]
    rw [c_copyRow (L := 16) hD' rfl rfl (by decide) (by decide), bnd_some]
    rw [c_copyRow (L := 400) hD' rfl rfl (by decide) (by decide), bnd_some]
    rw [Wq_ret]
    refine ⟨?_, ?_⟩
    · exact (((((((Fr.rf.up (by decide)).up (by decide)).cpy (by decide)).cpy (by decide)).cpy (by decide)).cpy (by decide)).cpy (by decide))
    · refine ⟨?_, fun i h1 h2 k hk => ?_, fun k hk => ?_⟩
      · simp (disch := omega) only [up_at, up_ne, upW_n, upW_s, cpy_ne, cpy_at, Nat.reduceAdd]
      · have h3 : i = 1 ∨ i = 2 ∨ i = 3 ∨ i = 4 := by omega
        rcases h3 with rfl | rfl | rfl | rfl <;> simp (disch := omega) only [up_at, up_ne, upW_n, upW_s, cpy_ne, cpy_at, Nat.reduceAdd]
      · simp (disch := omega) only [up_at, up_ne, upW_n, upW_s, cpy_ne, cpy_at, Nat.reduceAdd])
set_option maxHeartbeats 2000000 in
theorem c_lcopy_37_80 (hD : 3 ≤ D) : Sq X D 134 [.inr (.inl 37), .inr (.inl 80)] (Gk n tot kn kx) M (fun _ M' => Fr [37, 38, 39, 40, 41, 42] M M' ∧ LCP M M' 37 80) :=
  Sq.mk (k := 2) hD (fun D' hD' => by
    refine Lq.of (t_134_p37_p80_0_ok X (callw X D') n tot kn kx M) ?_
    unfold t_134_p37_p80_0
    rw [c_copyRow (L := 16) hD' rfl rfl (by decide) (by decide), bnd_some]
    rw [c_copyRow (L := 16) hD' rfl rfl (by decide) (by decide), bnd_some]
    rw [c_copyRow (L := 16) hD' rfl rfl (by decide) (by decide), bnd_some]
    rw [c_copyRow (L := 16) hD' rfl rfl (by decide) (by decide), bnd_some]
    rw [c_copyRow (L := 400) hD' rfl rfl (by decide) (by decide), bnd_some]
    rw [Wq_ret]
    refine ⟨?_, ?_⟩
    · exact (((((((Fr.rf.up (by decide)).up (by decide)).cpy (by decide)).cpy (by decide)).cpy (by decide)).cpy (by decide)).cpy (by decide))
    · refine ⟨?_, fun i h1 h2 k hk => ?_, fun k hk => ?_⟩
      · simp (disch := omega) only [up_at, up_ne, upW_n, upW_s, cpy_ne, cpy_at, Nat.reduceAdd]
      · have h3 : i = 1 ∨ i = 2 ∨ i = 3 ∨ i = 4 := by omega
        rcases h3 with rfl | rfl | rfl | rfl <;> simp (disch := omega) only [up_at, up_ne, upW_n, upW_s, cpy_ne, cpy_at, Nat.reduceAdd]
      · simp (disch := omega) only [up_at, up_ne, upW_n, upW_s, cpy_ne, cpy_at, Nat.reduceAdd])
set_option maxHeartbeats 2000000 in
theorem c_lcopy_31_100 (hD : 3 ≤ D) : Sq X D 134 [.inr (.inl 31), .inr (.inl 100)] (Gk n tot kn kx) M (fun _ M' => Fr [31, 32, 33, 34, 35, 36] M M' ∧ LCP M M' 31 100) :=
  Sq.mk (k := 2) hD (fun D' hD' => by
    refine Lq.of (t_134_p31_p100_0_ok X (callw X D') n tot kn kx M) ?_
    unfold t_134_p31_p100_0
    rw [c_copyRow (L := 16) hD' rfl rfl (by decide) (by decide), bnd_some]
    rw [c_copyRow (L := 16) hD' rfl rfl (by decide) (by decide), bnd_some]
    rw [c_copyRow (L := 16) hD' rfl rfl (by decide) (by decide), bnd_some]
    rw [c_copyRow (L := 16) hD' rfl rfl (by decide) (by decide), bnd_some]
    rw [c_copyRow (L := 400) hD' rfl rfl (by decide) (by decide), bnd_some]
    rw [Wq_ret]
    refine ⟨?_, ?_⟩
    · exact (((((((Fr.rf.up (by decide)).up (by decide)).cpy (by decide)).cpy (by decide)).cpy (by decide)).cpy (by decide)).cpy (by decide))
    · refine ⟨?_, fun i h1 h2 k hk => ?_, fun k hk => ?_⟩
      · simp (disch := omega) only [up_at, up_ne, upW_n, upW_s, cpy_ne, cpy_at, Nat.reduceAdd]
      · have h3 : i = 1 ∨ i = 2 ∨ i = 3 ∨ i = 4 := by omega
        rcases h3 with rfl | rfl | rfl | rfl <;> simp (disch := omega) only [up_at, up_ne, upW_n, upW_s, cpy_ne, cpy_at, Nat.reduceAdd]
      · simp (disch := omega) only [up_at, up_ne, upW_n, upW_s, cpy_ne, cpy_at, Nat.reduceAdd])
set_option maxHeartbeats 2000000 in
theorem c_lcopy_37_100 (hD : 3 ≤ D) : Sq X D 134 [.inr (.inl 37), .inr (.inl 100)] (Gk n tot kn kx) M (fun _ M' => Fr [37, 38, 39, 40, 41, 42] M M' ∧ LCP M M' 37 100) :=
  Sq.mk (k := 2) hD (fun D' hD' => by
    refine Lq.of (t_134_p37_p100_0_ok X (callw X D') n tot kn kx M) ?_
    unfold t_134_p37_p100_0
    rw [c_copyRow (L := 16) hD' rfl rfl (by decide) (by decide), bnd_some]
    rw [c_copyRow (L := 16) hD' rfl rfl (by decide) (by decide), bnd_some]
    rw [c_copyRow (L := 16) hD' rfl rfl (by decide) (by decide), bnd_some]
    rw [c_copyRow (L := 16) hD' rfl rfl (by decide) (by decide), bnd_some]
    rw [c_copyRow (L := 400) hD' rfl rfl (by decide) (by decide), bnd_some]
    rw [Wq_ret]
    refine ⟨?_, ?_⟩
    · exact (((((((Fr.rf.up (by decide)).up (by decide)).cpy (by decide)).cpy (by decide)).cpy (by decide)).cpy (by decide)).cpy (by decide))
    · refine ⟨?_, fun i h1 h2 k hk => ?_, fun k hk => ?_⟩
      · simp (disch := omega) only [up_at, up_ne, upW_n, upW_s, cpy_ne, cpy_at, Nat.reduceAdd]
      · have h3 : i = 1 ∨ i = 2 ∨ i = 3 ∨ i = 4 := by omega
        rcases h3 with rfl | rfl | rfl | rfl <;> simp (disch := omega) only [up_at, up_ne, upW_n, upW_s, cpy_ne, cpy_at, Nat.reduceAdd]
      · simp (disch := omega) only [up_at, up_ne, upW_n, upW_s, cpy_ne, cpy_at, Nat.reduceAdd])
end
