section
-- needs: ltree
/-! the law: one call after another -/
variable {X : KXw} {n tot kn : Nat} {kx : Nat → Nat × Nat} {M : MMw}
theorem im6 : Int32.ofInt 6 = nI 6 := by decide +kernel
def NxT (j s : Nat) (t : Option TRw) : Prop := ∃ (n' tot' kn' : Nat) (kx' : Nat → Nat × Nat) (len' s' : Nat) (M' : MMw), s' ≤ s + 1 ∧ Rl kn' len' s' M' ∧ ShP n' tot' kn' kx' len' s' ∧ t = some (.inr (18, [some (.inr (.inr 57)), some (.inr (.inl 0)), some (.inr (.inl 178)), some (.inl (nI (6 * (j + 1))))], [], Gk n' tot' kn' kx', M'))
theorem NxT.mk {j len s : Nat} {M' : MMw} (h : Rl kn len s M') (hG : ShP n tot kn kx len s) : NxT j s (some (.inr (18, [some (.inr (.inr 57)), some (.inr (.inl 0)), some (.inr (.inl 178)), some (.inl (nI (6 * j) + Int32.ofInt 6))], [], Gk n tot kn kx, M'))) :=
  ⟨n, tot, kn, kx, len, s, M', by omega, h, hG, by rw [im6, nI_add]; rfl⟩
/-- a call that makes nothing -/
theorem NxT.pr {cm mm j len s : Nat} {ca ma : List PVw} (hP : Pr X 1000 cm mm ca ma (Gk n tot kn kx) M (Rl kn len s)) (hG : ShP n tot kn kx len s) : NxT j s (bnd (callw X 1000 cm ca (Gk n tot kn kx) M) fun r1 _ M2 => (bnd (callw X 1000 mm ma (Gk n tot kn kx) M2) fun r2 _ M4 => (if r1 = r2 then some (.inr (18, [some (.inr (.inr 57)), some (.inr (.inl 0)), some (.inr (.inl 178)), some (.inl (nI (6 * j) + Int32.ofInt 6))], [], (Gk n tot kn kx), M4)) else some (.inl (nI 0, (Gk n tot kn kx), M4))))) := by
  obtain ⟨x, M1, M2, e1, e2, hR⟩ := hP
  rw [e1, bnd_some, e2, bnd_some, if_pos rfl]
  exact NxT.mk hR hG
theorem L_180 (hX : X.1 ≤ 3072) {j len s : Nat} (hj : 6 * j + 5 < X.1) (hs : s < 900000) (h : Rl kn len s M) (hG : ShP n tot kn kx len s) : NxT j s (t_312_180 X (callw X 1000) n tot kn kx (nI (6 * j)) M) := by
  have h1 : inb (nI (6 * j) + nI 1) X.1 = true := by rw [nI_add]; exact inb_nI (by omega) (by omega)
  unfold t_312_180
  simp only [o_nI, h1, if_true]
  exact NxT.pr (P_state (by decide) h) hG
theorem L_203 (hX : X.1 ≤ 3072) {j len s : Nat} (hj : 6 * j + 5 < X.1) (hs : s < 900000) (h : Rl kn len s M) (hG : ShP n tot kn kx len s) : NxT j s (t_312_203 X (callw X 1000) n tot kn kx (nI (6 * j)) M) := by
  have h1 : inb (nI (6 * j) + nI 1) X.1 = true := by rw [nI_add]; exact inb_nI (by omega) (by omega)
  have h2 : inb (nI (6 * j) + nI 2) X.1 = true := by rw [nI_add]; exact inb_nI (by omega) (by omega)
  have h3 : inb (nI (6 * j) + nI 3) X.1 = true := by rw [nI_add]; exact inb_nI (by omega) (by omega)
  unfold t_312_203
  simp only [o_nI, h1, h2, h3, if_true]
  exact NxT.pr (P_tool (by decide) h) hG
theorem L_246 (hX : X.1 ≤ 3072) {j len s : Nat} (hj : 6 * j + 5 < X.1) (hs : s < 900000) (h : Rl kn len s M) (hG : ShP n tot kn kx len s) : NxT j s (t_312_246 X (callw X 1000) n tot kn kx (nI (6 * j)) M) := by
  have h1 : inb (nI (6 * j) + nI 1) X.1 = true := by rw [nI_add]; exact inb_nI (by omega) (by omega)
  have h2 : inb (nI (6 * j) + nI 2) X.1 = true := by rw [nI_add]; exact inb_nI (by omega) (by omega)
  unfold t_312_246
  simp only [o_nI, h1, h2, if_true]
  exact NxT.pr (P_man (by decide) h) hG
theorem L_279 (hX : X.1 ≤ 3072) {j len s : Nat} (hj : 6 * j + 5 < X.1) (hs : s < 900000) (h : Rl kn len s M) (hG : ShP n tot kn kx len s) : NxT j s (t_312_279 X (callw X 1000) n tot kn kx (nI (6 * j)) M) := by
  have h1 : inb (nI (6 * j) + nI 1) X.1 = true := by rw [nI_add]; exact inb_nI (by omega) (by omega)
  have h2 : inb (nI (6 * j) + nI 2) X.1 = true := by rw [nI_add]; exact inb_nI (by omega) (by omega)
  have h3 : inb (nI (6 * j) + nI 3) X.1 = true := by rw [nI_add]; exact inb_nI (by omega) (by omega)
  unfold t_312_279
  simp only [o_nI, h1, h2, h3, if_true]
  exact NxT.pr (P_set (by decide) h) hG
theorem L_322 (hX : X.1 ≤ 3072) {j len s : Nat} (hj : 6 * j + 5 < X.1) (hs : s < 900000) (h : Rl kn len s M) (hG : ShP n tot kn kx len s) : NxT j s (t_312_322 X (callw X 1000) n tot kn kx (nI (6 * j)) M) := by
  have h1 : inb (nI (6 * j) + nI 1) X.1 = true := by rw [nI_add]; exact inb_nI (by omega) (by omega)
  have h2 : inb (nI (6 * j) + nI 2) X.1 = true := by rw [nI_add]; exact inb_nI (by omega) (by omega)
  unfold t_312_322
  by_cases z : sv X (nI (6 * j)) 2 = 0
  · simp only [o_nI, h1, h2, if_true, z]
    exact NxT.pr (P_mend (o := false) (by decide) h) hG
  · simp only [o_nI, h1, h2, if_true, z]
    exact NxT.pr (P_mend (o := true) (by decide) h) hG
theorem L_371 (hX : X.1 ≤ 3072) {j len s : Nat} (hj : 6 * j + 5 < X.1) (hs : s < 900000) (h : Rl kn len s M) (hG : ShP n tot kn kx len s) : NxT j s (t_312_371 X (callw X 1000) n tot kn kx (nI (6 * j)) M) := by
  have h1 : inb (nI (6 * j) + nI 1) X.1 = true := by rw [nI_add]; exact inb_nI (by omega) (by omega)
  have h2 : inb (nI (6 * j) + nI 2) X.1 = true := by rw [nI_add]; exact inb_nI (by omega) (by omega)
  unfold t_312_371
  by_cases z : sv X (nI (6 * j)) 2 = 0
  · simp only [o_nI, h1, h2, if_true, z]
    exact NxT.pr (P_strike (o := false) (by decide) h) hG
  · simp only [o_nI, h1, h2, if_true, z]
    exact NxT.pr (P_strike (o := true) (by decide) h) hG
theorem L_420 (hX : X.1 ≤ 3072) {j len s : Nat} (hj : 6 * j + 5 < X.1) (hs : s < 900000) (h : Rl kn len s M) (hG : ShP n tot kn kx len s) : NxT j s (t_312_420 X (callw X 1000) n tot kn kx (nI (6 * j)) M) := by
  have h1 : inb (nI (6 * j) + nI 1) X.1 = true := by rw [nI_add]; exact inb_nI (by omega) (by omega)
  have h2 : inb (nI (6 * j) + nI 2) X.1 = true := by rw [nI_add]; exact inb_nI (by omega) (by omega)
  have h3 : inb (nI (6 * j) + nI 3) X.1 = true := by rw [nI_add]; exact inb_nI (by omega) (by omega)
  unfold t_312_420
  by_cases z : sv X (nI (6 * j)) 3 = 0
  · simp only [o_nI, h1, h2, h3, if_true, z]
    exact NxT.pr (P_may (o := false) (by decide) h) hG
  · simp only [o_nI, h1, h2, h3, if_true, z]
    exact NxT.pr (P_may (o := true) (by decide) h) hG
theorem L_479 (hX : X.1 ≤ 3072) {j len s : Nat} (hj : 6 * j + 5 < X.1) (hs : s < 900000) (h : Rl kn len s M) (hG : ShP n tot kn kx len s) : NxT j s (t_312_479 X (callw X 1000) n tot kn kx (nI (6 * j)) M) := by
  have h1 : inb (nI (6 * j) + nI 1) X.1 = true := by rw [nI_add]; exact inb_nI (by omega) (by omega)
  unfold t_312_479
  simp only [o_nI, h1, if_true]
  exact NxT.pr (P_hours (by decide) h) hG
theorem L_502 (hX : X.1 ≤ 3072) {j len s : Nat} (hj : 6 * j + 5 < X.1) (hs : s < 900000) (h : Rl kn len s M) (hG : ShP n tot kn kx len s) : NxT j s (t_312_502 X (callw X 1000) n tot kn kx (nI (6 * j)) M) := by
  have h1 : inb (nI (6 * j) + nI 1) X.1 = true := by rw [nI_add]; exact inb_nI (by omega) (by omega)
  have h2 : inb (nI (6 * j) + nI 2) X.1 = true := by rw [nI_add]; exact inb_nI (by omega) (by omega)
  have h3 : inb (nI (6 * j) + nI 3) X.1 = true := by rw [nI_add]; exact inb_nI (by omega) (by omega)
  have h4 : inb (nI (6 * j) + nI 4) X.1 = true := by rw [nI_add]; exact inb_nI (by omega) (by omega)
  have h5 : inb (nI (6 * j) + nI 5) X.1 = true := by rw [nI_add]; exact inb_nI (by omega) (by omega)
  unfold t_312_502
  simp only [o_nI, h1, h2, h3, h4, h5, if_true]
  exact NxT.pr (P_feed (by decide) h) hG
theorem L_565 (hX : X.1 ≤ 3072) {j len s : Nat} (hj : 6 * j + 5 < X.1) (hs : s < 900000) (h : Rl kn len s M) (hG : ShP n tot kn kx len s) : NxT j s (t_312_565 X (callw X 1000) n tot kn kx (nI (6 * j)) M) := by
  have h1 : inb (nI (6 * j) + nI 1) X.1 = true := by rw [nI_add]; exact inb_nI (by omega) (by omega)
  unfold t_312_565
  simp only [o_nI, h1, if_true]
  exact NxT.pr (P_end (by decide) h) hG
theorem L_588 (hX : X.1 ≤ 3072) {j len s : Nat} (hj : 6 * j + 5 < X.1) (hs : s < 900000) (h : Rl kn len s M) (hG : ShP n tot kn kx len s) : NxT j s (t_312_588 X (callw X 1000) n tot kn kx (nI (6 * j)) M) := by
  have h1 : inb (nI (6 * j) + nI 1) X.1 = true := by rw [nI_add]; exact inb_nI (by omega) (by omega)
  unfold t_312_588
  simp only [o_nI, h1, if_true]
  exact NxT.pr (P_text (by decide) h) hG
theorem L_611 (hX : X.1 ≤ 3072) {j len s : Nat} (hj : 6 * j + 5 < X.1) (hs : s < 900000) (h : Rl kn len s M) (hG : ShP n tot kn kx len s) : NxT j s (t_312_611 X (callw X 1000) n tot kn kx (nI (6 * j)) M) := by
  have h1 : inb (nI (6 * j) + nI 1) X.1 = true := by rw [nI_add]; exact inb_nI (by omega) (by omega)
  unfold t_312_611
  simp only [o_nI, h1, if_true]
  exact NxT.pr (P_fault (by decide) h) hG
theorem L_634 (hX : X.1 ≤ 3072) {j len s : Nat} (hj : 6 * j + 5 < X.1) (hs : s < 900000) (h : Rl kn len s M) (hG : ShP n tot kn kx len s) : NxT j s (t_312_634 X (callw X 1000) n tot kn kx (nI (6 * j)) M) := by
  have h1 : inb (nI (6 * j) + nI 1) X.1 = true := by rw [nI_add]; exact inb_nI (by omega) (by omega)
  have h2 : inb (nI (6 * j) + nI 2) X.1 = true := by rw [nI_add]; exact inb_nI (by omega) (by omega)
  unfold t_312_634
  simp only [o_nI, h1, h2, if_true]
  exact NxT.pr (P_of (by decide) h) hG
theorem L_667 (hX : X.1 ≤ 3072) {j len s : Nat} (hj : 6 * j + 5 < X.1) (hs : s < 900000) (h : Rl kn len s M) (hG : ShP n tot kn kx len s) : NxT j s (t_312_667 X (callw X 1000) n tot kn kx (nI (6 * j)) M) := by
  have h1 : inb (nI (6 * j) + nI 1) X.1 = true := by rw [nI_add]; exact inb_nI (by omega) (by omega)
  have h2 : inb (nI (6 * j) + nI 2) X.1 = true := by rw [nI_add]; exact inb_nI (by omega) (by omega)
  unfold t_312_667
  simp only [o_nI, h1, h2, if_true]
  exact NxT.pr (P_at (by decide) h) hG
theorem L_700 (hX : X.1 ≤ 3072) {j len s : Nat} (hj : 6 * j + 5 < X.1) (hs : s < 900000) (h : Rl kn len s M) (hG : ShP n tot kn kx len s) : NxT j s (t_312_700 X (callw X 1000) n tot kn kx (nI (6 * j)) M) := by
  have h1 : inb (nI (6 * j) + nI 1) X.1 = true := by rw [nI_add]; exact inb_nI (by omega) (by omega)
  have h2 : inb (nI (6 * j) + nI 2) X.1 = true := by rw [nI_add]; exact inb_nI (by omega) (by omega)
  unfold t_312_700
  simp only [o_nI, h1, h2, if_true]
  exact NxT.pr (P_work (by decide) h) hG
theorem L_733 (hX : X.1 ≤ 3072) {j len s : Nat} (hj : 6 * j + 5 < X.1) (hs : s < 900000) (h : Rl kn len s M) (hG : ShP n tot kn kx len s) : NxT j s (t_312_733 X (callw X 1000) n tot kn kx (nI (6 * j)) M) := by
  have h1 : inb (nI (6 * j) + nI 1) X.1 = true := by rw [nI_add]; exact inb_nI (by omega) (by omega)
  have h2 : inb (nI (6 * j) + nI 2) X.1 = true := by rw [nI_add]; exact inb_nI (by omega) (by omega)
  unfold t_312_733
  simp only [o_nI, h1, h2, if_true]
  exact NxT.pr (P_serves (by decide) h) hG
theorem L_766 (hX : X.1 ≤ 3072) {j len s : Nat} (hj : 6 * j + 5 < X.1) (hs : s < 900000) (h : Rl kn len s M) (hG : ShP n tot kn kx len s) : NxT j s (t_312_766 X (callw X 1000) n tot kn kx (nI (6 * j)) M) := by
  have h1 : inb (nI (6 * j) + nI 1) X.1 = true := by rw [nI_add]; exact inb_nI (by omega) (by omega)
  have h2 : inb (nI (6 * j) + nI 2) X.1 = true := by rw [nI_add]; exact inb_nI (by omega) (by omega)
  have h3 : inb (nI (6 * j) + nI 3) X.1 = true := by rw [nI_add]; exact inb_nI (by omega) (by omega)
  unfold t_312_766
  simp only [o_nI, h1, h2, h3, if_true]
  exact NxT.pr (P_tells (by decide) h) hG
theorem L_809 (hX : X.1 ≤ 3072) {j len s : Nat} (hj : 6 * j + 5 < X.1) (hs : s < 900000) (h : Rl kn len s M) (hG : ShP n tot kn kx len s) : NxT j s (t_312_809 X (callw X 1000) n tot kn kx (nI (6 * j)) M) := by
  have h1 : inb (nI (6 * j) + nI 1) X.1 = true := by rw [nI_add]; exact inb_nI (by omega) (by omega)
  have h2 : inb (nI (6 * j) + nI 2) X.1 = true := by rw [nI_add]; exact inb_nI (by omega) (by omega)
  unfold t_312_809
  simp only [o_nI, h1, h2, if_true]
  exact NxT.pr (P_book (by decide) h) hG
theorem L_842 (hX : X.1 ≤ 3072) {j len s : Nat} (hj : 6 * j + 5 < X.1) (hs : s < 900000) (h : Rl kn len s M) (hG : ShP n tot kn kx len s) : NxT j s (t_312_842 X (callw X 1000) n tot kn kx (nI (6 * j)) M) := by
  have h1 : inb (nI (6 * j) + nI 1) X.1 = true := by rw [nI_add]; exact inb_nI (by omega) (by omega)
  unfold t_312_842
  simp only [o_nI, h1, if_true]
  obtain ⟨n', tot', kn', kx', len', s', x, M1, M2, e1, e2, hR, hG', hs'⟩ := P_soonest (X := X) (D := 1000) (v := sv X (nI (6 * j)) 1) (by decide) hs h hG
  rw [e1, bnd_some, if_pos ⟨by decide, by rfl⟩, e2, bnd_some, if_pos rfl]
  exact ⟨n', tot', kn', kx', len', s', M2, hs', hR, hG', by rw [im6, nI_add]; rfl⟩
theorem L_865 (hX : X.1 ≤ 3072) {j len s : Nat} (hj : 6 * j + 5 < X.1) (hs : s < 900000) (h : Rl kn len s M) (hG : ShP n tot kn kx len s) : NxT j s (t_312_865 X (callw X 1000) n tot kn kx (nI (6 * j)) M) := by
  have h1 : inb (nI (6 * j) + nI 1) X.1 = true := by rw [nI_add]; exact inb_nI (by omega) (by omega)
  unfold t_312_865
  simp only [o_nI, h1, if_true]
  exact NxT.pr (P_few (by decide) h) hG
theorem L_888 (hX : X.1 ≤ 3072) {j len s : Nat} (hj : 6 * j + 5 < X.1) (hs : s < 900000) (h : Rl kn len s M) (hG : ShP n tot kn kx len s) : NxT j s (t_312_888 X (callw X 1000) n tot kn kx (nI (6 * j)) M) := by
  have h1 : inb (nI (6 * j) + nI 1) X.1 = true := by rw [nI_add]; exact inb_nI (by omega) (by omega)
  unfold t_312_888
  simp only [o_nI, h1, if_true]
  exact NxT.pr (P_changes (by decide) h) hG
theorem L_911 (hX : X.1 ≤ 3072) {j len s : Nat} (hj : 6 * j + 5 < X.1) (hs : s < 900000) (h : Rl kn len s M) (hG : ShP n tot kn kx len s) : NxT j s (t_312_911 X (callw X 1000) n tot kn kx (nI (6 * j)) M) := by
  have h1 : inb (nI (6 * j) + nI 1) X.1 = true := by rw [nI_add]; exact inb_nI (by omega) (by omega)
  unfold t_312_911
  simp only [o_nI, h1, if_true]
  exact NxT.pr (P_vote (by decide) h) hG
theorem L_934 (hX : X.1 ≤ 3072) {j len s : Nat} (hj : 6 * j + 5 < X.1) (hs : s < 900000) (h : Rl kn len s M) (hG : ShP n tot kn kx len s) : NxT j s (t_312_934 X (callw X 1000) n tot kn kx (nI (6 * j)) M) := by
  have h1 : inb (nI (6 * j) + nI 1) X.1 = true := by rw [nI_add]; exact inb_nI (by omega) (by omega)
  have h2 : inb (nI (6 * j) + nI 2) X.1 = true := by rw [nI_add]; exact inb_nI (by omega) (by omega)
  unfold t_312_934
  simp only [o_nI, h1, h2, if_true]
  exact NxT.pr (P_lasts (by decide) h) hG
theorem L_967 (hX : X.1 ≤ 3072) {j len s : Nat} (hj : 6 * j + 5 < X.1) (hs : s < 900000) (h : Rl kn len s M) (hG : ShP n tot kn kx len s) : NxT j s (t_312_967 X (callw X 1000) n tot kn kx (nI (6 * j)) M) := by
  have h1 : inb (nI (6 * j) + nI 1) X.1 = true := by rw [nI_add]; exact inb_nI (by omega) (by omega)
  have h2 : inb (nI (6 * j) + nI 2) X.1 = true := by rw [nI_add]; exact inb_nI (by omega) (by omega)
  unfold t_312_967
  simp only [o_nI, h1, h2, if_true]
  exact NxT.pr (P_runs (by decide) h) hG
theorem L_1000 (hX : X.1 ≤ 3072) {j len s : Nat} (hj : 6 * j + 5 < X.1) (hs : s < 900000) (h : Rl kn len s M) (hG : ShP n tot kn kx len s) : NxT j s (t_312_1000 X (callw X 1000) n tot kn kx (nI (6 * j)) M) := by
  have h1 : inb (nI (6 * j) + nI 1) X.1 = true := by rw [nI_add]; exact inb_nI (by omega) (by omega)
  unfold t_312_1000
  simp only [o_nI, h1, if_true]
  exact NxT.pr (P_idle (by decide) h) hG
theorem L_1023 (hX : X.1 ≤ 3072) {j len s : Nat} (hj : 6 * j + 5 < X.1) (hs : s < 900000) (h : Rl kn len s M) (hG : ShP n tot kn kx len s) : NxT j s (t_312_1023 X (callw X 1000) n tot kn kx (nI (6 * j)) M) := by
  have h1 : inb (nI (6 * j) + nI 1) X.1 = true := by rw [nI_add]; exact inb_nI (by omega) (by omega)
  have h2 : inb (nI (6 * j) + nI 2) X.1 = true := by rw [nI_add]; exact inb_nI (by omega) (by omega)
  unfold t_312_1023
  simp only [o_nI, h1, h2, if_true]
  exact NxT.pr (P_dull (by decide) h) hG
theorem L_1056 (hX : X.1 ≤ 3072) {j len s : Nat} (hj : 6 * j + 5 < X.1) (hs : s < 900000) (h : Rl kn len s M) (hG : ShP n tot kn kx len s) : NxT j s (t_312_1056 X (callw X 1000) n tot kn kx (nI (6 * j)) M) := by
  unfold t_312_1056
  simp only [o_nI]
  exact NxT.pr (P_loved (by decide) h) hG
theorem L_1069 (hX : X.1 ≤ 3072) {j len s : Nat} (hj : 6 * j + 5 < X.1) (hs : s < 900000) (h : Rl kn len s M) (hG : ShP n tot kn kx len s) : NxT j s (t_312_1069 X (callw X 1000) n tot kn kx (nI (6 * j)) M) := by
  unfold t_312_1069
  simp only [o_nI]
  exact NxT.pr (P_ready (by decide) h) hG
theorem L_1082 (hX : X.1 ≤ 3072) {j len s : Nat} (hj : 6 * j + 5 < X.1) (hs : s < 900000) (h : Rl kn len s M) (hG : ShP n tot kn kx len s) : NxT j s (t_312_1082 X (callw X 1000) n tot kn kx (nI (6 * j)) M) := by
  have h1 : inb (nI (6 * j) + nI 1) X.1 = true := by rw [nI_add]; exact inb_nI (by omega) (by omega)
  have h2 : inb (nI (6 * j) + nI 2) X.1 = true := by rw [nI_add]; exact inb_nI (by omega) (by omega)
  unfold t_312_1082
  simp only [o_nI, h1, h2, if_true]
  exact NxT.pr (P_seen (by decide) h) hG
theorem L_1115 (hX : X.1 ≤ 3072) {j len s : Nat} (hj : 6 * j + 5 < X.1) (hs : s < 900000) (h : Rl kn len s M) (hG : ShP n tot kn kx len s) : NxT j s (t_312_1115 X (callw X 1000) n tot kn kx (nI (6 * j)) M) := by
  have h1 : inb (nI (6 * j) + nI 1) X.1 = true := by rw [nI_add]; exact inb_nI (by omega) (by omega)
  unfold t_312_1115
  simp only [o_nI, h1, if_true]
  exact NxT.pr (P_orders (by decide) h) hG
theorem L_1138 (hX : X.1 ≤ 3072) {j len s : Nat} (hj : 6 * j + 5 < X.1) (hs : s < 900000) (h : Rl kn len s M) (hG : ShP n tot kn kx len s) : NxT j s (t_312_1138 X (callw X 1000) n tot kn kx (nI (6 * j)) M) := by
  unfold t_312_1138
  simp only [o_nI]
  exact NxT.pr (P_undo (by decide) h) hG
theorem L_1151 (hX : X.1 ≤ 3072) {j len s : Nat} (hj : 6 * j + 5 < X.1) (hs : s < 900000) (h : Rl kn len s M) (hG : ShP n tot kn kx len s) : NxT j s (t_312_1151 X (callw X 1000) n tot kn kx (nI (6 * j)) M) := by
  have h1 : inb (nI (6 * j) + nI 1) X.1 = true := by rw [nI_add]; exact inb_nI (by omega) (by omega)
  unfold t_312_1151
  by_cases z : sv X (nI (6 * j)) 1 = 0
  · simp only [o_nI, h1, if_true, z]
    exact NxT.pr (P_image (o := false) (by decide) h) hG
  · simp only [o_nI, h1, if_true, z]
    exact NxT.pr (P_image (o := true) (by decide) h) hG
theorem L_1190 (hX : X.1 ≤ 3072) {j len s : Nat} (hj : 6 * j + 5 < X.1) (hs : s < 900000) (h : Rl kn len s M) (hG : ShP n tot kn kx len s) : NxT j s (t_312_1190 X (callw X 1000) n tot kn kx (nI (6 * j)) M) := by
  have h1 : inb (nI (6 * j) + nI 1) X.1 = true := by rw [nI_add]; exact inb_nI (by omega) (by omega)
  unfold t_312_1190
  simp only [o_nI, h1, if_true]
  exact NxT.pr (P_look (by decide) h) hG

theorem L_18 (hX : X.1 ≤ 3072) {j len s : Nat} (hj : 6 * j + 5 < X.1) (hs : s < 900000) (h : Rl kn len s M) (hG : ShP n tot kn kx len s) : ∃ t, NxT j s t ∧ ∀ r, EvT X (callw X 1000) 312 t r → EvT X (callw X 1000) 312 (t_312_18 X (callw X 1000) n tot kn kx (nI (6 * j)) M) r := by
  have h0 : inb (nI (6 * j)) X.1 = true := inb_nI (by omega) (by omega)
  unfold t_312_18
  simp only [o_nI]
  rw [if_neg (by rw [nI_sub (by omega), lt_i (by omega) (by omega)]; omega), h0, if_pos rfl]
  by_cases c0 : (X.2 (nI (6 * j)).toNatClampNeg &&& nI 63) = nI 0
  · rw [if_pos c0]
    exact ⟨_, L_180 hX hj hs h hG, fun r ht => Ev_of (t_312_180_ok X (callw X 1000) n tot kn kx (nI (6 * j)) M) ht⟩
  rw [if_neg c0]
  by_cases c1 : (X.2 (nI (6 * j)).toNatClampNeg &&& nI 63) = nI 1
  · rw [if_pos c1]
    exact ⟨_, L_203 hX hj hs h hG, fun r ht => Ev_of (t_312_203_ok X (callw X 1000) n tot kn kx (nI (6 * j)) M) ht⟩
  rw [if_neg c1]
  by_cases c2 : (X.2 (nI (6 * j)).toNatClampNeg &&& nI 63) = nI 2
  · rw [if_pos c2]
    exact ⟨_, L_246 hX hj hs h hG, fun r ht => Ev_of (t_312_246_ok X (callw X 1000) n tot kn kx (nI (6 * j)) M) ht⟩
  rw [if_neg c2]
  by_cases c3 : (X.2 (nI (6 * j)).toNatClampNeg &&& nI 63) = nI 3
  · rw [if_pos c3]
    exact ⟨_, L_279 hX hj hs h hG, fun r ht => Ev_of (t_312_279_ok X (callw X 1000) n tot kn kx (nI (6 * j)) M) ht⟩
  rw [if_neg c3]
  by_cases c4 : (X.2 (nI (6 * j)).toNatClampNeg &&& nI 63) = nI 4
  · rw [if_pos c4]
    exact ⟨_, L_322 hX hj hs h hG, fun r ht => Ev_of (t_312_322_ok X (callw X 1000) n tot kn kx (nI (6 * j)) M) ht⟩
  rw [if_neg c4]
  by_cases c5 : (X.2 (nI (6 * j)).toNatClampNeg &&& nI 63) = nI 5
  · rw [if_pos c5]
    exact ⟨_, L_371 hX hj hs h hG, fun r ht => Ev_of (t_312_371_ok X (callw X 1000) n tot kn kx (nI (6 * j)) M) ht⟩
  rw [if_neg c5]
  by_cases c6 : (X.2 (nI (6 * j)).toNatClampNeg &&& nI 63) = nI 6
  · rw [if_pos c6]
    exact ⟨_, L_420 hX hj hs h hG, fun r ht => Ev_of (t_312_420_ok X (callw X 1000) n tot kn kx (nI (6 * j)) M) ht⟩
  rw [if_neg c6]
  by_cases c7 : (X.2 (nI (6 * j)).toNatClampNeg &&& nI 63) = nI 7
  · rw [if_pos c7]
    exact ⟨_, L_479 hX hj hs h hG, fun r ht => Ev_of (t_312_479_ok X (callw X 1000) n tot kn kx (nI (6 * j)) M) ht⟩
  rw [if_neg c7]
  by_cases c8 : (X.2 (nI (6 * j)).toNatClampNeg &&& nI 63) = nI 8
  · rw [if_pos c8]
    exact ⟨_, L_502 hX hj hs h hG, fun r ht => Ev_of (t_312_502_ok X (callw X 1000) n tot kn kx (nI (6 * j)) M) ht⟩
  rw [if_neg c8]
  by_cases c9 : (X.2 (nI (6 * j)).toNatClampNeg &&& nI 63) = nI 9
  · rw [if_pos c9]
    exact ⟨_, L_565 hX hj hs h hG, fun r ht => Ev_of (t_312_565_ok X (callw X 1000) n tot kn kx (nI (6 * j)) M) ht⟩
  rw [if_neg c9]
  by_cases c10 : (X.2 (nI (6 * j)).toNatClampNeg &&& nI 63) = nI 10
  · rw [if_pos c10]
    exact ⟨_, L_588 hX hj hs h hG, fun r ht => Ev_of (t_312_588_ok X (callw X 1000) n tot kn kx (nI (6 * j)) M) ht⟩
  rw [if_neg c10]
  by_cases c11 : (X.2 (nI (6 * j)).toNatClampNeg &&& nI 63) = nI 11
  · rw [if_pos c11]
    exact ⟨_, L_611 hX hj hs h hG, fun r ht => Ev_of (t_312_611_ok X (callw X 1000) n tot kn kx (nI (6 * j)) M) ht⟩
  rw [if_neg c11]
  by_cases c12 : (X.2 (nI (6 * j)).toNatClampNeg &&& nI 63) = nI 12
  · rw [if_pos c12]
    exact ⟨_, L_634 hX hj hs h hG, fun r ht => Ev_of (t_312_634_ok X (callw X 1000) n tot kn kx (nI (6 * j)) M) ht⟩
  rw [if_neg c12]
  by_cases c13 : (X.2 (nI (6 * j)).toNatClampNeg &&& nI 63) = nI 13
  · rw [if_pos c13]
    exact ⟨_, L_667 hX hj hs h hG, fun r ht => Ev_of (t_312_667_ok X (callw X 1000) n tot kn kx (nI (6 * j)) M) ht⟩
  rw [if_neg c13]
  by_cases c14 : (X.2 (nI (6 * j)).toNatClampNeg &&& nI 63) = nI 14
  · rw [if_pos c14]
    exact ⟨_, L_700 hX hj hs h hG, fun r ht => Ev_of (t_312_700_ok X (callw X 1000) n tot kn kx (nI (6 * j)) M) ht⟩
  rw [if_neg c14]
  by_cases c15 : (X.2 (nI (6 * j)).toNatClampNeg &&& nI 63) = nI 15
  · rw [if_pos c15]
    exact ⟨_, L_733 hX hj hs h hG, fun r ht => Ev_of (t_312_733_ok X (callw X 1000) n tot kn kx (nI (6 * j)) M) ht⟩
  rw [if_neg c15]
  by_cases c16 : (X.2 (nI (6 * j)).toNatClampNeg &&& nI 63) = nI 16
  · rw [if_pos c16]
    exact ⟨_, L_766 hX hj hs h hG, fun r ht => Ev_of (t_312_766_ok X (callw X 1000) n tot kn kx (nI (6 * j)) M) ht⟩
  rw [if_neg c16]
  by_cases c17 : (X.2 (nI (6 * j)).toNatClampNeg &&& nI 63) = nI 17
  · rw [if_pos c17]
    exact ⟨_, L_809 hX hj hs h hG, fun r ht => Ev_of (t_312_809_ok X (callw X 1000) n tot kn kx (nI (6 * j)) M) ht⟩
  rw [if_neg c17]
  by_cases c18 : (X.2 (nI (6 * j)).toNatClampNeg &&& nI 63) = nI 18
  · rw [if_pos c18]
    exact ⟨_, L_842 hX hj hs h hG, fun r ht => Ev_of (t_312_842_ok X (callw X 1000) n tot kn kx (nI (6 * j)) M) ht⟩
  rw [if_neg c18]
  by_cases c19 : (X.2 (nI (6 * j)).toNatClampNeg &&& nI 63) = nI 19
  · rw [if_pos c19]
    exact ⟨_, L_865 hX hj hs h hG, fun r ht => Ev_of (t_312_865_ok X (callw X 1000) n tot kn kx (nI (6 * j)) M) ht⟩
  rw [if_neg c19]
  by_cases c20 : (X.2 (nI (6 * j)).toNatClampNeg &&& nI 63) = nI 20
  · rw [if_pos c20]
    exact ⟨_, L_888 hX hj hs h hG, fun r ht => Ev_of (t_312_888_ok X (callw X 1000) n tot kn kx (nI (6 * j)) M) ht⟩
  rw [if_neg c20]
  by_cases c21 : (X.2 (nI (6 * j)).toNatClampNeg &&& nI 63) = nI 21
  · rw [if_pos c21]
    exact ⟨_, L_911 hX hj hs h hG, fun r ht => Ev_of (t_312_911_ok X (callw X 1000) n tot kn kx (nI (6 * j)) M) ht⟩
  rw [if_neg c21]
  by_cases c22 : (X.2 (nI (6 * j)).toNatClampNeg &&& nI 63) = nI 22
  · rw [if_pos c22]
    exact ⟨_, L_934 hX hj hs h hG, fun r ht => Ev_of (t_312_934_ok X (callw X 1000) n tot kn kx (nI (6 * j)) M) ht⟩
  rw [if_neg c22]
  by_cases c23 : (X.2 (nI (6 * j)).toNatClampNeg &&& nI 63) = nI 23
  · rw [if_pos c23]
    exact ⟨_, L_967 hX hj hs h hG, fun r ht => Ev_of (t_312_967_ok X (callw X 1000) n tot kn kx (nI (6 * j)) M) ht⟩
  rw [if_neg c23]
  by_cases c24 : (X.2 (nI (6 * j)).toNatClampNeg &&& nI 63) = nI 24
  · rw [if_pos c24]
    exact ⟨_, L_1000 hX hj hs h hG, fun r ht => Ev_of (t_312_1000_ok X (callw X 1000) n tot kn kx (nI (6 * j)) M) ht⟩
  rw [if_neg c24]
  by_cases c25 : (X.2 (nI (6 * j)).toNatClampNeg &&& nI 63) = nI 25
  · rw [if_pos c25]
    exact ⟨_, L_1023 hX hj hs h hG, fun r ht => Ev_of (t_312_1023_ok X (callw X 1000) n tot kn kx (nI (6 * j)) M) ht⟩
  rw [if_neg c25]
  by_cases c26 : (X.2 (nI (6 * j)).toNatClampNeg &&& nI 63) = nI 26
  · rw [if_pos c26]
    exact ⟨_, L_1056 hX hj hs h hG, fun r ht => Ev_of (t_312_1056_ok X (callw X 1000) n tot kn kx (nI (6 * j)) M) ht⟩
  rw [if_neg c26]
  by_cases c27 : (X.2 (nI (6 * j)).toNatClampNeg &&& nI 63) = nI 27
  · rw [if_pos c27]
    exact ⟨_, L_1069 hX hj hs h hG, fun r ht => Ev_of (t_312_1069_ok X (callw X 1000) n tot kn kx (nI (6 * j)) M) ht⟩
  rw [if_neg c27]
  by_cases c28 : (X.2 (nI (6 * j)).toNatClampNeg &&& nI 63) = nI 28
  · rw [if_pos c28]
    exact ⟨_, L_1082 hX hj hs h hG, fun r ht => Ev_of (t_312_1082_ok X (callw X 1000) n tot kn kx (nI (6 * j)) M) ht⟩
  rw [if_neg c28]
  by_cases c29 : (X.2 (nI (6 * j)).toNatClampNeg &&& nI 63) = nI 29
  · rw [if_pos c29]
    exact ⟨_, L_1115 hX hj hs h hG, fun r ht => Ev_of (t_312_1115_ok X (callw X 1000) n tot kn kx (nI (6 * j)) M) ht⟩
  rw [if_neg c29]
  by_cases c30 : (X.2 (nI (6 * j)).toNatClampNeg &&& nI 63) = nI 30
  · rw [if_pos c30]
    exact ⟨_, L_1138 hX hj hs h hG, fun r ht => Ev_of (t_312_1138_ok X (callw X 1000) n tot kn kx (nI (6 * j)) M) ht⟩
  rw [if_neg c30]
  by_cases c31 : (X.2 (nI (6 * j)).toNatClampNeg &&& nI 63) = nI 31
  · rw [if_pos c31]
    exact ⟨_, L_1151 hX hj hs h hG, fun r ht => Ev_of (t_312_1151_ok X (callw X 1000) n tot kn kx (nI (6 * j)) M) ht⟩
  rw [if_neg c31]
  by_cases c32 : (X.2 (nI (6 * j)).toNatClampNeg &&& nI 63) = nI 32
  · rw [if_pos c32]
    exact ⟨_, L_1190 hX hj hs h hG, fun r ht => Ev_of (t_312_1190_ok X (callw X 1000) n tot kn kx (nI (6 * j)) M) ht⟩
  rw [if_neg c32]
  exact ⟨_, NxT.mk h hG, fun r ht => ht⟩
theorem L_exit (hX : X.1 ≤ 3072) {j len s : Nat} (hc : X.1 ≤ 6 * j + 5) (hj : j ≤ 600) (hs : s ≤ j) (hG : ShP n tot kn kx len s) : ∃ G' M', Ev X (callw X 1000) 312 18 [some (.inr (.inr 57)), some (.inr (.inl 0)), some (.inr (.inl 178)), some (.inl (nI (6 * j)))] [] (Gk n tot kn kx) M (1, G', M') ∧ G'.1 ≤ 600000 ∧ G'.2.1 ≤ 7302250 := by
  have hlt : nI X.1 - nI 6 < nI (6 * j) := by
    rcases Nat.lt_or_ge X.1 6 with h6 | h6
    · rcases (show X.1 = 0 ∨ X.1 = 1 ∨ X.1 = 2 ∨ X.1 = 3 ∨ X.1 = 4 ∨ X.1 = 5 by omega) with e | e | e | e | e | e <;> (rw [e]; exact neg_lt (by decide) (6 * j) (by omega))
    · rw [nI_sub (by omega), lt_i (by omega) (by omega)]; omega
  refine ⟨Gk n tot kn kx, M, ?_, ?_, ?_⟩
  · refine Ev_of (t_312_18_ok X (callw X 1000) n tot kn kx _ M) ?_
    unfold t_312_18
    simp only [o_nI]
    rw [if_pos hlt]
    rfl
  · show n ≤ 600000
    have := hG.2.2.2.1; omega
  · show tot ≤ 7302250
    have h1 := hG.2.2.2.2
    obtain ⟨e, he, hl⟩ := hG.2.1
    have h4 : 4 ^ e ≤ 4 ^ 8 := Nat.pow_le_pow_right (by decide) he
    have h8 : 4 ^ 8 = 65536 := by decide
    omega
theorem L_loop (hX : X.1 ≤ 3072) : ∀ (c j : Nat) {n tot kn : Nat} {kx : Nat → Nat × Nat} {M : MMw} {len s : Nat}, X.1 ≤ 6 * (j + c) + 5 → j ≤ 600 → s ≤ j → Rl kn len s M → ShP n tot kn kx len s → ∃ G' M', Ev X (callw X 1000) 312 18 [some (.inr (.inr 57)), some (.inr (.inl 0)), some (.inr (.inl 178)), some (.inl (nI (6 * j)))] [] (Gk n tot kn kx) M (1, G', M') ∧ G'.1 ≤ 600000 ∧ G'.2.1 ≤ 7302250 := by
  intro c
  induction c with
  | zero => exact fun j _ _ _ _ _ _ _ hc hj hs h hG => L_exit hX hc hj hs hG
  | succ c ih =>
    intro j n tot kn kx M len s hc hj hs h hG
    by_cases hd : 6 * j + 5 < X.1
    · obtain ⟨t, ⟨n', tot', kn', kx', len', s', M', hs', hR, hG', rfl⟩, ht⟩ := L_18 hX hd (by omega) h hG
      obtain ⟨G2, M2, ev, b1, b2⟩ := ih (j + 1) (by omega) (by omega) (by omega) hR hG'
      exact ⟨G2, M2, Ev_of (t_312_18_ok X (callw X 1000) n tot kn kx (nI (6 * j)) M) (ht _ ev), b1, b2⟩
    · exact L_exit hX (by omega) hj hs hG
end
