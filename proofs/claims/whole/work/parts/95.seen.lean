section
-- needs: undo
/-! seen -/
def eqN (W W' : Nat → Int32) : Prop := ∀ k, k < 104 ∨ (130 ≤ k ∧ k < 2034) → W' k = W k
theorem CRcrew.chN {M M' : MMw} {c : Nat} {W W' : Nat → Int32} (hM : ∀ d, c ≤ d → d ≤ c + 7 → M' d = M d) (hW : eqN W W') (h : CRcrew M c W) : CRcrew M' c W' := by
  obtain ⟨h1, h2, h3, h4, a1, a2, a3, a4, a5, a6, a7⟩ := h
  refine ⟨?_, ?_, ?_, ?_, a1.ch (hM _ (by omega) (by omega)) ?_, a2.ch (hM _ (by omega) (by omega)) ?_, a3.ch (hM _ (by omega) (by omega)) ?_, a4.ch (hM _ (by omega) (by omega)) ?_, a5.ch (hM _ (by omega) (by omega)) ?_, a6.ch (hM _ (by omega) (by omega)) ?_, a7.ch (hM _ (by omega) (by omega)) ?_⟩
  · rw [hM _ (by omega) (by omega), h1, hW _ (by omega)]
  · rw [hM _ (by omega) (by omega), h2, hW _ (by omega)]
  · rw [hM _ (by omega) (by omega), h3, hW _ (by omega)]
  · rw [hM _ (by omega) (by omega), h4, hW _ (by omega)]
  all_goals (intro t ht; exact hW _ (by omega))
theorem CRrota.chN {M M' : MMw} {c : Nat} {W W' : Nat → Int32} (hM : ∀ d, c ≤ d → d ≤ c + 5 → M' d = M d) (hW : eqN W W') (hn : q_n W 99 ≤ 20) (h : CRrota M c W) : CRrota M' c W' := by
  obtain ⟨h1, a1, a2, a3, a4, a5⟩ := h
  have w99 : q_n W' 99 = q_n W 99 := q_n_eq (hW _ (by omega))
  refine ⟨?_, ?_, ?_, ?_, ?_, ?_⟩
  · rw [hM _ (by omega) (by omega), h1, hW _ (by omega)]
  all_goals rw [w99]
  · exact a1.ch (hM _ (by omega) (by omega)) (fun t ht => hW _ (by omega))
  · exact a2.ch (hM _ (by omega) (by omega)) (fun t ht => hW _ (by omega))
  · exact a3.ch (hM _ (by omega) (by omega)) (fun t ht => hW _ (by omega))
  · exact a4.ch (hM _ (by omega) (by omega)) (fun t ht => hW _ (by omega))
  · exact a5.ch (hM _ (by omega) (by omega)) (fun t ht => hW _ (by omega))
theorem q_S_eqN {W W' : Nat → Int32} (hW : eqN W W') {k i : Nat} (hk : k < 2) (hi : i < 410) : q_S W' k i = q_S W k i := by
  unfold q_S
  rw [hW _ (by omega), hW _ (by omega)]
theorem q_law.chN {W W' C : Nat → Int32} {k : Nat} (hk : k < 2) (hW : eqN W W') (h : q_law W k C) : q_law W' k C := by
  obtain ⟨l, hl, hw, h2⟩ := h
  refine ⟨l, hl, by rw [hW _ (by omega)]; exact hw, fun i hi => ?_⟩
  obtain ⟨f, m, t, w, h1, h2, h3, h4, h5, h6, h7, h8, h9, h10, h11⟩ := h2 i hi
  refine ⟨f, m, t, w, h1, h2, h3, ?_, ?_, ?_, ?_, h8, h9, fun a => ?_, fun a => ?_⟩
  · rw [hW _ (by omega)]; exact h4
  · rw [hW _ (by omega)]; exact h5
  · rw [hW _ (by omega)]; exact h6
  · rw [hW _ (by omega)]; exact h7
  · exact q_wf_cong (fun j a b => ⟨(q_S_eqN hW hk (by omega)).symm, rfl⟩) (h10 a)
  · exact q_wf_cong (fun j a b => ⟨(q_S_eqN hW hk (by omega)).symm, rfl⟩) (h11 a)
theorem CRlaw.chN {M M' : MMw} {c k : Nat} {W W' : Nat → Int32} (hk : k < 2) (hM : ∀ d, c ≤ d → d ≤ c + 5 → M' d = M d) (hW : eqN W W') (h : CRlaw M c W k) : CRlaw M' c W' k := by
  obtain ⟨h1, h5, h6⟩ := h
  have hc := h6.cnt.2
  have w99 : W' (100 + k) = W (100 + k) := hW _ (by omega)
  refine ⟨?_, ?_, ?_⟩
  · rw [hM _ (by omega) (by omega), h1, w99]
  · intro t ht
    rw [q_n_eq w99] at ht
    obtain ⟨a1, a2, a3, a4⟩ := h5 t ht
    refine ⟨?_, ?_, ?_, ?_⟩
    · rw [hM _ (by omega) (by omega), a1, hW _ (by omega)]
    · rw [hM _ (by omega) (by omega), a2, hW _ (by omega)]
    · rw [hM _ (by omega) (by omega), a3, hW _ (by omega)]
    · rw [hM _ (by omega) (by omega), a4, hW _ (by omega)]
  · rw [hM _ (by omega) (by omega)]; exact h6.chN hk hW
theorem q_kb.chN {W W' : Nat → Int32} {t : Nat} (hW : eqN W W') (ht : t < 8) (h : q_kb W t) : q_kb W' t := by
  have e1 : W' (17 + 10 * t) = W (17 + 10 * t) := hW _ (by omega)
  have e2 : W' (16 + 10 * t) = W (16 + 10 * t) := hW _ (by omega)
  unfold q_kb
  rw [q_n_eq e1, q_n_eq e2, e1, e2]
  exact h
theorem q_invM.chN {W W' : Nat → Int32} (hW : eqN W W') (hn : q_n W 98 ≤ 8) (h : q_invM W) : q_invM W' := by
  obtain ⟨h1, h2, h3, h4, h5⟩ := h
  have e96 : q_n W' 96 = q_n W 96 := q_n_eq (hW _ (by omega))
  have e98 : q_n W' 98 = q_n W 98 := q_n_eq (hW _ (by omega))
  refine ⟨q_lt_eq (hW _ (by omega)) h1, q_lt_eq (hW _ (by omega)) h2, fun b hb => q_lt_eq (hW _ (by omega)) (h3 b hb), fun t ht => ?_, fun i hi => ?_⟩
  · obtain ⟨a, b, c⟩ := h4 t ht
    refine ⟨q_lt_eq (hW _ (by omega)) a, q_lt_eq (hW _ (by omega)) b, ?_⟩
    rw [e96, hW _ (by omega)]; exact c
  · rw [e98] at hi
    obtain ⟨a, b, c⟩ := h5 i hi
    refine ⟨q_lt_eq (hW _ (by omega)) a, ?_⟩
    rw [q_n_eq (hW (8 + i) (by omega)), q_n_eq (hW (143 + 3 * i) (by omega))]; exact ⟨b, c.cg (by omega) (fun k hk => hW k (by omega))⟩
def SeenP (W' : Nat → Int32) (k : Nat) : Prop := ∀ j, j < k → q_lt W' (105 + 2 * j) (q_n W' 98) ∧ q_lt W' (106 + 2 * j) (q_n W' 98) ∧ q_n W' (105 + 2 * j) ≠ q_n W' (106 + 2 * j)
theorem CX.seen {M M' : MMw} {W W' : Nat → Int32} {k : Nat} (h : CX M 10 W) (hW : eqN W W') (hk : k ≤ 12) (h104 : W' 104 = nI k) (c0 : M' 17 0 = M 17 0) (c4 : M' 17 4 = nI k) (l1 : ∀ t, t < k → M' 21 t = W' (105 + 2 * t)) (l2 : ∀ t, t < k → M' 22 t = W' (106 + 2 * t)) (hp : SeenP W' k) (hM : ∀ d, d ≠ 17 → d ≠ 21 → d ≠ 22 → (Yp 1 d ∨ (10 ≤ d ∧ d ≤ 16)) → M' d = M d) : CX M' 10 W' := by
  obtain ⟨⟨y1, ⟨g0, g4, g1, g2, g3, _, _⟩, y3, y4, y5⟩, hm, hy, hi⟩ := h
  obtain ⟨⟨t1, t2, t3, t4, t5⟩, i1, i2, i3, i4, i5, i6, i7⟩ := id hy
  have b3 := t3.2; have b4 := t4.2
  have e96 : q_n W' 96 = q_n W 96 := q_n_eq (hW _ (by omega))
  have e97 : q_n W' 97 = q_n W 97 := q_n_eq (hW _ (by omega))
  have e98 : q_n W' 98 = q_n W 98 := q_n_eq (hW _ (by omega))
  have e99 : q_n W' 99 = q_n W 99 := q_n_eq (hW _ (by omega))
  have e104 : q_n W' 104 = k := q_n_of h104 (by omega)
  refine ⟨⟨?_, ⟨?_, ?_, ?_, ?_, ?_, ?_, ?_⟩, ?_, ?_, ?_⟩, ?_, ⟨⟨q_lt_eq (hW _ (by omega)) t1, q_lt_eq (hW _ (by omega)) t2, q_lt_eq (hW _ (by omega)) t3, q_lt_eq (hW _ (by omega)) t4, ?_⟩, q_lt_eq (hW _ (by omega)) i1, q_lt_eq (hW _ (by omega)) i2, fun t ht => ?_, fun m hm => ?_, fun i hi => ?_, fun j hj => ?_, fun i hi => ?_⟩, hi.chN hW (by omega)⟩
  · exact y1.chN (fun d h1 h2 => hM d (by omega) (by omega) (by omega) (by unfold Yp; omega)) hW
  · rw [c0, hW 98 (by omega)]; exact g0
  · rw [c4, h104]
  · rw [e98]; exact g1.ch (hM 18 (by decide) (by decide) (by decide) (by unfold Yp; omega)) (fun t ht => hW _ (by omega))
  · rw [e98]; exact g2.ch (hM 19 (by decide) (by decide) (by decide) (by unfold Yp; omega)) (fun t ht => hW _ (by omega))
  · rw [e98]; exact g3.ch (hM 20 (by decide) (by decide) (by decide) (by unfold Yp; omega)) (fun t ht => hW _ (by omega))
  · rw [e104]; exact l1
  · rw [e104]; exact l2
  · exact y3.chN (fun d h1 h2 => hM d (by omega) (by omega) (by omega) (by unfold Yp; omega)) hW (by omega)
  · exact y4.chN (by decide) (fun d h1 h2 => hM d (by omega) (by omega) (by omega) (by unfold Yp; omega)) hW
  · exact y5.chN (by decide) (fun d h1 h2 => hM d (by omega) (by omega) (by omega) (by unfold Yp; omega)) hW
  · have hm' := hm.hi (W' := W') (fun k hk => hW _ (by omega))
    obtain ⟨m1, m2, m3, m4, b1, b2, b3, b4, b5, b6⟩ := hm'
    have g : ∀ d, 10 ≤ d → d ≤ 16 → M' d = M d := fun d h1 h2 => hM d (by omega) (by omega) (by omega) (by omega)
    rw [← g _ (by omega) (by omega)] at m1 m2 m3 m4 b1 b2 b3 b4 b5 b6
    exact ⟨m1, m2, m3, m4, b1, b2, b3, b4, b5, b6⟩
  · exact (q_lt_of h104 (by omega) (by decide)).1
  · obtain ⟨a, b, c, d⟩ := i3 t ht
    exact ⟨a.chN hW ht, q_lt_eq (hW _ (by omega)) b, q_lt_eq (hW _ (by omega)) c, q_lt_eq (hW _ (by omega)) d⟩
  · obtain ⟨a, b⟩ := i4 m hm
    exact ⟨q_lt_eq (hW _ (by omega)) a, q_lt_eq (hW _ (by omega)) b⟩
  · rw [e98] at hi
    obtain ⟨a, b, c, d⟩ := i5 i hi
    refine ⟨q_lt_eq (hW _ (by omega)) a, q_lt_eq (hW _ (by omega)) b, ?_, q_lt_eq (hW _ (by omega)) d⟩
    rw [q_n_eq (hW (143 + 3 * i) (by omega))]
    exact c
  · rw [e104] at hj
    exact hp j hj
  · rw [e99] at hi
    obtain ⟨a, b, c, d, e, f⟩ := i7 i hi
    rw [e96, e97, e98]
    refine ⟨q_lt_eq (hW _ (by omega)) a, q_lt_eq (hW _ (by omega)) b, q_lt_eq (hW _ (by omega)) c, q_lt_eq (hW _ (by omega)) d, q_lt_eq (hW _ (by omega)) e, ?_⟩
    rw [q_n_eq (hW (170 + 5 * i) (by omega))]
    exact f
def q_mix (B W : Nat → Int32) : Nat → Int32 := fun k => if k < 96 then B k else W k
theorem q_mix_lo {B W : Nat → Int32} {k : Nat} (h : k < 96) : q_mix B W k = B k := if_pos h
theorem q_mix_hi {B W : Nat → Int32} {k : Nat} (h : 96 ≤ k) : q_mix B W k = W k := if_neg (by omega)
/-- what is kept bears a telling that touches none of it -/
theorem RlB.low {M M' : MMw} (hb : StB M M') (h : RlB M) (w1 : ∀ k, k < 96 → M' 179 k = M 179 k) (w96 : M' 179 96 = M 179 96) (w98 : M' 179 98 = M 179 98) (w143 : ∀ i, 142 ≤ i → i < 166 → M' 179 i = M 179 i) (hn : q_n (M 179) 98 ≤ 8) : RlB M' := by
  obtain ⟨b, p, Bs, h1, h2, h3, h6, h8⟩ := h
  obtain ⟨a1, a2, a3, a4⟩ := hb
  refine ⟨b, p, fun j => q_mix (Bs j) (M' 179), h1, h2, ?_, ⟨by rw [a4]; exact h6.1, fun j hj k hk => ?_⟩, fun j hj => ?_⟩
  · have g := h3.st (M' := M') (fun c h1 h2 => a1 c (by omega)) a2 a3
    exact ⟨g.1, g.2.1, fun j hj => (g.2.2 j hj).hi (fun k hk => q_mix_lo hk)⟩
  · show M' 181 (96 * j + k) = q_mix (Bs j) (M' 179) k
    rw [a1 181 (by omega), q_mix_lo hk]; exact h6.2 j hj k hk
  · show q_invM (q_mix (Bs j) (M' 179)) ∧ sameY (M' 179) (q_mix (Bs j) (M' 179))
    obtain ⟨g1, g2⟩ := h8 j hj
    obtain ⟨q1, q2, q3, q4, q5⟩ := g1
    have lo : ∀ k, k < 96 → q_mix (Bs j) (M' 179) k = Bs j k := fun k hk => q_mix_lo hk
    have hi : ∀ k, 96 ≤ k → q_mix (Bs j) (M' 179) k = M' 179 k := fun k hk => q_mix_hi hk
    have e96 : q_mix (Bs j) (M' 179) 96 = Bs j 96 := by rw [hi 96 (by decide), w96]; exact (g2 96 (by unfold mvI; omega)).symm
    have e98 : q_mix (Bs j) (M' 179) 98 = Bs j 98 := by rw [hi 98 (by decide), w98]; exact (g2 98 (by unfold mvI; omega)).symm
    have n98 : q_n (Bs j) 98 = q_n (M 179) 98 := q_n_eq (g2 98 (by unfold mvI; omega))
    refine ⟨⟨q_lt_eq (lo _ (by omega)) q1, q_lt_eq (lo _ (by omega)) q2, fun b hb => q_lt_eq (lo _ (by omega)) (q3 b hb), fun t ht => ?_, fun i hi2 => ?_⟩, fun i hi2 => ?_⟩
    · obtain ⟨a, b, c⟩ := q4 t ht
      refine ⟨q_lt_eq (lo _ (by omega)) a, q_lt_eq (lo _ (by omega)) b, ?_⟩
      rw [q_n_eq e96, lo (23 + 10 * t) (by omega)]; exact c
    · rw [q_n_eq e98] at hi2
      obtain ⟨a, b, c⟩ := q5 i hi2
      refine ⟨q_lt_eq (lo _ (by omega)) a, ?_⟩
      have e142 : ∀ k, 142 ≤ k → k < 166 → q_mix (Bs j) (M' 179) k = Bs j k := fun k h1 h2 => by rw [hi _ (by omega), w143 k h1 h2]; exact (g2 _ (by unfold mvI; omega)).symm
      rw [q_n_eq (lo (8 + i) (by omega)), q_n_eq (e142 (143 + 3 * i) (by omega) (by omega))]
      refine ⟨b, c.cg (by omega) (fun k hk => ?_)⟩
      rcases hk with ⟨k1, k2⟩ | ⟨k1, k2⟩
      · exact lo k (by omega)
      · exact e142 k k1 k2
    · rcases Nat.lt_or_ge i 96 with hl | hl
      · rw [lo i hl, w1 i hl]; exact g2 i hi2
      · exact hi i hl
variable {X : KXw} {n tot kn D : Nat} {kx : Nat → Nat × Nat} {M : MMw}
theorem Rl.seen {len s : Nat} {M' : MMw} (h : Rl kn len s M) (hX : CX M' 10 (M' 179)) (hf : Fr [17, 21, 22, 179] M M') (hW : eqN (M 179) (M' 179)) (hb : ∀ k, 2034 ≤ k → M' 179 k = M 179 k) : Rl kn len s M' := by
  have hn := h.1.1.2.2.1.1.2.2.1.2
  have st : Stat M M' := Stat.of hf (by decide)
  exact ⟨⟨hX, h.1.2.ch (hf 43 (by decide)) (fun t ht => hb _ (by omega))⟩, h.2.1.st st, h.2.2.1.low (StB.of hf (by decide)) (fun k hk => hW k (by omega)) (hW 96 (by omega)) (hW 98 (by omega)) (fun i h1 h2 => hW _ (by omega)) (by omega), h.2.2.2.1.st st, h.2.2.2.2.st st⟩
set_option maxHeartbeats 4000000 in
theorem P_seen (hD : 3 ≤ D) {v1 v2 : Int32} {len s : Nat} (h : Rl kn len s M) : Pr X D 292 293 [.inr (.inl 0), .inl v1, .inl v2] [.inr (.inl 178), .inl v1, .inl v2] (Gk n tot kn kx) M (Rl kn len s) := by
  have hX := h.1.1
  obtain ⟨N, hN⟩ : ∃ N, q_n (M 179) 98 = N := ⟨_, rfl⟩
  obtain ⟨w1, w2⟩ := hX.2.2.1.1.2.2.1
  rw [hN] at w1 w2
  obtain ⟨K, hK⟩ : ∃ K, q_n (M 179) 104 = K := ⟨_, rfl⟩
  obtain ⟨w3, w4⟩ := hX.2.2.1.1.2.2.2.2
  rw [hK] at w3 w4
  have e17 : M 17 0 = nI N := by rw [hX.1.2.1.1]; exact w1
  have e174 : M 17 4 = nI K := by rw [hX.1.2.1.2.1]; exact w3
  by_cases hm : v1 = -1
  · subst hm
    refine Pr.mk (Q1 := fun x M1 => x = nI 0 ∧ M1 = up M 17 4 (nI 0)) (Sq.mk (k := 2) hD (fun D' hD' => ?_)) ?_
    · refine Lq.of (t_292_0_ok X (callw X D') n tot kn kx _ _ M) ?_
      unfold t_292_0
      simp only [o_nI, m1n]
      rw [if_pos trivial, Wq_ret]
      exact ⟨rfl, rfl⟩
    · rintro x M1 ⟨rfl, rfl⟩
      refine Sq.mk (k := 2) hD (fun D' hD' => ?_)
      refine Lq.of (t_293_0_ok X (callw X D') n tot kn kx _ _ _) ?_
      unfold t_293_0
      simp only [o_nI, m1n]
      rw [if_pos trivial, Wq_ret]
      refine ⟨rfl, ?_⟩
      have e9 : up (up M 17 4 (nI 0)) 179 104 (nI 0) 179 = upW (M 179) 104 (nI 0) := by rw [up_at, up_ne (by decide)]
      have hf : Fr [17, 21, 22, 179] M (up (up M 17 4 (nI 0)) 179 104 (nI 0)) := (Fr.rf.up (by decide)).up (by decide)
      have hW : eqN (M 179) (upW (M 179) 104 (nI 0)) := fun k hk => upW_n (by omega)
      refine h.seen ?_ hf (by rw [e9]; exact hW) (fun k hk => by rw [e9, upW_n (by omega)])
      rw [e9]
      refine hX.seen (k := 0) hW (by decide) (upW_s _ _ _) ?_ ?_ (fun t ht => absurd ht (Nat.not_lt_zero t)) (fun t ht => absurd ht (Nat.not_lt_zero t)) (fun t ht => absurd ht (Nat.not_lt_zero t)) (fun d h1 h2 h3 h4 => hf d (by unfold Yp at h4; simp; omega))
      · rw [up_ne (by decide), up_at, upW_n (by decide)]
      · rw [up_ne (by decide), up_at, upW_s]
  · by_cases ok : (q_is v1 N && q_is v2 N) = true ∧ v1 ≠ v2 ∧ K < 12
    · obtain ⟨o1, o2, o3⟩ := ok
      rw [Bool.and_eq_true] at o1
      obtain ⟨a, ha, rfl⟩ := q_is_t (by omega) o1.1
      obtain ⟨b, hb, rfl⟩ := q_is_t (by omega) o1.2
      have hab : a ≠ b := fun e => o2 (by rw [e])
      refine Pr.mk (Q1 := fun x M1 => x = nI (K + 1) ∧ M1 = up (up (up M 21 K (nI a)) 22 K (nI b)) 17 4 (nI (K + 1))) (Sq.mk (k := 2) hD (fun D' hD' => ?_)) ?_
      · refine Lq.of (t_292_0_ok X (callw X D') n tot kn kx _ _ M) ?_
        unfold t_292_0
        simp only [o_nI, m1n, e17, e174]
        rw [if_neg hm, if_neg (by rw [z_nI, lt_i (by omega) (by omega)]; omega), if_pos (by rw [lt_i (by omega) (by omega)]; omega), if_neg (by rw [z_nI, lt_i (by omega) (by omega)]; omega), if_pos (by rw [lt_i (by omega) (by omega)]; omega), if_neg o2, if_pos (by rw [lt_i (by omega) (by omega)]; omega), inb_nI o3 (by decide), if_pos rfl, if_pos rfl, nI_clamp (by omega), nI_add, Wq_ret]
        exact ⟨by rw [up_at, upW_s], rfl⟩
      · rintro x M1 ⟨rfl, hM1⟩
        have e9 : M1 179 = M 179 := by rw [hM1, up_ne (by decide), up_ne (by decide), up_ne (by decide)]
        refine Sq.mk (k := 2) hD (fun D' hD' => ?_)
        refine Lq.of (t_293_0_ok X (callw X D') n tot kn kx _ _ _) ?_
        unfold t_293_0
        simp only [o_nI, m1n]
        rw [if_neg hm, m_isWork (by omega) (by rw [e9]; exact w1) (by omega), bnd_some, o1.1, if_neg (by decide), m_isWork (by omega) (by rw [e9]; exact w1) (by omega), bnd_some, o1.2, if_neg (by decide), if_neg o2, e9, w3, if_neg (by rw [eq_i (by omega) (by omega)]; omega), nI_mul, nI_add, inb_nI (by omega) (by decide), if_pos rfl, nI_clamp (by omega), up_at, upW_n (show 104 ≠ 105 + 2 * K by omega), e9, w3, nI_mul, nI_add, nI_add, inb_nI (by omega) (by decide), if_pos rfl, nI_clamp (by omega), Wq_jmp]
        refine Lq.of (t_293_88_ok X (callw X D') n tot kn kx _) ?_
        unfold t_293_88
        have eK : up (up M1 179 (105 + 2 * K) (nI a)) 179 (105 + 2 * K + 1) (nI b) 179 104 = nI K := by rw [up_at, upW_n (by omega), up_at, upW_n (by omega), e9]; exact w3
        rw [eK, o_nI, nI_add, up_at, upW_s, Wq_ret]
        refine ⟨rfl, ?_⟩
        generalize hM2 : up (up (up M1 179 (105 + 2 * K) (nI a)) 179 (105 + 2 * K + 1) (nI b)) 179 104 (nI (K + 1)) = M2
        have g9 : M2 179 = upW (upW (upW (M 179) (105 + 2 * K) (nI a)) (105 + 2 * K + 1) (nI b)) 104 (nI (K + 1)) := by rw [← hM2, up_at, up_at, up_at, e9]
        have f2 : Fr [179] M1 M2 := by rw [← hM2]; exact ((Fr.rf.up (by decide)).up (by decide)).up (by decide)
        have f1 : Fr [17, 21, 22, 179] M M2 := by
          refine Fr.tr (M1 := M1) ?_ (f2.mono (by decide))
          rw [hM1]
          exact ((Fr.rf.up (by decide)).up (by decide)).up (by decide)
        have hW : eqN (M 179) (M2 179) := fun k hk => by rw [g9, upW_n (by omega), upW_n (by omega), upW_n (by omega)]
        have h17 : M2 17 = upW (M 17) 4 (nI (K + 1)) := by rw [f2 17 (by decide), hM1, up_at, up_ne (by decide), up_ne (by decide)]
        have h21 : M2 21 = upW (M 21) K (nI a) := by rw [f2 21 (by decide), hM1, up_ne (by decide), up_ne (by decide), up_at]
        have h22 : M2 22 = upW (M 22) K (nI b) := by rw [f2 22 (by decide), hM1, up_ne (by decide), up_at, up_ne (by decide)]
        clear hM2 hM1
        have z1 : ∀ t, t < K + 1 → M2 179 (105 + 2 * t) = (if t = K then nI a else M 179 (105 + 2 * t)) := by
          intro t ht
          rw [g9, upW_n (by omega), upW_n (by omega)]
          by_cases e : t = K
          · subst e; rw [upW_s, if_pos rfl]
          · rw [upW_n (by omega), if_neg e]
        have z2 : ∀ t, t < K + 1 → M2 179 (106 + 2 * t) = (if t = K then nI b else M 179 (106 + 2 * t)) := by
          intro t ht
          rw [g9, upW_n (by omega)]
          by_cases e : t = K
          · subst e; rw [show 106 + 2 * t = 105 + 2 * t + 1 by omega, upW_s, if_pos rfl]
          · rw [upW_n (by omega), upW_n (by omega), if_neg e]
        have n98 : q_n (M2 179) 98 = N := by rw [q_n_eq (hW 98 (by omega))]; exact hN
        refine h.seen (hX.seen (k := K + 1) hW (by omega) (by rw [g9, upW_s]) (by rw [h17, upW_n (by decide)]) (by rw [h17, upW_s]) ?_ ?_ ?_ (fun d h1 h2 h3 h4 => f1 d (by unfold Yp at h4; simp; omega))) f1 hW (fun k hk => by rw [g9, upW_n (by omega), upW_n (by omega), upW_n (by omega)])
        · intro t ht
          rw [z1 t ht, h21]
          by_cases e : t = K
          · subst e; rw [upW_s, if_pos rfl]
          · rw [upW_n e, if_neg e]
            exact hX.1.2.1.2.2.2.2.2.1 t (by omega)
        · intro t ht
          rw [z2 t ht, h22]
          by_cases e : t = K
          · subst e; rw [upW_s, if_pos rfl]
          · rw [upW_n e, if_neg e]
            exact hX.1.2.1.2.2.2.2.2.2 t (by omega)
        · intro j hj
          rw [n98]
          by_cases e : j = K
          · have y1 := z1 j hj
            have y2 := z2 j hj
            rw [if_pos e] at y1 y2
            refine ⟨(q_lt_of y1 ha (by omega)).1, (q_lt_of y2 hb (by omega)).1, ?_⟩
            rw [q_n_of y1 (by omega), q_n_of y2 (by omega)]
            exact hab
          · have y1 := z1 j hj
            have y2 := z2 j hj
            rw [if_neg e] at y1 y2
            obtain ⟨p1, p2, p3⟩ := hX.2.2.1.2.2.2.2.2.2.1 j (by omega)
            rw [hN] at p1 p2
            refine ⟨q_lt_eq y1 p1, q_lt_eq y2 p2, ?_⟩
            rw [q_n_eq y1, q_n_eq y2]
            exact p3
    · refine Pr.mk (Q1 := fun x M1 => x = -1 ∧ M1 = M) (Sq.mk (k := 2) hD (fun D' hD' => ?_)) ?_
      · refine Lq.of (t_292_0_ok X (callw X D') n tot kn kx _ _ M) ?_
        unfold t_292_0
        simp only [o_nI, m1n, e17, e174]
        rw [if_neg hm]
        by_cases a1 : v1 < nI 0
        · rw [if_pos (show v1 < 0 from a1), Wq_ret]; exact ⟨rfl, rfl⟩
        rw [if_neg (show ¬ v1 < 0 from a1)]
        by_cases a2 : v1 < nI N
        · rw [if_pos a2]
          by_cases b1 : v2 < nI 0
          · rw [if_pos (show v2 < 0 from b1), Wq_ret]; exact ⟨rfl, rfl⟩
          rw [if_neg (show ¬ v2 < 0 from b1)]
          by_cases b2 : v2 < nI N
          · rw [if_pos b2]
            by_cases c : v1 = v2
            · rw [if_pos c, Wq_ret]; exact ⟨rfl, rfl⟩
            · rw [if_neg c, if_neg (by
                intro hk
                rw [lt_i (by omega) (by omega)] at hk
                refine ok ⟨?_, c, hk⟩
                unfold q_is
                rw [decide_eq_false a1, decide_eq_false b1, decide_eq_true a2, decide_eq_true b2]
                rfl), Wq_ret]
              exact ⟨rfl, rfl⟩
          · rw [if_neg b2, Wq_ret]; exact ⟨rfl, rfl⟩
        · rw [if_neg a2, Wq_ret]; exact ⟨rfl, rfl⟩
      · rintro x M1 ⟨rfl, rfl⟩
        refine Sq.mk (k := 2) hD (fun D' hD' => ?_)
        refine Lq.of (t_293_0_ok X (callw X D') n tot kn kx _ _ _) ?_
        unfold t_293_0
        simp only [o_nI, m1n]
        rw [if_neg hm, m_isWork (by omega) w1 (by omega), bnd_some]
        cases q1 : q_is v1 N with
        | false => rw [if_pos (by rfl), Wq_ret]; exact ⟨rfl, h⟩
        | true =>
        rw [if_neg (by decide), m_isWork (by omega) w1 (by omega), bnd_some]
        cases q2 : q_is v2 N with
        | false => rw [if_pos (by rfl), Wq_ret]; exact ⟨rfl, h⟩
        | true =>
        rw [if_neg (by decide)]
        by_cases c : v1 = v2
        · rw [if_pos c, Wq_ret]; exact ⟨rfl, h⟩
        · rw [if_neg c, w3, if_pos (by
            rw [eq_i (by omega) (by omega)]
            refine Classical.byContradiction (fun hc => ok ⟨by rw [q1, q2]; rfl, c, by omega⟩)), Wq_ret]
          exact ⟨rfl, h⟩
end
