section
-- needs: glob
/-! mend, strike, may: what is kept first -/
theorem BCc.st {M M' : MMw} {b p : Nat} {Bs : Nat → Nat → Int32} (h : BCc M b p Bs) (a1 : ∀ c, 136 ≤ c → c ≤ 177 → M' c = M c) (a2 : M' 0 5 = M 0 5) (a3 : M' 0 6 = M 0 6) : BCc M' b p Bs := by
  obtain ⟨h3, h4, h5⟩ := h
  refine ⟨by rw [a2]; exact h3, by rw [a3]; exact h4, fun j hj => ?_⟩
  have hc := h5 j hj
  have hr : 136 ≤ q_ring p b j ∧ q_ring p b j ≤ 171 := by unfold q_ring; omega
  obtain ⟨m1, m2, m3, m4, b1, b2, b3, b4, b5, b6⟩ := hc
  have g : ∀ d, d ≤ 6 → M' (q_ring p b j + d) = M (q_ring p b j + d) := fun d hd => a1 _ (by omega) (by omega)
  have g0 : M' (q_ring p b j) = M (q_ring p b j) := g 0 (by omega)
  rw [← g0] at m1 m2 m3 m4
  rw [← g _ (by omega)] at b1 b2 b3 b4 b5 b6
  exact ⟨m1, m2, m3, m4, b1, b2, b3, b4, b5, b6⟩
theorem KpP.cx {W : Nat → Int32} {M M1 : MMw} {b p : Nat} (hk : KpP W M b p M1) (h : CX M 10 W) : CX M1 10 W := by
  obtain ⟨_, _, _, _, k⟩ := hk
  have g : ∀ d, d ≠ 0 → d < 136 → M1 d = M d := fun d h1 h2 => k d h1 (by omega)
  refine ⟨h.1.ch (fun d hd => g d (by unfold Yp at hd; omega) (by unfold Yp at hd; omega)) sameY.rf h.2.2.1.1, ?_, h.2.2⟩
  obtain ⟨m1, m2, m3, m4, b1, b2, b3, b4, b5, b6⟩ := h.2.1
  rw [← g _ (by omega) (by omega)] at m1 m2 m3 m4 b1 b2 b3 b4 b5 b6
  exact ⟨m1, m2, m3, m4, b1, b2, b3, b4, b5, b6⟩
theorem KpP.st {W : Nat → Int32} {M M1 : MMw} {b p : Nat} (hp : p < 6) (hk : KpP W M b p M1) : Stat M M1 := by
  obtain ⟨_, _, k0, _, k⟩ := hk
  have e8 : M1 178 = M 178 := k 178 (by omega) (by omega)
  exact ⟨fun c hc => k c (by unfold Sp at hc; omega) (by unfold Sp at hc; omega), k0 2 (by decide) (by decide), by rw [e8], by rw [e8], by rw [e8], by rw [e8]⟩
/-- what is kept, on both sides, behind one keeping and a change by W' -/
theorem RlB.push {M M1 M4 : MMw} {b p : Nat} {Bs : Nat → Nat → Int32} (hb : b ≤ 6) (hp : p < 6) (h3 : BCc M b p Bs) (h6 : BCm M b Bs) (h8 : BCp (M 179) b Bs) (hm : q_invM (M 179)) (hk : KpP (M 179) M b p M1)
    (a1 : ∀ c, 136 ≤ c → c ≤ 177 → M4 c = M1 c) (a0 : M4 0 = M1 0) (a4 : M4 178 4 = nI (min (b + 1) 6)) (a5 : M4 181 = q_kept (M 181) (M 179) b) (hY : sameY (M 179) (M4 179)) : RlB M4 :=
  ⟨min (b + 1) 6, (p + 1) % 6, q_push Bs b (M 179), by omega, by omega, (h3.push hb hp hk).st a1 (by rw [a0]) (by rw [a0]), h6.push hb a4 a5, h8.push hb hm hY⟩
theorem mend_ok : ∀ e, e < 100 → (q_held (nI e + nI 10) (nI 0) (nI 99) = nI (min 99 (e + 10)) ∧ (if nI 99 < nI e + nI 10 then nI 99 else nI e + nI 10) = nI (min 99 (e + 10))) ∧
  (q_held (nI e + nI 20) (nI 0) (nI 99) = nI (min 99 (e + 20)) ∧ (if nI 99 < nI e + nI 20 then nI 99 else nI e + nI 20) = nI (min 99 (e + 20))) ∧
  (q_held (nI e + nI 4294967291) (nI 0) (nI 99) = nI (e - 5) ∧ (if nI e - nI 5 < nI 0 then nI 0 else nI e - nI 5) = nI (e - 5)) := by decide +kernel
variable {X : KXw} {n tot kn D : Nat} {kx : Nat → Nat × Nat} {M : MMw}
theorem q_mend_Y {W : Nat → Int32} {t : Nat} {v : Int32} (ht : t < 8) : sameY W (upW W (20 + 10 * t) v) ∧ sameY W (upW W (19 + 10 * t) v) := ⟨sameY.rf.up (by unfold mvI; omega), sameY.rf.up (by unfold mvI; omega)⟩
/-- the end of a telling that is kept: M1 the class has kept, M2 the class is through, M3 the reference has kept, M4 it is through -/
theorem Rl.told {kn len s : Nat} {M M1 M2 M3 M4 : MMw} {b p : Nat} {Bs : Nat → Nat → Int32} {W' : Nat → Int32} {L : List Nat} (h : Rl kn len s M) (hb : b ≤ 6) (hp : p < 6) (h3 : BCc M b p Bs) (h6 : BCm M b Bs) (h8 : BCp (M 179) b Bs) (hk : KpP (M 179) M b p M1)
    (hf2 : Fr L M1 M2) (hL : ∀ d, d ∈ L → 10 ≤ d ∧ d ≤ 16) (hc : CRm M2 10 W') (hY : sameY (M 179) W') (hbk : ∀ k, 2034 ≤ k → W' k = M 179 k) (hM : q_invM W') (a8 : M3 178 = upW (M2 178) 4 (nI (min (b + 1) 6))) (a1 : M3 181 = q_kept (M2 181) (M2 179) b) (hf3 : Fr [178, 181] M2 M3) (hf4 : Fr [179] M3 M4) (h9 : M4 179 = W') : Rl kn len s M4 := by
  have no : ∀ d, (d < 10 ∨ 16 < d) → M2 d = M1 d := fun d hd => hf2 d (fun hl => by have := hL d hl; omega)
  have no4 : ∀ d, d ≠ 178 → d ≠ 179 → d ≠ 181 → (d < 10 ∨ 16 < d) → M4 d = M1 d := fun d h1 h2 h3 h4 => by rw [hf4 d (by simp; omega), hf3 d (by simp; omega), no d h4]
  have k := hk.2.2.2.2
  have e8 : M4 178 = upW (M 178) 4 (nI (min (b + 1) 6)) := by rw [hf4 178 (by decide), a8, no 178 (by omega), k 178 (by omega) (by omega)]
  have st : Stat M M4 := by
    have s1 := hk.st hp
    refine s1.tr ⟨fun c hc => no4 c ?_ ?_ ?_ ?_, by rw [no4 0 (by omega) (by omega) (by omega) (by omega)], ?_, ?_, ?_, ?_⟩
    · unfold Sp at hc; omega
    · unfold Sp at hc; omega
    · unfold Sp at hc; omega
    · unfold Sp at hc; omega
    all_goals (rw [e8, upW_n (by decide), k 178 (by omega) (by omega)])
  refine ⟨⟨?_, ?_⟩, h.2.1.st st, ?_, h.2.2.2.1.st st, h.2.2.2.2.st st⟩
  · rw [h9]
    have c1 := hk.cx h.1.1
    refine ⟨c1.1.ch (fun d hd => no4 d ?_ ?_ ?_ ?_) hY h.1.1.2.2.1.1, ?_, h.1.1.2.2.1.ch hY, hM⟩
    · unfold Yp at hd; omega
    · unfold Yp at hd; omega
    · unfold Yp at hd; omega
    · unfold Yp at hd; omega
    · have g : ∀ d, 10 ≤ d → d ≤ 16 → M4 d = M2 d := fun d h1 h2 => by rw [hf4 d (by simp; omega), hf3 d (by simp; omega)]
      obtain ⟨m1, m2, m3, m4, b1, b2, b3, b4, b5, b6⟩ := hc
      rw [← g _ (by omega) (by omega)] at m1 m2 m3 m4 b1 b2 b3 b4 b5 b6
      exact ⟨m1, m2, m3, m4, b1, b2, b3, b4, b5, b6⟩
  · rw [h9]
    have := h.1.2
    exact this.ch (by rw [no4 43 (by omega) (by omega) (by omega) (by omega), k 43 (by omega) (by omega)]) (fun t ht => hbk _ (by omega))
  · refine RlB.push hb hp h3 h6 h8 h.1.1.2.2.2 hk (fun c h1 h2 => no4 c (by omega) (by omega) (by omega) (by omega)) (no4 0 (by omega) (by omega) (by omega) (by omega)) (by rw [e8, upW_s]) ?_ (by rw [h9]; exact hY)
    rw [hf4 181 (by decide), a1, no 181 (by omega), no 179 (by omega), k 181 (by omega) (by omega), k 179 (by omega) (by omega)]
set_option maxHeartbeats 4000000 in
theorem P_mend (hD : 6 ≤ D) {v : Int32} {o : Bool} {len s : Nat} (h : Rl kn len s M) : Pr X D 42 47 [.inr (.inl 0), .inl v, .inl (b2i o)] [.inr (.inl 178), .inl v, .inl (b2i o)] (Gk n tot kn kx) M (Rl kn len s) := by
  obtain ⟨b, p, Bs, hb, hp, h3, h6, h8⟩ := h.2.2.1
  have hX := h.1.1
  have h96 := hX.2.2.1.1.1; have h96' := h96.2; have h98' := hX.2.2.1.1.2.2.1.2
  have e20 : M 2 0 = nI (q_n (M 179) 96) := by rw [hX.1.1.1]; exact h96.1
  cases hv : q_is v (q_n (M 179) 96) with
  | false =>
    refine Pr.mk (Q1 := fun x M1 => x = nI 0 ∧ M1 = M) (Sq.mk (k := 5) hD (fun D' hD' => ?_)) ?_
    · refine Lq.of (t_42_0_ok X (callw X D') n tot kn kx _ _ M) ?_
      unfold t_42_0
      rw [c_isTool (by omega) e20 (by omega), hv]
      simp (disch := omega) only [Nat.one_mul, m1_nI, m1n, o_nI, z_nI, i1_nI, im1_nI, nI_add, nI_mul, lt_i, eq_i, inb_nI, ↓reduceIte, nI_clamp, bnd_some, b2i_0, b2i_1, b2i_t, b2i_f, Wq_ret, Wq_jmp, up_ne, up_at, upW_s, upW_n, Nat.reduceAdd, Nat.reduceMul, Nat.reduceLT, Nat.reduceEqDiff, Nat.add_zero, Nat.zero_add, reduceCtorEq]
      exact ⟨by trivial, by trivial⟩
    · rintro x M1 ⟨rfl, rfl⟩
      refine Sq.mk (k := 5) hD (fun D' hD' => ?_)
      refine Lq.of (t_47_0_ok X (callw X D') n tot kn kx _ _ M1) ?_
      unfold t_47_0
      rw [m_isTool (by omega) h96.1 (by omega), hv]
      simp (disch := omega) only [Nat.one_mul, m1_nI, m1n, o_nI, z_nI, i1_nI, im1_nI, nI_add, nI_mul, lt_i, eq_i, inb_nI, ↓reduceIte, nI_clamp, bnd_some, b2i_0, b2i_1, b2i_t, b2i_f, Wq_ret, Wq_jmp, up_ne, up_at, upW_s, upW_n, Nat.reduceAdd, Nat.reduceMul, Nat.reduceLT, Nat.reduceEqDiff, Nat.add_zero, Nat.zero_add, reduceCtorEq]
      exact ⟨by trivial, h⟩
  | true =>
    obtain ⟨t, ht, rfl⟩ := q_is_t (by omega) hv
    have ht8 : t < 8 := by omega
    have he := (hX.2.2.2.2.2.2.1 t ht8).1
    have hm := (hX.2.2.2.2.2.2.1 t ht8).2.1
    have ok1 := mend_ok _ he.2
    have ok2 := mend_ok _ hm.2
    refine Pr.mk (Q1 := fun x M2 => x = nI 1 ∧ ∃ M1, KpP (M 179) M b p M1 ∧ M2 = (if o then up M1 12 t (nI (min 99 (q_n (M 179) (20 + 10 * t) + 10))) else up (up M1 11 t (nI (min 99 (q_n (M 179) (19 + 10 * t) + 20)))) 12 t (nI (q_n (M 179) (20 + 10 * t) - 5)))) (Sq.mk (k := 5) hD (fun D' hD' => ?_)) ?_
    · refine Lq.of (t_42_0_ok X (callw X D') n tot kn kx _ _ M) ?_
      unfold t_42_0
      rw [c_isTool (by omega) e20 (by omega), hv, bnd_some, if_neg (by decide)]
      refine Wq.call (c_keep (W := M 179) (show 4 ≤ D' by omega) hb hp h3.1 h3.2.1 hX.2.1) ?_
      rintro x M1 hk
      have hc1 := (hk.cx hX).2.1
      have e11 : M1 11 t = nI (q_n (M 179) (19 + 10 * t)) := by rw [← he.1]; exact hc1.2.2.2.2.1 t ht8
      have e12 : M1 12 t = nI (q_n (M 179) (20 + 10 * t)) := by rw [← hm.1]; exact hc1.2.2.2.2.2.1 t ht8
      cases o with
      | true =>
        simp (disch := omega) only [m1_nI, m1n, o_nI, z_nI, i1_nI, im1_nI, bnd_some, Wq_ret, Wq_jmp, up_ne, up_at, upW_s, upW_n, inb_nI, nI_clamp, ↓reduceIte, b2i_0, reduceCtorEq, Bool.true_eq_false, Bool.false_eq_true, c_cheer10 (show 3 ≤ D' by omega) ht8, e12, ok2.1.1]
        exact ⟨by trivial, M1, hk, rfl⟩
      | false =>
        simp (disch := omega) only [m1_nI, m1n, o_nI, z_nI, i1_nI, im1_nI, bnd_some, Wq_ret, Wq_jmp, up_ne, up_at, upW_s, upW_n, inb_nI, nI_clamp, ↓reduceIte, b2i_0, reduceCtorEq, Bool.true_eq_false, Bool.false_eq_true, c_cheer10 (show 3 ≤ D' by omega) ht8, c_sharpen10 (show 3 ≤ D' by omega) ht8, e11, e12, ok2.2.2.1, ok1.2.1.1]
        exact ⟨by trivial, M1, hk, rfl⟩
    · rintro x M2 ⟨rfl, M1, hk, hM2⟩
      have k := hk.2.2.2.2
      have hc1 := (hk.cx hX).2.1
      have f2 : Fr [11, 12] M1 M2 := by
        rw [hM2]
        cases o with
        | true => exact Fr.rf.up (by decide)
        | false => exact (Fr.rf.up (by decide)).up (by decide)
      have e9 : M2 179 = M 179 := by rw [f2 179 (by decide), k 179 (by omega) (by omega)]
      have e8 : M2 178 4 = nI b := by rw [f2 178 (by decide), k 178 (by omega) (by omega)]; exact h6.1
      refine Sq.mk (k := 5) hD (fun D' hD' => ?_)
      refine Lq.of (t_47_0_ok X (callw X D') n tot kn kx _ _ M2) ?_
      unfold t_47_0
      rw [m_isTool (by omega) (by rw [e9]; exact h96.1) (by omega), hv, bnd_some, if_neg (by decide)]
      refine Wq.call (m_keeps (show 1 ≤ D' by omega) hb e8) ?_
      rintro y M3 ⟨g8, g1, hf3⟩
      have e93 : M3 179 = M 179 := by rw [hf3 179 (by decide), e9]
      have e19 : M3 179 (16 + 10 * t + 3) = nI (q_n (M 179) (19 + 10 * t)) := by rw [e93, show 16 + 10 * t + 3 = 19 + 10 * t by omega]; exact he.1
      have e204 : M3 179 (16 + 10 * t + 4) = nI (q_n (M 179) (20 + 10 * t)) := by rw [e93, show 16 + 10 * t + 4 = 20 + 10 * t by omega]; exact hm.1
      cases o with
      | true =>
        rw [if_pos rfl] at hM2
        simp (disch := omega) only [m1_nI, m1n, o_nI, z_nI, i1_nI, im1_nI, bnd_some, Wq_ret, Wq_jmp, up_ne, up_at, upW_s, upW_n, inb_nI, nI_clamp, ↓reduceIte, b2i_0, reduceCtorEq, Bool.true_eq_false, Bool.false_eq_true, m_ofTool (show 1 ≤ D' by omega), m_lesser (show 1 ≤ D' by omega), m_tools (show 1 ≤ D' by omega), e204, ok2.1.2]
        refine ⟨trivial, ?_⟩
        refine h.told (W' := upW (M 179) (20 + 10 * t) (nI (min 99 (q_n (M 179) (20 + 10 * t) + 10)))) hb hp h3 h6 h8 hk f2 (by decide) ?_ (q_mend_Y ht8).1 (fun k hk => upW_n (by omega)) (hX.2.2.2.tool ht8 (Or.inr rfl) (by omega) (by omega)) g8 g1 hf3 (Fr.rf.up (by decide)) ?_
        · rw [hM2]; exact hc1.mood
        · rw [up_at, e93, show 16 + 10 * t + 4 = 20 + 10 * t by omega]
      | false =>
        rw [if_neg (by decide)] at hM2
        simp (disch := omega) only [m1_nI, m1n, o_nI, z_nI, i1_nI, im1_nI, bnd_some, Wq_ret, Wq_jmp, up_ne, up_at, upW_s, upW_n, inb_nI, nI_clamp, ↓reduceIte, b2i_0, reduceCtorEq, Bool.true_eq_false, Bool.false_eq_true, m_ofTool (show 1 ≤ D' by omega), m_lesser (show 1 ≤ D' by omega), m_greater (show 1 ≤ D' by omega), m_tools (show 1 ≤ D' by omega), e204, e19, ok2.2.2.2, ok1.2.1.2]
        refine ⟨trivial, ?_⟩
        refine h.told (W' := upW (upW (M 179) (19 + 10 * t) (nI (min 99 (q_n (M 179) (19 + 10 * t) + 20)))) (20 + 10 * t) (nI (q_n (M 179) (20 + 10 * t) - 5))) hb hp h3 h6 h8 hk f2 (by decide) ?_ ((q_mend_Y ht8).2.tr (q_mend_Y ht8).1) (fun k hk => by rw [upW_n (by omega), upW_n (by omega)]) ((hX.2.2.2.tool ht8 (Or.inl rfl) (by omega) (by omega)).tool ht8 (Or.inr rfl) (by have := hm.2; omega) (by rw [q_n_up (by omega)]; omega)) g8 g1 hf3 ((Fr.rf.up (by decide)).up (by decide)) ?_
        · rw [hM2]; exact hc1.edge.mood
        · rw [up_at, up_at, e93, show 16 + 10 * t + 4 = 20 + 10 * t by omega, show 16 + 10 * t + 3 = 19 + 10 * t by omega]
end
