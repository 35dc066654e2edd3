section
-- needs: c2 hdefs mhour
/-! the class: an hour -/
variable {X : KXw} {n tot kn D : Nat} {kx : Nat → Nat × Nat} {M : MMw}
theorem and7 {k : Nat} (h : k < 8) : nI k &&& nI 7 = nI k := by rw [nI_and, show (7 : Nat) = 2 ^ 3 - 1 from rfl, Nat.and_two_pow_sub_one_eq_mod, Nat.mod_eq_of_lt h]
theorem and3 {k : Nat} (h : k < 4) : nI k &&& nI 3 = nI k := by rw [nI_and, show (3 : Nat) = 2 ^ 2 - 1 from rfl, Nat.and_two_pow_sub_one_eq_mod, Nat.mod_eq_of_lt h]
theorem q_bit_nI {a j : Nat} (ha : a < 2 ^ 31) (hj : j < 32) : q_bit (nI a) (nI j) = a.testBit j := by
  unfold q_bit
  rw [nI_tb ha hj]
  cases a.testBit j <;> decide +kernel
theorem Wq.at {X : KXw} {cl : CLw} {mid n pc : Nat} {ls : LSw} {st : List PVw} {G : GGw} {M : MMw} {Q : Int32 → MMw → Prop} {t : Option TRw} (h : seg X cl mid n pc ls st G M = t) (ht : Wq X cl mid G Q t) : Wq X cl mid G Q (some (.inr (pc, ls, st, G, M))) := by
  obtain ⟨x, M', h1, h2⟩ := ht
  exact ⟨x, M', Ev_of h h1, h2⟩
theorem c_isOn (hD : 1 ≤ D) {W : Nat → Int32} {l : Nat} {h : Int32} (hr : CRrota M 25 W) (hy : q_invY W) (hl : l < q_n W 99) (hh : h = W 0) : callw X D 56 [.inr (.inl 25), .inl (nI l), .inl h] (Gk n tot kn kx) M = some (b2i (q_on W l), Gk n tot kn kx, M) :=
  Sq.eq (Sq.mk (k := 0) hD (fun D' hD' => by
    refine Lq.of (t_56_p25_0_ok X (callw X D') n tot kn kx _ _ M) ?_
    unfold t_56_p25_0
    obtain ⟨_, _, _, _, r4, r5⟩ := hr
    obtain ⟨_, _, _, a4, a5, a6⟩ := hy.2.2.2.2.2.2.2 l hl
    have h99 := hy.1.2.2.2.1.2
    subst hh
    have x4 := a4.2; have x5 := a5.2
    simp (disch := omega) only [Nat.one_mul, m1_nI, m1n, o_nI, z_nI, i1_nI, im1_nI, nI_add, nI_mul, lt_i, eq_i, inb_nI, ↓reduceIte, nI_clamp, bnd_some, b2i_0, b2i_1, b2i_t, b2i_f, Wq_ret, Wq_jmp, up_ne, up_at, upW_s, upW_n, Nat.reduceAdd, Nat.reduceMul, Nat.reduceLT, Nat.reduceEqDiff, Nat.add_zero, Nat.zero_add, reduceCtorEq, r4 l hl, r5 l hl]
    unfold q_on
    by_cases h1 : W 0 < W (169 + 5 * l)
    · rw [if_pos h1, decide_eq_true h1, Wq_ret]; exact ⟨rfl, rfl⟩
    · rw [if_neg h1, decide_eq_false h1]
      refine Wq.at (t_56_p25_24_ok X (callw X D') n tot kn kx _ _ M) ?_
      unfold t_56_p25_24
      rw [a4.1, a5.1, nI_add, nI_sub (by omega)]
      have e1 : (nI (q_n W (169 + 5 * l) + q_n W (170 + 5 * l))).toInt = ((q_n W (169 + 5 * l) + q_n W (170 + 5 * l) : Nat) : Int) := nI_toInt (by omega)
      have e2 : (nI (q_n W (169 + 5 * l) + q_n W (170 + 5 * l) - 1)).toInt = ((q_n W (169 + 5 * l) + q_n W (170 + 5 * l) - 1 : Nat) : Int) := nI_toInt (by omega)
      by_cases h2 : W 0 < nI (q_n W (169 + 5 * l) + q_n W (170 + 5 * l))
      · rw [if_pos h2, Wq_ret]
        have h3 : ¬ nI (q_n W (169 + 5 * l) + q_n W (170 + 5 * l) - 1) < W 0 := by
          rw [Int32.lt_iff_toInt_lt] at h2 ⊢
          rw [e1] at h2
          rw [e2]
          omega
        rw [decide_eq_false h3]
        exact ⟨rfl, rfl⟩
      · rw [if_neg h2, Wq_ret]
        have h3 : nI (q_n W (169 + 5 * l) + q_n W (170 + 5 * l) - 1) < W 0 := by
          rw [Int32.lt_iff_toInt_lt] at h2 ⊢
          rw [e1] at h2
          rw [e2]
          omega
        rw [decide_eq_true h3]
        exact ⟨rfl, rfl⟩))
theorem q_did_9 {W : Nat → Int32} {t m i t' : Nat} (hi : i < 8) : q_did W t m i (25 + 10 * t') = if t' = t then nI 1 else W (25 + 10 * t') := by
  unfold q_did
  by_cases e : t' = t
  · subst e
    rw [if_pos rfl, upW_n (by omega), upW_s]
  · rw [if_neg e, upW_n (by omega), upW_n (by omega), q_wears_at (by omega) (by omega) (by omega) (by omega)]
theorem q_note_at {W : Nat → Int32} {t m i k : Nat} (h : k ≠ 2) (h2 : k < 2034) : q_note W t m i k = W k := by
  unfold q_note
  split
  · rfl
  · rw [upW_n h, upW_n (by omega), upW_n (by omega), upW_n (by omega), upW_n (by omega)]
theorem q_do_9 {tr : Bool} {W : Nat → Int32} {t m i t' : Nat} (hi : i < 8) (ht : t' < 8) : q_do tr W t m i (25 + 10 * t') = if t' = t then nI 1 else W (25 + 10 * t') := by
  unfold q_do
  cases tr with
  | false => exact q_did_9 hi
  | true => rw [if_pos rfl, q_note_at (by omega) (by omega)]; exact q_did_9 hi
/-- the tools that worked in this hour, as the class has them -/
def q_now (W : Nat → Int32) (a : Nat) : Prop := a < 256 ∧ ∀ t, t < q_n W 96 → a.testBit t = decide (W (25 + 10 * t) = nI 1) ∧ (W (25 + 10 * t) = nI 0 ∨ W (25 + 10 * t) = nI 1)
/-- the first refused hour and line, as the class has them; r: how many were refused ahead -/
def q_cf (r : Nat) (old v : Int32) (fr : Option Nat) : Int32 := match fr with
  | none => old
  | some _ => if r = 0 then v else old
def q_cl (r : Nat) (old : Int32) (fr : Option Nat) : Int32 := match fr with
  | none => old
  | some k => if r = 0 then nI k else old
theorem c_isDone10 (hD : 1 ≤ D) {W : Nat → Int32} {i : Nat} (h : CX M 10 W) (hi : i < q_n W 98) : callw X D 57 [.inr (.inl 17), .inr (.inl 10), .inl (nI i)] (Gk n tot kn kx) M = some (b2i (q_doneB W i), Gk n tot kn kx, M) :=
  ex1 hD (fun cl => t_57_p17_p10_0_ok X cl n tot kn kx _ M) (fun cl => by
    unfold t_57_p17_p10_0
    obtain ⟨⟨_, ⟨_, _, _, h2, _⟩, _⟩, ⟨_, _, _, _, _, _, _, _, b5, _⟩, hy, hm⟩ := h
    have h98 := hy.1.2.2.1.2
    have x1 := (hm.2.2.2.2 i hi).1
    have x2 := (hy.2.2.2.2.2.1 i hi).2.1
    have x3 := (hm.2.2.2.2 i hi).2.1
    have y1 := x1.2; have y2 := x2.2
    rw [q_doneB_f hi hy hm]
    simp (disch := omega) only [Nat.one_mul, m1_nI, m1n, o_nI, z_nI, i1_nI, im1_nI, nI_add, nI_mul, lt_i, eq_i, inb_nI, ↓reduceIte, nI_clamp, bnd_some, b2i_0, b2i_1, b2i_t, b2i_f, Wq_ret, Wq_jmp, up_ne, up_at, upW_s, upW_n, Nat.reduceAdd, Nat.reduceMul, Nat.reduceLT, Nat.reduceEqDiff, Nat.add_zero, Nat.zero_add, reduceCtorEq, b5 i (by omega), h2 i hi, x1.1, x2.1]
    by_cases e : q_n W (8 + i) = q_n W (143 + 3 * i)
    · rw [if_neg (by omega), decide_eq_true e]; rfl
    · rw [if_pos (by omega), decide_eq_false e]; rfl)
theorem c_isOpen10 (hD : 2 ≤ D) {W : Nat → Int32} {i : Nat} (h : CX M 10 W) (hi : i < q_n W 98) : callw X D 58 [.inr (.inl 17), .inr (.inl 10), .inl (nI i)] (Gk n tot kn kx) M = some (b2i (q_openB W i), Gk n tot kn kx, M) :=
  Sq.eq (Sq.mk (k := 1) hD (fun D' hD' => by
    refine Lq.of (t_58_p17_p10_0_ok X (callw X D') n tot kn kx _ M) ?_
    unfold t_58_p17_p10_0
    have hy := h.2.2.1
    have h98 := hy.1.2.2.1.2
    have h3 := h.1.2.1.2.2.2.2.1 i hi
    have x3 := (hy.2.2.2.2.2.1 i hi).2.2.2
    have y3 := x3.2
    have z3 : q_n W (144 + 3 * i) < 256 := Nat.lt_of_lt_of_le y3 (show 2 ^ i ≤ 2 ^ 8 from Nat.pow_le_pow_right (by decide) (by omega))
    have z4 : M 20 i = nI (q_n W (144 + 3 * i)) := by rw [h3]; exact x3.1
    rw [c_isDone10 hD' h hi]
    simp (disch := omega) only [Nat.one_mul, m1_nI, m1n, o_nI, z_nI, i1_nI, im1_nI, nI_add, nI_mul, lt_i, eq_i, inb_nI, ↓reduceIte, nI_clamp, bnd_some, b2i_0, b2i_1, b2i_t, b2i_f, Wq_ret, Wq_jmp, up_ne, up_at, upW_s, upW_n, Nat.reduceAdd, Nat.reduceMul, Nat.reduceLT, Nat.reduceEqDiff, Nat.add_zero, Nat.zero_add, reduceCtorEq]
    unfold q_openB
    cases hq : q_doneB W i with
    | true => rw [if_neg (by decide), Wq_ret]; exact ⟨rfl, rfl⟩
    | false =>
      rw [if_pos rfl, Wq_jmp]
      have loop : ∀ c j : Nat, j + c = i → (∀ k, k < j → (!(q_n W (144 + 3 * i)).testBit k || q_doneB W k) = true) → Lq X (callw X D') 58 13 [some (.inr (.inl 17)), some (.inr (.inl 10)), some (.inl (nI i)), some (.inl (nI j))] (Gk n tot kn kx) M (fun x M1 => x = b2i (q_all (fun k => !(q_n W (144 + 3 * i)).testBit k || q_doneB W k) i) ∧ M1 = M) := by
        intro c
        induction c with
        | zero =>
          intro j hj hall
          refine Lq.of (t_58_p17_p10_13_ok X (callw X D') n tot kn kx _ _ M) ?_
          unfold t_58_p17_p10_13
          rw [if_neg (by rw [lt_i (by omega) (by omega)]; omega), Wq_ret, q_all_iff.mpr (fun k hk => hall k (by omega))]
          exact ⟨rfl, rfl⟩
        | succ c ih =>
          intro j hj hall
          refine Lq.of (t_58_p17_p10_13_ok X (callw X D') n tot kn kx _ _ M) ?_
          unfold t_58_p17_p10_13
          have hji : j < i := by omega
          simp (disch := omega) only [Nat.one_mul, m1_nI, m1n, o_nI, z_nI, i1_nI, im1_nI, nI_add, nI_mul, lt_i, eq_i, inb_nI, ↓reduceIte, nI_clamp, bnd_some, b2i_0, b2i_1, b2i_t, b2i_f, Wq_ret, Wq_jmp, up_ne, up_at, upW_s, upW_n, Nat.reduceAdd, Nat.reduceMul, Nat.reduceLT, Nat.reduceEqDiff, Nat.add_zero, Nat.zero_add, reduceCtorEq, hji, z4, c_isIn hD', q_bit_nI (show q_n W (144 + 3 * i) < 2 ^ 31 by omega) (show j < 32 by omega), c_isDone10 hD' h (show j < q_n W 98 by omega)]
          have next : (!(q_n W (144 + 3 * i)).testBit j || q_doneB W j) = true → Lq X (callw X D') 58 13 [some (.inr (.inl 17)), some (.inr (.inl 10)), some (.inl (nI i)), some (.inl (nI (j + 1)))] (Gk n tot kn kx) M (fun x M1 => x = b2i (q_all (fun k => !(q_n W (144 + 3 * i)).testBit k || q_doneB W k) i) ∧ M1 = M) := by
            intro hh
            refine ih (j + 1) (by omega) ?_
            intro k hk
            rcases Nat.lt_or_ge k j with h1 | h1
            · exact hall k h1
            · rw [show k = j by omega]; exact hh
          cases hb : (q_n W (144 + 3 * i)).testBit j with
          | false => rw [if_pos rfl]; exact next (by rw [hb]; rfl)
          | true =>
            rw [if_neg (by decide)]
            cases hd : q_doneB W j with
            | true => rw [if_neg (by decide), Wq_jmp]; exact next (by rw [hd, Bool.or_true])
            | false =>
              rw [if_pos rfl, Wq_ret, q_all_no hji (by rw [hb, hd]; rfl)]
              exact ⟨rfl, rfl⟩
      exact loop i 0 (by omega) (fun k hk => absurd hk (Nat.not_lt_zero k))))
theorem c_sharpen10 (hD : 3 ≤ D) {t : Nat} {v : Int32} (ht : t < 8) : callw X D 41 [.inr (.inl 10), .inl (nI t), .inl v] (Gk n tot kn kx) M = some (0, Gk n tot kn kx, up M 11 t (q_held (M 11 t + v) (nI 0) (nI 99))) :=
  exk (k := 2) hD (fun D' hD' => t_41_p10_0_ok X (callw X D') n tot kn kx _ _ M) (fun D' hD' => by
    unfold t_41_p10_0
    simp (disch := omega) only [Nat.one_mul, m1_nI, m1n, o_nI, z_nI, i1_nI, im1_nI, nI_add, nI_mul, lt_i, eq_i, inb_nI, ↓reduceIte, nI_clamp, bnd_some, b2i_0, b2i_1, b2i_t, b2i_f, Wq_ret, Wq_jmp, up_ne, up_at, upW_s, upW_n, Nat.reduceAdd, Nat.reduceMul, Nat.reduceLT, Nat.reduceEqDiff, Nat.add_zero, Nat.zero_add, reduceCtorEq, c_held hD'])
theorem c_cheer10 (hD : 3 ≤ D) {t : Nat} {v : Int32} (ht : t < 8) : callw X D 40 [.inr (.inl 10), .inl (nI t), .inl v] (Gk n tot kn kx) M = some (0, Gk n tot kn kx, up M 12 t (q_held (M 12 t + v) (nI 0) (nI 99))) :=
  exk (k := 2) hD (fun D' hD' => t_40_p10_0_ok X (callw X D') n tot kn kx _ _ M) (fun D' hD' => by
    unfold t_40_p10_0
    simp (disch := omega) only [Nat.one_mul, m1_nI, m1n, o_nI, z_nI, i1_nI, im1_nI, nI_add, nI_mul, lt_i, eq_i, inb_nI, ↓reduceIte, nI_clamp, bnd_some, b2i_0, b2i_1, b2i_t, b2i_f, Wq_ret, Wq_jmp, up_ne, up_at, upW_s, upW_n, Nat.reduceAdd, Nat.reduceMul, Nat.reduceLT, Nat.reduceEqDiff, Nat.add_zero, Nat.zero_add, reduceCtorEq, c_held hD'])
set_option maxHeartbeats 4000000 in
theorem c_work10 (hD : 4 ≤ D) {W : Nat → Int32} {t m : Nat} (ht : t < q_n W 96) (hm : m < 4) (h : CX M 10 W) : Sq X D 68 [.inr (.inl 120), .inr (.inl 1), .inr (.inl 10), .inl (nI t), .inl (nI m)] (Gk n tot kn kx) M (fun x M' => CX M' 10 (q_wears W t m) ∧ Fr [121, 122, 11, 12, 13, 14] M M') :=
  Sq.mk (k := 3) hD (fun D' hD' => by
    have ht8 : t < 8 := by have := h.2.2.1.1.1.2; omega
    refine Lq.of (t_68_p120_p1_p10_0_ok X (callw X D') n tot kn kx _ _ M) ?_
    unfold t_68_p120_p1_p10_0
    rw [o_nI, o_nI]
    refine Wq.call (c_tell10 hD' ht8 hm (show 0 < 3 by decide) h) ?_
    rintro x M1 ⟨hx, hf1⟩
    subst hx
    refine Wq.call (c_tell10 hD' ht8 hm (show 1 < 3 by decide) (h.fr hf1 (by decide))) ?_
    rintro x M2 ⟨hx, hf2⟩
    subst hx
    have h2 : CX M2 10 W := (h.fr hf1 (by decide)).fr hf2 (by decide)
    obtain ⟨hcy, ⟨m1, m2, m3, m4, b1, b2, b3, b4, b5, b6⟩, hiy, him⟩ := id h2
    simp (disch := omega) only [Nat.one_mul, m1_nI, m1n, o_nI, z_nI, i1_nI, im1_nI, nI_add, nI_mul, lt_i, eq_i, inb_nI, ↓reduceIte, nI_clamp, bnd_some, b2i_0, b2i_1, b2i_t, b2i_f, Wq_ret, Wq_jmp, up_ne, up_at, upW_s, upW_n, Nat.reduceAdd, Nat.reduceMul, Nat.reduceLT, Nat.reduceEqDiff, Nat.add_zero, Nat.zero_add, reduceCtorEq, c_sharpen10 hD' ht8, c_cheer10 hD' ht8, b1 t ht8, b2 t ht8, b3 t ht8, b4 t ht8]
    have hf : Fr [121, 122, 11, 12, 13, 14] M M2 := (hf1.tr hf2).mono (by decide)
    have he := (him.2.2.2.1 t ht8).1
    obtain ⟨k, hk, ek⟩ := q_tell0 (W := W) (t := t) (m := m)
    have hsh : q_held (W (19 + 10 * t) + -q_tell W t m 0) (nI 0) (nI 99) = q_gr0 (W (19 + 10 * t) - q_tell W t m 0) := by
      rw [ek, he.1, (sharp_ok _ he.2 k (by omega)).1, (sharp_ok _ he.2 k (by omega)).2]
    rw [hsh]
    have hfin : Fr [121, 122, 11, 12, 13, 14] M (up (up (up (up M2 11 t (q_gr0 (W (19 + 10 * t) - q_tell W t m 0))) 12 t (q_held (W (20 + 10 * t) + q_tell W t m 1) (nI 0) (nI 99))) 13 t (W (23 + 10 * t) + nI 1)) 14 t (W (24 + 10 * t) + nI 1)) :=
      (((hf.up (by decide)).up (by decide)).up (by decide)).up (by decide)
    refine ⟨⟨?_, ?_, hiy.ch (q_wears_Y ht8), q_wears_M ht hiy him⟩, hfin⟩
    · exact h.1.ch (fun d hd => hfin d (by unfold Yp at hd; simp; omega)) (q_wears_Y ht8) hiy.1
    · unfold CRm
      simp (disch := omega) only [up_ne, up_at]
      refine ⟨?_, ?_, ?_, ?_, (((b1.up (by decide)).un (by omega)).un (by omega)).un (by omega), (((b2.un (by omega)).up (by decide)).un (by omega)).un (by omega), (((b3.un (by omega)).un (by omega)).up (by decide)).un (by omega), (((b4.un (by omega)).un (by omega)).un (by omega)).up (by decide), (((b5.un (by omega)).un (by omega)).un (by omega)).un (by omega), (((b6.un (by omega)).un (by omega)).un (by omega)).un (by omega)⟩
      all_goals rw [q_wears_at (by omega) (by omega) (by omega) (by omega)]; assumption)
theorem c_isDone87 (hD : 1 ≤ D) {W : Nat → Int32} {i : Nat} (h : CX M 87 W) (hi : i < q_n W 98) : callw X D 57 [.inr (.inl 17), .inr (.inl 87), .inl (nI i)] (Gk n tot kn kx) M = some (b2i (q_doneB W i), Gk n tot kn kx, M) :=
  ex1 hD (fun cl => t_57_p17_p87_0_ok X cl n tot kn kx _ M) (fun cl => by
    unfold t_57_p17_p87_0
    obtain ⟨⟨_, ⟨_, _, _, h2, _⟩, _⟩, ⟨_, _, _, _, _, _, _, _, b5, _⟩, hy, hm⟩ := h
    have h98 := hy.1.2.2.1.2
    have x1 := (hm.2.2.2.2 i hi).1
    have x2 := (hy.2.2.2.2.2.1 i hi).2.1
    have x3 := (hm.2.2.2.2 i hi).2.1
    have y1 := x1.2; have y2 := x2.2
    rw [q_doneB_f hi hy hm]
    simp (disch := omega) only [Nat.one_mul, m1_nI, m1n, o_nI, z_nI, i1_nI, im1_nI, nI_add, nI_mul, lt_i, eq_i, inb_nI, ↓reduceIte, nI_clamp, bnd_some, b2i_0, b2i_1, b2i_t, b2i_f, Wq_ret, Wq_jmp, up_ne, up_at, upW_s, upW_n, Nat.reduceAdd, Nat.reduceMul, Nat.reduceLT, Nat.reduceEqDiff, Nat.add_zero, Nat.zero_add, reduceCtorEq, b5 i (by omega), h2 i hi, x1.1, x2.1]
    by_cases e : q_n W (8 + i) = q_n W (143 + 3 * i)
    · rw [if_neg (by omega), decide_eq_true e]; rfl
    · rw [if_pos (by omega), decide_eq_false e]; rfl)
theorem c_isOpen87 (hD : 2 ≤ D) {W : Nat → Int32} {i : Nat} (h : CX M 87 W) (hi : i < q_n W 98) : callw X D 58 [.inr (.inl 17), .inr (.inl 87), .inl (nI i)] (Gk n tot kn kx) M = some (b2i (q_openB W i), Gk n tot kn kx, M) :=
  Sq.eq (Sq.mk (k := 1) hD (fun D' hD' => by
    refine Lq.of (t_58_p17_p87_0_ok X (callw X D') n tot kn kx _ M) ?_
    unfold t_58_p17_p87_0
    have hy := h.2.2.1
    have h98 := hy.1.2.2.1.2
    have h3 := h.1.2.1.2.2.2.2.1 i hi
    have x3 := (hy.2.2.2.2.2.1 i hi).2.2.2
    have y3 := x3.2
    have z3 : q_n W (144 + 3 * i) < 256 := Nat.lt_of_lt_of_le y3 (show 2 ^ i ≤ 2 ^ 8 from Nat.pow_le_pow_right (by decide) (by omega))
    have z4 : M 20 i = nI (q_n W (144 + 3 * i)) := by rw [h3]; exact x3.1
    rw [c_isDone87 hD' h hi]
    simp (disch := omega) only [Nat.one_mul, m1_nI, m1n, o_nI, z_nI, i1_nI, im1_nI, nI_add, nI_mul, lt_i, eq_i, inb_nI, ↓reduceIte, nI_clamp, bnd_some, b2i_0, b2i_1, b2i_t, b2i_f, Wq_ret, Wq_jmp, up_ne, up_at, upW_s, upW_n, Nat.reduceAdd, Nat.reduceMul, Nat.reduceLT, Nat.reduceEqDiff, Nat.add_zero, Nat.zero_add, reduceCtorEq]
    unfold q_openB
    cases hq : q_doneB W i with
    | true => rw [if_neg (by decide), Wq_ret]; exact ⟨rfl, rfl⟩
    | false =>
      rw [if_pos rfl, Wq_jmp]
      have loop : ∀ c j : Nat, j + c = i → (∀ k, k < j → (!(q_n W (144 + 3 * i)).testBit k || q_doneB W k) = true) → Lq X (callw X D') 58 13 [some (.inr (.inl 17)), some (.inr (.inl 87)), some (.inl (nI i)), some (.inl (nI j))] (Gk n tot kn kx) M (fun x M1 => x = b2i (q_all (fun k => !(q_n W (144 + 3 * i)).testBit k || q_doneB W k) i) ∧ M1 = M) := by
        intro c
        induction c with
        | zero =>
          intro j hj hall
          refine Lq.of (t_58_p17_p87_13_ok X (callw X D') n tot kn kx _ _ M) ?_
          unfold t_58_p17_p87_13
          rw [if_neg (by rw [lt_i (by omega) (by omega)]; omega), Wq_ret, q_all_iff.mpr (fun k hk => hall k (by omega))]
          exact ⟨rfl, rfl⟩
        | succ c ih =>
          intro j hj hall
          refine Lq.of (t_58_p17_p87_13_ok X (callw X D') n tot kn kx _ _ M) ?_
          unfold t_58_p17_p87_13
          have hji : j < i := by omega
          simp (disch := omega) only [Nat.one_mul, m1_nI, m1n, o_nI, z_nI, i1_nI, im1_nI, nI_add, nI_mul, lt_i, eq_i, inb_nI, ↓reduceIte, nI_clamp, bnd_some, b2i_0, b2i_1, b2i_t, b2i_f, Wq_ret, Wq_jmp, up_ne, up_at, upW_s, upW_n, Nat.reduceAdd, Nat.reduceMul, Nat.reduceLT, Nat.reduceEqDiff, Nat.add_zero, Nat.zero_add, reduceCtorEq, hji, z4, c_isIn hD', q_bit_nI (show q_n W (144 + 3 * i) < 2 ^ 31 by omega) (show j < 32 by omega), c_isDone87 hD' h (show j < q_n W 98 by omega)]
          have next : (!(q_n W (144 + 3 * i)).testBit j || q_doneB W j) = true → Lq X (callw X D') 58 13 [some (.inr (.inl 17)), some (.inr (.inl 87)), some (.inl (nI i)), some (.inl (nI (j + 1)))] (Gk n tot kn kx) M (fun x M1 => x = b2i (q_all (fun k => !(q_n W (144 + 3 * i)).testBit k || q_doneB W k) i) ∧ M1 = M) := by
            intro hh
            refine ih (j + 1) (by omega) ?_
            intro k hk
            rcases Nat.lt_or_ge k j with h1 | h1
            · exact hall k h1
            · rw [show k = j by omega]; exact hh
          cases hb : (q_n W (144 + 3 * i)).testBit j with
          | false => rw [if_pos rfl]; exact next (by rw [hb]; rfl)
          | true =>
            rw [if_neg (by decide)]
            cases hd : q_doneB W j with
            | true => rw [if_neg (by decide), Wq_jmp]; exact next (by rw [hd, Bool.or_true])
            | false =>
              rw [if_pos rfl, Wq_ret, q_all_no hji (by rw [hb, hd]; rfl)]
              exact ⟨rfl, rfl⟩
      exact loop i 0 (by omega) (fun k hk => absurd hk (Nat.not_lt_zero k))))
theorem c_sharpen87 (hD : 3 ≤ D) {t : Nat} {v : Int32} (ht : t < 8) : callw X D 41 [.inr (.inl 87), .inl (nI t), .inl v] (Gk n tot kn kx) M = some (0, Gk n tot kn kx, up M 88 t (q_held (M 88 t + v) (nI 0) (nI 99))) :=
  exk (k := 2) hD (fun D' hD' => t_41_p87_0_ok X (callw X D') n tot kn kx _ _ M) (fun D' hD' => by
    unfold t_41_p87_0
    simp (disch := omega) only [Nat.one_mul, m1_nI, m1n, o_nI, z_nI, i1_nI, im1_nI, nI_add, nI_mul, lt_i, eq_i, inb_nI, ↓reduceIte, nI_clamp, bnd_some, b2i_0, b2i_1, b2i_t, b2i_f, Wq_ret, Wq_jmp, up_ne, up_at, upW_s, upW_n, Nat.reduceAdd, Nat.reduceMul, Nat.reduceLT, Nat.reduceEqDiff, Nat.add_zero, Nat.zero_add, reduceCtorEq, c_held hD'])
theorem c_cheer87 (hD : 3 ≤ D) {t : Nat} {v : Int32} (ht : t < 8) : callw X D 40 [.inr (.inl 87), .inl (nI t), .inl v] (Gk n tot kn kx) M = some (0, Gk n tot kn kx, up M 89 t (q_held (M 89 t + v) (nI 0) (nI 99))) :=
  exk (k := 2) hD (fun D' hD' => t_40_p87_0_ok X (callw X D') n tot kn kx _ _ M) (fun D' hD' => by
    unfold t_40_p87_0
    simp (disch := omega) only [Nat.one_mul, m1_nI, m1n, o_nI, z_nI, i1_nI, im1_nI, nI_add, nI_mul, lt_i, eq_i, inb_nI, ↓reduceIte, nI_clamp, bnd_some, b2i_0, b2i_1, b2i_t, b2i_f, Wq_ret, Wq_jmp, up_ne, up_at, upW_s, upW_n, Nat.reduceAdd, Nat.reduceMul, Nat.reduceLT, Nat.reduceEqDiff, Nat.add_zero, Nat.zero_add, reduceCtorEq, c_held hD'])
set_option maxHeartbeats 4000000 in
theorem c_work87 (hD : 4 ≤ D) {W : Nat → Int32} {t m : Nat} (ht : t < q_n W 96) (hm : m < 4) (h : CX M 87 W) : Sq X D 68 [.inr (.inl 120), .inr (.inl 1), .inr (.inl 87), .inl (nI t), .inl (nI m)] (Gk n tot kn kx) M (fun x M' => CX M' 87 (q_wears W t m) ∧ Fr [121, 122, 88, 89, 90, 91] M M') :=
  Sq.mk (k := 3) hD (fun D' hD' => by
    have ht8 : t < 8 := by have := h.2.2.1.1.1.2; omega
    refine Lq.of (t_68_p120_p1_p87_0_ok X (callw X D') n tot kn kx _ _ M) ?_
    unfold t_68_p120_p1_p87_0
    rw [o_nI, o_nI]
    refine Wq.call (c_tell87 hD' ht8 hm (show 0 < 3 by decide) h) ?_
    rintro x M1 ⟨hx, hf1⟩
    subst hx
    refine Wq.call (c_tell87 hD' ht8 hm (show 1 < 3 by decide) (h.fr hf1 (by decide))) ?_
    rintro x M2 ⟨hx, hf2⟩
    subst hx
    have h2 : CX M2 87 W := (h.fr hf1 (by decide)).fr hf2 (by decide)
    obtain ⟨hcy, ⟨m1, m2, m3, m4, b1, b2, b3, b4, b5, b6⟩, hiy, him⟩ := id h2
    simp (disch := omega) only [Nat.one_mul, m1_nI, m1n, o_nI, z_nI, i1_nI, im1_nI, nI_add, nI_mul, lt_i, eq_i, inb_nI, ↓reduceIte, nI_clamp, bnd_some, b2i_0, b2i_1, b2i_t, b2i_f, Wq_ret, Wq_jmp, up_ne, up_at, upW_s, upW_n, Nat.reduceAdd, Nat.reduceMul, Nat.reduceLT, Nat.reduceEqDiff, Nat.add_zero, Nat.zero_add, reduceCtorEq, c_sharpen87 hD' ht8, c_cheer87 hD' ht8, b1 t ht8, b2 t ht8, b3 t ht8, b4 t ht8]
    have hf : Fr [121, 122, 88, 89, 90, 91] M M2 := (hf1.tr hf2).mono (by decide)
    have he := (him.2.2.2.1 t ht8).1
    obtain ⟨k, hk, ek⟩ := q_tell0 (W := W) (t := t) (m := m)
    have hsh : q_held (W (19 + 10 * t) + -q_tell W t m 0) (nI 0) (nI 99) = q_gr0 (W (19 + 10 * t) - q_tell W t m 0) := by
      rw [ek, he.1, (sharp_ok _ he.2 k (by omega)).1, (sharp_ok _ he.2 k (by omega)).2]
    rw [hsh]
    have hfin : Fr [121, 122, 88, 89, 90, 91] M (up (up (up (up M2 88 t (q_gr0 (W (19 + 10 * t) - q_tell W t m 0))) 89 t (q_held (W (20 + 10 * t) + q_tell W t m 1) (nI 0) (nI 99))) 90 t (W (23 + 10 * t) + nI 1)) 91 t (W (24 + 10 * t) + nI 1)) :=
      (((hf.up (by decide)).up (by decide)).up (by decide)).up (by decide)
    refine ⟨⟨?_, ?_, hiy.ch (q_wears_Y ht8), q_wears_M ht hiy him⟩, hfin⟩
    · exact h.1.ch (fun d hd => hfin d (by unfold Yp at hd; simp; omega)) (q_wears_Y ht8) hiy.1
    · unfold CRm
      simp (disch := omega) only [up_ne, up_at]
      refine ⟨?_, ?_, ?_, ?_, (((b1.up (by decide)).un (by omega)).un (by omega)).un (by omega), (((b2.un (by omega)).up (by decide)).un (by omega)).un (by omega), (((b3.un (by omega)).un (by omega)).up (by decide)).un (by omega), (((b4.un (by omega)).un (by omega)).un (by omega)).up (by decide), (((b5.un (by omega)).un (by omega)).un (by omega)).un (by omega), (((b6.un (by omega)).un (by omega)).un (by omega)).un (by omega)⟩
      all_goals rw [q_wears_at (by omega) (by omega) (by omega) (by omega)]; assumption)
theorem c_refuse (hD : 1 ≤ D) {h : Int32} {l r : Nat} (hr : M 123 1 = nI r) (hr2 : r < 2 ^ 30) : Sq X D 66 [.inr (.inl 123), .inl h, .inl (nI l)] (Gk n tot kn kx) M (fun x M' => Fr [123] M M' ∧ M' 123 1 = nI (r + 1) ∧ M' 123 2 = (if r = 0 then h else M 123 2) ∧ M' 123 3 = (if r = 0 then nI l else M 123 3) ∧ M' 123 0 = M 123 0 ∧ M' 123 4 = M 123 4 ∧ M' 123 5 = M 123 5 ∧ M' 123 6 = M 123 6) :=
  Sq.mk (k := 0) hD (fun D' hD' => by
    refine Lq.of (t_66_p123_0_ok X (callw X D') n tot kn kx _ _ M) ?_
    unfold t_66_p123_0
    simp (disch := omega) only [Nat.one_mul, m1_nI, m1n, o_nI, z_nI, i1_nI, im1_nI, nI_add, nI_mul, lt_i, eq_i, inb_nI, ↓reduceIte, nI_clamp, bnd_some, b2i_0, b2i_1, b2i_t, b2i_f, Wq_ret, Wq_jmp, up_ne, up_at, upW_s, upW_n, Nat.reduceAdd, Nat.reduceMul, Nat.reduceLT, Nat.reduceEqDiff, Nat.add_zero, Nat.zero_add, reduceCtorEq, hr]
    by_cases e : r = 0
    · rw [if_pos e, if_pos e, if_pos e, Wq_ret]
      refine ⟨((Fr.rf.up (by decide)).up (by decide)).up (by decide), ?_⟩
      simp (disch := omega) only [Nat.one_mul, m1_nI, m1n, o_nI, z_nI, i1_nI, im1_nI, nI_add, nI_mul, lt_i, eq_i, inb_nI, ↓reduceIte, nI_clamp, bnd_some, b2i_0, b2i_1, b2i_t, b2i_f, Wq_ret, Wq_jmp, up_ne, up_at, upW_s, upW_n, Nat.reduceAdd, Nat.reduceMul, Nat.reduceLT, Nat.reduceEqDiff, Nat.add_zero, Nat.zero_add, reduceCtorEq]
      simp
    · rw [if_neg e, if_neg e, if_neg e, Wq_ret]
      refine ⟨Fr.rf.up (by decide), ?_⟩
      simp (disch := omega) only [Nat.one_mul, m1_nI, m1n, o_nI, z_nI, i1_nI, im1_nI, nI_add, nI_mul, lt_i, eq_i, inb_nI, ↓reduceIte, nI_clamp, bnd_some, b2i_0, b2i_1, b2i_t, b2i_f, Wq_ret, Wq_jmp, up_ne, up_at, upW_s, upW_n, Nat.reduceAdd, Nat.reduceMul, Nat.reduceLT, Nat.reduceEqDiff, Nat.add_zero, Nat.zero_add, reduceCtorEq]
      simp)
set_option maxHeartbeats 4000000 in
theorem c_write (hD : 1 ≤ D) {W : Nat → Int32} {t m i : Nat} (h9 : M 10 9 = W 2) (h6 : M 10 6 = W 0) (h2 : q_lt W 2 201) (hb : CRbook M 43 W) : Sq X D 69 [.inr (.inl 123), .inr (.inl 1), .inl (nI t), .inl (nI m), .inl (nI i)] (Gk n tot kn kx) M (fun x M' => Fr [10, 43] M M' ∧ CRbook M' 43 (q_note W t m i) ∧ M' 10 = upW (M 10) 9 (q_note W t m i 2)) :=
  Sq.mk (k := 0) hD (fun D' hD' => by
    refine Lq.of (t_69_p123_p1_0_ok X (callw X D') n tot kn kx _ _ _ M) ?_
    unfold t_69_p123_p1_0 q_note
    obtain ⟨e2, hlt⟩ := h2
    obtain ⟨l, hl⟩ : ∃ l, q_n W 2 = l := ⟨_, rfl⟩
    rw [hl] at e2 hlt ⊢
    have hz : ¬ nI l < 0 := by rw [z_nI, lt_i (by omega) (by omega)]; omega
    rw [h9, e2, if_neg hz]
    by_cases e : l = 200
    · subst e
      rw [if_pos rfl, if_neg (by decide +kernel), Wq_ret]
      refine ⟨Fr.rf, hb, ?_⟩
      funext k
      by_cases hk : k = 9
      · subst hk; rw [upW_s, h9]
      · rw [upW_n hk]
    · have hl2 : l < 200 := by omega
      have hne : ¬ nI l = nI 200 := by rw [eq_i (by omega) (by omega)]; exact e
      rw [if_neg hne]
      simp (disch := omega) only [Nat.one_mul, m1_nI, m1n, o_nI, z_nI, i1_nI, im1_nI, nI_add, nI_mul, lt_i, eq_i, inb_nI, ↓reduceIte, nI_clamp, bnd_some, b2i_0, b2i_1, b2i_t, b2i_f, Wq_ret, Wq_jmp, up_ne, Nat.reduceAdd, Nat.reduceMul, Nat.reduceLT, Nat.reduceEqDiff, Nat.add_zero, Nat.zero_add, reduceCtorEq, hl2, h6, h9]
      refine ⟨((((Fr.rf.up (by decide)).up (by decide)).up (by decide)).up (by decide)).up (by decide), ?_, ?_⟩
      · unfold CRbook at hb ⊢
        have h0 := (((hb.up (a := 4 * l) (v := W 0) (by decide)).up (a := 4 * l + 1) (v := nI t) (by decide)).up (a := 4 * l + 2) (v := nI m) (by decide)).up (a := 4 * l + 3) (v := nI i) (by decide)
        rw [Nat.one_mul, Nat.one_mul, Nat.one_mul, Nat.one_mul] at h0
        rw [up_ne (by decide), up_at, up_at, up_at, up_at]
        exact h0.un (by omega)
      · simp (disch := omega) only [Nat.one_mul, m1_nI, m1n, o_nI, z_nI, i1_nI, im1_nI, nI_add, nI_mul, lt_i, eq_i, inb_nI, ↓reduceIte, nI_clamp, bnd_some, b2i_0, b2i_1, b2i_t, b2i_f, Wq_ret, Wq_jmp, up_ne, up_at, upW_s, upW_n, Nat.reduceAdd, Nat.reduceMul, Nat.reduceLT, Nat.reduceEqDiff, Nat.add_zero, Nat.zero_add, reduceCtorEq, e2])
end
