section
-- needs: seen
/-! in thought: hours -/
theorem q_line_fr {tr : Bool} {l : Nat} {s : Hst} (h : s.2.2.2.2 = none ↔ s.2.2.2.1 = 0) : (q_line tr l s).2.2.2.2 = none ↔ (q_line tr l s).2.2.2.1 = 0 := by
  unfold q_line
  split
  · split
    · exact h
    · dsimp only
      constructor
      · intro hh
        cases hf : s.2.2.2.2 with
        | none => rw [hf] at hh; cases hh
        | some k => rw [hf] at hh; cases hh
      · intro hh; omega
  · exact h
theorem q_lines_fr {tr : Bool} {W : Nat → Int32} : (q_hour tr W).2.2.2.2 = none ↔ (q_hour tr W).2.2.2.1 = 0 :=
  q_for_ind (P := fun s : Hst => s.2.2.2.2 = none ↔ s.2.2.2.1 = 0) (f := q_line tr) (n := q_n W 99) (a := q_begun W) ⟨fun _ => rfl, fun _ => rfl⟩ (fun i b _ hb => q_line_fr hb)
theorem q_line_fk {tr : Bool} {l n : Nat} {s : Hst} (hl : l < n) (h : ∀ k, s.2.2.2.2 = some k → k < n) : ∀ k, (q_line tr l s).2.2.2.2 = some k → k < n := by
  unfold q_line
  split
  · split
    · exact h
    · dsimp only
      intro k hk
      cases hf : s.2.2.2.2 with
      | none => rw [hf] at hk; cases hk; exact hl
      | some j => rw [hf] at hk; cases hk; exact h _ hf
  · exact h
theorem q_lines_fk {tr : Bool} {W : Nat → Int32} : ∀ k, (q_hour tr W).2.2.2.2 = some k → k < q_n W 99 :=
  q_for_ind (P := fun s : Hst => ∀ k, s.2.2.2.2 = some k → k < q_n W 99) (f := q_line tr) (n := q_n W 99) (a := q_begun W) (fun k h => by cases h) (fun i b hi hb => q_line_fk hi hb)
/-- HOURS count who worked -/
def q_cnt1 (W W' : Nat → Int32) (T : Nat) : Prop := ∀ t, t < T → (W' (25 + 10 * t) = nI 0 ∧ W' (24 + 10 * t) = W (24 + 10 * t)) ∨ (W' (25 + 10 * t) = nI 1 ∧ W' (24 + 10 * t) = W (24 + 10 * t) + nI 1)
theorem q_do_24 {tr : Bool} {W : Nat → Int32} {t m i t' : Nat} (hi : i < 8) (ht : t' < 8) : q_do tr W t m i (24 + 10 * t') = if t' = t then W (24 + 10 * t') + nI 1 else W (24 + 10 * t') := by
  have h1 : q_did W t m i (24 + 10 * t') = if t' = t then W (24 + 10 * t') + nI 1 else W (24 + 10 * t') := by
    unfold q_did
    rw [upW_n (by omega), upW_n (by omega)]
    by_cases e : t' = t
    · subst e
      rw [if_pos rfl]
      unfold q_wears
      rw [upW_s]
    · rw [if_neg e, q_wears_at (by omega) (by omega) (by omega) (by omega)]
  unfold q_do
  cases tr with
  | false => exact h1
  | true => rw [if_pos rfl, q_note_at (by omega) (by omega)]; exact h1
theorem q_lines_c {tr : Bool} {W : Nat → Int32} (hy : q_invY W) (hm : q_invM W) : q_cnt1 W (q_lines tr W).1 (q_n W 96) := by
  have b1 := hy.1.1.2; have b4 := hy.1.2.2.2.1.2
  have key : ∀ n, n ≤ q_n W 99 → sameY W (q_for (q_line tr) n (q_begun W)).1 ∧ q_invM (q_for (q_line tr) n (q_begun W)).1 ∧ q_cnt1 W (q_for (q_line tr) n (q_begun W)).1 (q_n W 96) := by
    intro n
    induction n with
    | zero =>
      intro _
      have z := q_zero9_ok (n := q_n W 96) (by omega) hy hm
      refine ⟨z.1, z.2, fun t ht => Or.inl ⟨q_zero9_in ht, q_zero9_at (by omega) _⟩⟩
    | succ n ih =>
      intro hn
      obtain ⟨h1, h2, h3⟩ := ih (by omega)
      rw [q_for_s]
      generalize q_for (q_line tr) n (q_begun W) = s at h1 h2 h3
      have hns : n < q_n s.1 99 := by rw [q_n_eq (h1 99 (by unfold mvI; omega))]; omega
      have ok := q_line_ok (tr := tr) hns (hy.ch h1) h2
      refine ⟨h1.tr ok.1, ok.2, ?_⟩
      unfold q_line
      split
      · split
        · rename_i hon hcan
          obtain ⟨a1, a2, a3, _⟩ := (hy.ch h1).2.2.2.2.2.2.2 n hns
          have c1 := a1.2; have c3 := a3.2
          have k1 := (hy.ch h1).1.1.2; have k3 := (hy.ch h1).1.2.2.1.2
          have t8 : q_T s.1 n < 8 := by unfold q_T; omega
          have i8 : q_I s.1 n < 8 := by unfold q_I; omega
          have hfree : s.1 (25 + 10 * q_T s.1 n) ≠ nI 1 := by
            unfold q_can at hcan
            rw [Bool.and_eq_true, Bool.not_eq_true', decide_eq_false_iff_not] at hcan
            exact hcan.1
          intro t ht
          show (q_do tr s.1 _ _ _ (25 + 10 * t) = nI 0 ∧ q_do tr s.1 _ _ _ (24 + 10 * t) = _) ∨ (q_do tr s.1 _ _ _ (25 + 10 * t) = nI 1 ∧ q_do tr s.1 _ _ _ (24 + 10 * t) = _)
          rw [q_do_9 i8 (by omega), q_do_24 i8 (by omega)]
          by_cases e : t = q_T s.1 n
          · rw [if_pos e, if_pos e]
            rcases h3 t ht with g | g
            · exact Or.inr ⟨rfl, by rw [g.2]⟩
            · rw [← e] at hfree; exact absurd g.1 hfree
          · rw [if_neg e, if_neg e]
            exact h3 t ht
        · exact h3
      · exact h3
  exact (key _ (Nat.le_refl _)).2.2
theorem q_hour_c {tr : Bool} {W : Nat → Int32} (hy : q_invY W) (hm : q_invM W) : q_cnt1 W (q_hour tr W).1 (q_n W 96) := by
  have b1 := hy.1.1.2
  have h := q_lines_c (tr := tr) hy hm
  intro t ht
  have e25 : (q_hour tr W).1 (25 + 10 * t) = (q_lines tr W).1 (25 + 10 * t) := by
    show q_next (q_rusted tr (q_lines tr W).1) (25 + 10 * t) = _
    rw [q_next_at (by omega) (by omega), q_rusted_at (by omega) (by omega)]
  have e24 : (q_hour tr W).1 (24 + 10 * t) = (q_lines tr W).1 (24 + 10 * t) := by
    show q_next (q_rusted tr (q_lines tr W).1) (24 + 10 * t) = _
    rw [q_next_at (by omega) (by omega), q_rusted_at (by omega) (by omega)]
  rw [e25, e24]
  exact h t ht
/-- hours of thought: W, hours of work, refused lines, the first one's hour and line -/
abbrev Th : Type := (Nat → Int32) × Nat × Nat × Int32 × Int32
def q_th1 (s : Th) : Th := ((q_hour false s.1).1, s.2.1 + (q_hour false s.1).2.2.1, s.2.2.1 + (q_hour false s.1).2.2.2.1, q_cf s.2.2.1 s.2.2.2.1 (s.1 0) (q_hour false s.1).2.2.2.2, q_cl s.2.2.1 s.2.2.2.2 (q_hour false s.1).2.2.2.2)
def q_th (W : Nat → Int32) : Nat → Th
  | 0 => (W, 0, 0, -1, -1)
  | n + 1 => q_th1 (q_th W n)
theorem q_th_ok {W : Nat → Int32} (hy : q_invY W) (hm : q_invM W) : ∀ n, sameY W (q_th W n).1 ∧ q_invM (q_th W n).1 ∧ q_low W (q_th W n).1 ∧ (q_th W n).2.2.1 ≤ 20 * n ∧ ((q_th W n).2.2.1 = 0 ↔ (q_th W n).2.2.2.2 = -1)
  | 0 => ⟨sameY.rf, hm, q_low.rf, Nat.le_refl 0, ⟨fun _ => rfl, fun _ => rfl⟩⟩
  | n + 1 => by
    obtain ⟨h1, h2, h3, h4, h5⟩ := q_th_ok hy hm n
    have ok := q_hour_ok (tr := false) (hy.ch h1) h2
    have lo := q_hour_low (hy.ch h1) h2
    have rf := q_hour_rf (tr := false) (W := (q_th W n).1)
    have fr := q_lines_fr (tr := false) (W := (q_th W n).1)
    have fk := q_lines_fk (tr := false) (W := (q_th W n).1)
    have h99 := (hy.ch h1).1.2.2.2.1.2
    show sameY W (q_th1 (q_th W n)).1 ∧ q_invM (q_th1 (q_th W n)).1 ∧ q_low W (q_th1 (q_th W n)).1 ∧ (q_th1 (q_th W n)).2.2.1 ≤ 20 * (n + 1) ∧ ((q_th1 (q_th W n)).2.2.1 = 0 ↔ (q_th1 (q_th W n)).2.2.2.2 = -1)
    unfold q_th1
    generalize q_th W n = s at *
    refine ⟨h1.tr ok.1, ok.2, h3.tr lo, by dsimp only; omega, ?_⟩
    dsimp only
    unfold q_cl
    cases hf : (q_hour false s.1).2.2.2.2 with
    | none =>
      dsimp only
      rw [fr.mp hf, Nat.add_zero]
      exact h5
    | some k =>
      dsimp only
      have hz : (q_hour false s.1).2.2.2.1 ≠ 0 := fun e => by rw [fr.mpr e] at hf; cases hf
      have hk := fk k hf
      constructor
      · intro e; omega
      · intro e
        exfalso
        by_cases h0 : s.2.2.1 = 0
        · rw [if_pos h0] at e
          have : (nI k = -1) = False := nI_nm1 (by omega)
          rw [this] at e
          exact e
        · rw [if_neg h0] at e
          exact h0 (h5.mpr e)
variable {X : KXw} {n tot kn D : Nat} {kx : Nat → Nat × Nat} {M : MMw}
/-- the class in thought -/
def TkP (M0 : MMw) (W : Nat → Int32) (k : Nat) (M1 : MMw) : Prop := CX M1 87 (q_th W k).1 ∧ Fr [87, 88, 89, 90, 91, 92, 93, 121, 122, 123] M0 M1 ∧ M1 123 0 = nI (q_th W k).2.1 ∧ M1 123 1 = nI (q_th W k).2.2.1 ∧ M1 123 2 = (q_th W k).2.2.2.1 ∧ M1 123 3 = (q_th W k).2.2.2.2 ∧
  ∃ e, e < 256 ∧ M1 123 4 = nI e ∧ ∀ t, t < q_n W 96 → ∃ c, c ≤ k ∧ (q_th W k).1 (24 + 10 * t) = W (24 + 10 * t) + nI c ∧ e.testBit t = decide (0 < c)
theorem c_tk_pass (hD : 6 ≤ D) {M0 : MMw} {W : Nat → Int32} (hy : q_invY W) (hm : q_invM W) {k : Nat} (hk : k < 100) (h : TkP M0 W k M) : Sq X D 74 [.inr (.inl 123), .inr (.inl 1), .inr (.inl 87), .inr (.inl 120), .inl (nI 0)] (Gk n tot kn kx) M (fun _ M' => TkP M0 W (k + 1) M') := by
  obtain ⟨h1, h2, h3, h4, h5, h6, e, he, h7, h8⟩ := h
  have ok := q_th_ok hy hm k
  refine Sq.mono (c_pass87 (r0 := (q_th W k).2.2.1) hD h1 h4 (by omega) (fun hh => by cases hh)) ?_
  rintro x M' ⟨⟨p1, _, p3, p4, p5, p6, a, pa, p7⟩, pf⟩
  refine ⟨p1, h2.tr (pf.mono (by decide)), ?_, p4, ?_, ?_, e ||| a, Nat.or_lt_two_pow (n := 8) he pa.1, ?_, ?_⟩
  · rw [p3, h3, nI_add]; rfl
  · rw [p5, h5]; rfl
  · rw [p6, h6]; rfl
  · rw [p7, h7, nI_or]
  · intro t ht
    obtain ⟨c, c1, c2, c3⟩ := h8 t ht
    have n96 : q_n (q_th W k).1 96 = q_n W 96 := q_n_eq (ok.1 96 (by unfold mvI; omega))
    have hc := q_hour_c (tr := false) (hy.ch ok.1) ok.2.1 t (by rw [n96]; exact ht)
    have n96' : q_n (q_hour false (q_th W k).1).1 96 = q_n W 96 := by rw [q_n_eq ((q_hour_ok (tr := false) (hy.ch ok.1) ok.2.1).1 96 (by unfold mvI; omega))]; exact n96
    have pb := (pa.2 t (by rw [n96']; exact ht)).1
    show ∃ c, c ≤ k + 1 ∧ (q_hour false (q_th W k).1).1 (24 + 10 * t) = _ ∧ _
    rw [Nat.testBit_or, c3, pb]
    rcases hc with ⟨g1, g2⟩ | ⟨g1, g2⟩
    · refine ⟨c, by omega, by rw [g2, c2], ?_⟩
      have e01 : decide (nI 0 = nI 1) = false := by decide +kernel
      rw [g1, e01, Bool.or_false]
    · refine ⟨c + 1, by omega, by rw [g2, c2, Int32.add_assoc, nI_add], ?_⟩
      rw [g1, decide_eq_true rfl, Bool.or_true, decide_eq_true (by omega)]
theorem c_think (hD : 7 ≤ D) {N : Nat} (hN : N ≤ 99) (h : CX M 10 (M 179)) : Sq X D 279 [.inr (.inl 0), .inl (nI N)] (Gk n tot kn kx) M (fun _ M' => TkP M (M 179) N M') :=
  Sq.mk (k := 6) hD (fun D' hD' => by
    refine Lq.of (t_279_0_ok X (callw X D') n tot kn kx _ M) ?_
    unfold t_279_0
    refine Wq.call (c_mcopy_87_10 (show 3 ≤ D' by omega)) ?_
    rintro x M1 ⟨f1, _, g1⟩
    refine Wq.call (c_begin (show 1 ≤ D' by omega)) ?_
    rintro y M2 ⟨f2, b0, b1, b2, b3, b4⟩
    rw [Wq_jmp, o_nI]
    have ff : Fr [87, 88, 89, 90, 91, 92, 93, 121, 122, 123] M M2 := (f1.mono (by decide)).tr (f2.mono (by decide))
    have hb := h.2.2.1.1.1.2
    have t0 : TkP M (M 179) 0 M2 := ⟨⟨h.1.fr ff (by decide) h.2.2.1.1, (g1 _ h.2.1).fr f2 (by decide), h.2.2⟩, ff, b0, b1, b2, b3, 0, by decide, b4, fun t ht => ⟨0, Nat.le_refl 0, by show M 179 (24 + 10 * t) = M 179 (24 + 10 * t) + 0; rw [Int32.add_zero], by rw [Nat.zero_testBit]; rfl⟩⟩
    have loop : ∀ (c k : Nat) (M3 : MMw), k + c = N → TkP M (M 179) k M3 → Lq X (callw X D') 279 23 [some (.inr (.inl 0)), some (.inl (nI N)), some (.inl (nI k))] (Gk n tot kn kx) M3 (fun _ M' => TkP M (M 179) N M') := by
      intro c
      induction c with
      | zero =>
        intro k M3 hk h3
        refine Lq.of (t_279_23_ok X (callw X D') n tot kn kx _ _ M3) ?_
        unfold t_279_23
        rw [if_neg (by rw [lt_i (by omega) (by omega)]; omega), Wq_ret]
        rw [show k = N by omega] at h3
        exact h3
      | succ c ih =>
        intro k M3 hk h3
        refine Lq.of (t_279_23_ok X (callw X D') n tot kn kx _ _ M3) ?_
        unfold t_279_23
        rw [if_pos (by rw [lt_i (by omega) (by omega)]; omega), o_nI]
        refine Wq.call (c_tk_pass hD' h.2.2.1 h.2.2.2 (by omega) h3) ?_
        rintro z M4 h4
        rw [Wq_jmp, i1_nI, nI_add]
        exact ih (k + 1) M4 (by omega) h4
    exact loop N 0 M2 (by omega) t0)
theorem m_aside (hD : 1 ≤ D) : Sq X D 276 [.inr (.inl 178)] (Gk n tot kn kx) M (fun _ M' => Fr [182] M M' ∧ ∀ k, k < 96 → M' 182 k = M 179 k) :=
  Sq.mk (k := 0) hD (fun D' hD' => by
    refine Lq.of (t_276_0_ok X (callw X D') n tot kn kx M) ?_
    unfold t_276_0
    rw [Wq_jmp, o_nI]
    have loop : ∀ (c k : Nat) (M1 : MMw), k + c = 96 → Fr [182] M M1 → (∀ i, i < k → M1 182 i = M 179 i) → Lq X (callw X D') 276 2 [some (.inr (.inl 178)), some (.inl (nI k))] (Gk n tot kn kx) M1 (fun _ M' => Fr [182] M M' ∧ ∀ k, k < 96 → M' 182 k = M 179 k) := by
      intro c
      induction c with
      | zero =>
        intro k M1 hk hf h1
        refine Lq.of (t_276_2_ok X (callw X D') n tot kn kx _ M1) ?_
        unfold t_276_2
        rw [o_nI, if_neg (by rw [lt_i (by omega) (by omega)]; omega), Wq_ret]
        exact ⟨hf, fun i hi => h1 i (by omega)⟩
      | succ c ih =>
        intro k M1 hk hf h1
        refine Lq.of (t_276_2_ok X (callw X D') n tot kn kx _ M1) ?_
        unfold t_276_2
        rw [o_nI, if_pos (by rw [lt_i (by omega) (by omega)]; omega), inb_nI (show k < 2834 by omega) (by decide), if_pos rfl, inb_nI (show k < 96 by omega) (by decide), if_pos rfl, nI_clamp (by omega), i1_nI, nI_add, Wq_jmp]
        refine ih (k + 1) _ (by omega) (hf.up (by decide)) ?_
        intro i hi
        rw [up_at]
        by_cases e : i = k
        · subst e; rw [upW_s, hf 179 (by decide)]
        · rw [upW_n e]; exact h1 i (by omega)
    exact loop 96 0 M (by decide) Fr.rf (fun i hi => absurd hi (Nat.not_lt_zero i)))
theorem m_back (hD : 1 ≤ D) : Sq X D 277 [.inr (.inl 178)] (Gk n tot kn kx) M (fun _ M' => Fr [179] M M' ∧ M' 179 = fun k => if k < 96 then M 182 k else M 179 k) :=
  Sq.mk (k := 0) hD (fun D' hD' => by
    refine Lq.of (t_277_0_ok X (callw X D') n tot kn kx M) ?_
    unfold t_277_0
    rw [Wq_jmp, o_nI]
    have loop : ∀ (c k : Nat) (M1 : MMw), k + c = 96 → Fr [179] M M1 → M1 179 = (fun i => if i < k then M 182 i else M 179 i) → Lq X (callw X D') 277 2 [some (.inr (.inl 178)), some (.inl (nI k))] (Gk n tot kn kx) M1 (fun _ M' => Fr [179] M M' ∧ M' 179 = fun k => if k < 96 then M 182 k else M 179 k) := by
      intro c
      induction c with
      | zero =>
        intro k M1 hk hf h1
        refine Lq.of (t_277_2_ok X (callw X D') n tot kn kx _ M1) ?_
        unfold t_277_2
        rw [o_nI, if_neg (by rw [lt_i (by omega) (by omega)]; omega), Wq_ret]
        rw [show k = 96 by omega] at h1
        exact ⟨hf, h1⟩
      | succ c ih =>
        intro k M1 hk hf h1
        refine Lq.of (t_277_2_ok X (callw X D') n tot kn kx _ M1) ?_
        unfold t_277_2
        rw [o_nI, if_pos (by rw [lt_i (by omega) (by omega)]; omega), inb_nI (show k < 96 by omega) (by decide), if_pos rfl, inb_nI (show k < 2834 by omega) (by decide), if_pos rfl, nI_clamp (by omega), i1_nI, nI_add, Wq_jmp]
        refine ih (k + 1) _ (by omega) (hf.up (by decide)) ?_
        rw [up_at, h1, hf 182 (by decide)]
        funext i
        unfold upW
        by_cases e : i = k
        · subst e; rw [if_pos rfl, if_pos (Nat.lt_succ_self i)]
        · rw [if_neg e]
          dsimp only
          by_cases e2 : i < k
          · rw [if_pos e2, if_pos (by omega)]
          · rw [if_neg e2, if_neg (by omega)]
    exact loop 96 0 M (by decide) Fr.rf (by funext i; rw [if_neg (Nat.not_lt_zero i)]))
/-- the reference in thought: W stands in 182 -/
def TmP (M0 : MMw) (W : Nat → Int32) (W' : Nat → Int32) (M1 : MMw) : Prop := M1 179 = W' ∧ q_low W W' ∧ Fr [178, 179, 182, 187, 188] M0 M1 ∧ Fh M0 M1 ∧ ∀ k, k < 96 → M1 182 k = W k
theorem TmP.back {M0 M1 M2 : MMw} {W W' : Nat → Int32} (h : TmP M0 W W' M1) (hf : Fr [179] M1 M2) (h9 : M2 179 = fun k => if k < 96 then M1 182 k else M1 179 k) : M2 179 = W ∧ Fr [178, 179, 182, 187, 188] M0 M2 ∧ Fh M0 M2 := by
  obtain ⟨h1, h2, h3, h4, h5⟩ := h
  refine ⟨?_, h3.tr (hf.mono (by decide)), h4.tr (Fh.of (hf 178 (by decide)))⟩
  rw [h9]
  funext k
  by_cases hk : k < 96
  · rw [if_pos hk]; exact h5 k hk
  · rw [if_neg hk, h1]; exact h2 k (by omega)
theorem Rl.thought {len s : Nat} {M M1 M2 : MMw} (h : Rl kn len s M) (f1 : Fr [87, 88, 89, 90, 91, 92, 93, 121, 122, 123] M M1) (f2 : Fr [178, 179, 182, 187, 188] M1 M2) (hh : Fh M1 M2) (h9 : M2 179 = M 179) : Rl kn len s M2 := by
  have ff : Fr [87, 88, 89, 90, 91, 92, 93, 121, 122, 123, 178, 179, 182, 187, 188] M M2 := (f1.mono (by decide)).tr (f2.mono (by decide))
  have e8 : ∀ k, k < 27 ∨ 30 < k → M2 178 k = M 178 k := fun k hk => by rw [hh k hk, f1 178 (by decide)]
  refine h.query ⟨by rw [h9]; exact h.1.1.fr ff (by decide), ?_⟩ h9 (Stat.of2 ff (by decide) (by rw [ff 0 (by decide)]) (fun k hk => e8 k (by omega))) ⟨fun c hc => ff c (by simp; omega), by rw [ff 0 (by decide)], by rw [ff 0 (by decide)], e8 4 (by omega)⟩
  have := h.1.2
  rw [h9]
  unfold CRbook at this ⊢
  rw [ff 43 (by decide)]; exact this
theorem m_tm_hour (hD : 8 ≤ D) {M0 : MMw} {W : Nat → Int32} {C0 C1 : Nat → Int32} (hy : q_invY W) (hm : q_invM W) (hl0 : q_law W 0 C0) (hl1 : q_law W 1 C1) {k : Nat} (h : TmP M0 W (q_th W k).1 M) : Sq X D 96 [.inr (.inl 178), .inl (nI 0)] (Gk n tot kn kx) M (fun x M' => x = nI (q_hour false (q_th W k).1).2.2.2.1 ∧ TmP M0 W (q_th W (k + 1)).1 M' ∧ M' 178 27 = q_first (M 178 27) (q_hour false (q_th W k).1).2.2.2.2 ∧ M' 178 28 = q_fhour (M 178 27) (M 178 28) ((q_th W k).1 0) (q_hour false (q_th W k).1).2.2.2.2 ∧ M' 178 29 = M 178 29 + nI (q_hour false (q_th W k).1).2.2.1) := by
  obtain ⟨h1, h2, h3, h4, h5⟩ := h
  have ok := q_th_ok hy hm k
  have lo := q_hour_low (hy.ch ok.1) ok.2.1
  refine Sq.mono (m_anHour (tr := false) (C0 := C0) (C1 := C1) hD (by rw [h1]; exact hl0.ch (by decide) ok.1) (by rw [h1]; exact hl1.ch (by decide) ok.1) (by rw [h1]; exact hy.ch ok.1) (by rw [h1]; exact ok.2.1)) ?_
  rintro x M' ⟨g1, g2, g3, g4, g5, g6, g7⟩
  rw [h1] at g1 g2 g5 g6 g7
  exact ⟨g1, ⟨g2, h2.tr lo, h3.tr (g3.mono (by decide)), h4.tr g4, fun k hk => by rw [g3 182 (by decide)]; exact h5 k hk⟩, g5, g6, g7⟩
end
