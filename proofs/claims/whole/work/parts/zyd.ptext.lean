section
-- needs: told
/-! the text on both sides -/
variable {X : KXw} {n tot kn D : Nat} {kx : Nat → Nat × Nat} {M : MMw}
theorem Rl.hull {kn len s : Nat} {M M' : MMw} {L' : List Nat} {wx : List WkT} (h : Rl kn len s M) (hf : Fr L' M M') (hL : ∀ d, d ∈ L' → d = 0 ∨ d = 15 ∨ (17 ≤ d ∧ d ≤ 22) ∨ d = 25 ∨ d = 95 ∨ (97 ≤ d ∧ d ≤ 99) ∨ (106 ≤ d ∧ d ≤ 109) ∨ d = 178 ∨ d = 179 ∨ d = 185) (hm : TxN M M') (c1 : M' 95 1 = nI 0) (c2 : M' 95 2 = nI 0) (c3 : M' 95 3 = -1) (hw : HlW M M' wx) (hc : HlN M M' wx) (hg : GdH 0 (.inr wx)) : Rl kn len s M' := by
  obtain ⟨m4, m5, m16, m23, m25⟩ := hm
  obtain ⟨w1, w2, w3, w4, w5, w6⟩ := hw
  obtain ⟨n1, n2, n3, n4, n5, n6, n7⟩ := hc
  have hl : wx.length ≤ 8 := by have := hg.1; omega
  have hgd := hg.2
  have g : ∀ d, ¬ (d = 0 ∨ d = 15 ∨ (17 ≤ d ∧ d ≤ 22) ∨ d = 25 ∨ d = 95 ∨ (97 ≤ d ∧ d ≤ 99) ∨ (106 ≤ d ∧ d ≤ 109) ∨ d = 178 ∨ d = 179 ∨ d = 185) → M' d = M d := fun d hd => hf d (fun hl => hd (hL d hl))
  have w : ∀ i, ¬ (i = 98 ∨ i = 99 ∨ i = 104 ∨ (142 ≤ i ∧ i < 166) ∨ (8 ≤ i ∧ i < 16)) → M' 179 i = M 179 i := fun i hi => w6 i (by omega) (by omega) (by omega) (by omega) (by omega)
  obtain ⟨⟨⟨y1, y2, y3, y4, y5⟩, ym, iy, im⟩, yb⟩ := id h.1
  have l98 := q_lt_of (k := 9) w1 (by omega) (by decide)
  have l99 := q_lt_of (k := 21) w2 (by decide) (by decide)
  have l104 := q_lt_of (k := 13) w3 (by decide) (by decide)
  have get : ∀ i, i < wx.length → ∃ q, wx[i]? = some q := fun i hi => ⟨wx[i], List.getElem?_eq_getElem hi⟩
  have works : ∀ i, i < wx.length → q_lt (M' 179) (142 + 3 * i) 4 ∧ q_lt (M' 179) (143 + 3 * i) 4 ∧ 1 ≤ q_n (M' 179) (143 + 3 * i) ∧ q_lt (M' 179) (144 + 3 * i) (2 ^ i) := fun i hi => by
    obtain ⟨q, hq⟩ := get i hi
    obtain ⟨a1, a2, a3⟩ := w4 i q hq
    obtain ⟨b1, b2, b3, b4⟩ := hgd i q hq
    have h2 : 2 ^ i ≤ 2 ^ 8 := Nat.pow_le_pow_right (by decide) (by omega)
    have b4' : q.2.2 < 2 ^ i := by rw [Nat.zero_add] at b4; exact b4
    have p2 := q_lt_of (k := 4) a2 (by omega) (by decide)
    exact ⟨(q_lt_of a1 b1 (by decide)).1, p2.1, by rw [p2.2]; exact b2, (q_lt_of a3 b4' (Nat.le_trans h2 (by decide))).1⟩
  refine h.txt (fun c hc => g c (by unfold TxL at hc; omega)) (n7 2 (by decide)) m5 ⟨⟨⟨?_, ?_, ?_, ?_, ?_⟩, ?_, ?_, ?_⟩, ?_⟩ ?_ (RlT.none m16 m23 m25 c1 c2 c3)
  · exact y1.cg (fun d h1 h2 => g d (by omega)) (fun i hi => w i (by omega))
  · refine ⟨by rw [n1, w1], by rw [n2, w3], fun t ht => ?_, fun t ht => ?_, fun t ht => ?_, fun t ht => ?_, fun t ht => ?_⟩
    · rw [l98.2] at ht
      obtain ⟨q, hq⟩ := get t ht
      exact (n4 t q hq).1.trans (w4 t q hq).1.symm
    · rw [l98.2] at ht
      obtain ⟨q, hq⟩ := get t ht
      exact (n4 t q hq).2.1.trans (w4 t q hq).2.1.symm
    · rw [l98.2] at ht
      obtain ⟨q, hq⟩ := get t ht
      exact (n4 t q hq).2.2.trans (w4 t q hq).2.2.symm
    · rw [l104.2] at ht; exact absurd ht (Nat.not_lt_zero t)
    · rw [l104.2] at ht; exact absurd ht (Nat.not_lt_zero t)
  · refine ⟨by rw [n3, w2], fun t ht => ?_, fun t ht => ?_, fun t ht => ?_, fun t ht => ?_, fun t ht => ?_⟩
    all_goals (rw [l99.2] at ht; exact absurd ht (Nat.not_lt_zero t))
  · exact y4.cg (by decide) (fun d h1 h2 => g d (by omega)) (fun i hi => w i (by unfold LwX at hi; omega))
  · exact y5.cg (by decide) (fun d h1 h2 => g d (by omega)) (fun i hi => w i (by unfold LwX at hi; omega))
  · obtain ⟨m1, m2, m3, m4, b1, b2, b3, b4, b5, b6⟩ := ym
    refine ⟨?_, ?_, ?_, ?_, b1.ch (g _ (by omega)) (fun t ht => w _ (by omega)), b2.ch (g _ (by omega)) (fun t ht => w _ (by omega)), b3.ch (g _ (by omega)) (fun t ht => w _ (by omega)), b4.ch (g _ (by omega)) (fun t ht => w _ (by omega)), fun t ht => ?_, b6.ch (g _ (by omega)) (fun t ht => w _ (by omega))⟩
    · rw [g 10 (by omega), w 0 (by omega)]; exact m1
    · rw [g 10 (by omega), w 3 (by omega)]; exact m2
    · rw [g 10 (by omega), w 1 (by omega)]; exact m3
    · rw [g 10 (by omega), w 2 (by omega)]; exact m4
    · rw [Nat.one_mul, w5 t ht]; exact n5 t ht
  · refine iy.build (fun i hi => w i (by omega)) l98.1 l99.1 l104.1 (fun i hi => works i (by rw [l98.2] at hi; exact hi)) (fun j hj => ?_) (fun i hi => ?_)
    · rw [l104.2] at hj; exact absurd hj (Nat.not_lt_zero j)
    · rw [l99.2] at hi; exact absurd hi (Nat.not_lt_zero i)
  · obtain ⟨h1, h2, h3, h4, h5⟩ := im
    have e96 : q_n (M' 179) 96 = q_n (M 179) 96 := q_n_eq (w _ (by omega))
    refine ⟨q_lt_eq (w _ (by omega)) h1, q_lt_eq (w _ (by omega)) h2, fun b hb => q_lt_eq (w _ (by omega)) (h3 b hb), fun t ht => ?_, fun i hi => ?_⟩
    · obtain ⟨a, b, c⟩ := h4 t ht
      refine ⟨q_lt_eq (w _ (by omega)) a, q_lt_eq (w _ (by omega)) b, ?_⟩
      rw [e96, w (23 + 10 * t) (by omega)]; exact c
    · rw [l98.2] at hi
      obtain ⟨_, p2, p3, _⟩ := works i hi
      have z := q_lt_of (k := 4) (w5 i (by omega)) (by decide) (by decide)
      refine ⟨z.1, by omega, fun e => ?_⟩
      have e2 : q_n (M' 179) (8 + i) = q_n (M' 179) (143 + 3 * i) := by unfold q_n; rw [e]
      omega
  · unfold CRbook at yb ⊢
    exact yb.ch (g _ (by omega)) (fun t ht => w _ (by omega))
  · exact h.2.2.1.none n6 (n7 6 (by decide)) m4
theorem Rl.rota {kn len s : Nat} {M M' : MMw} {L' : List Nat} {rx : List DuT} (h : Rl kn len s M) (hf : Fr L' M M') (hL : ∀ d, d ∈ L' → d = 0 ∨ (25 ≤ d ∧ d ≤ 30) ∨ d = 95 ∨ (97 ≤ d ∧ d ≤ 99) ∨ (114 ≤ d ∧ d ≤ 119) ∨ d = 178 ∨ d = 179 ∨ d = 185) (hm : TxN M M') (c1 : M' 95 1 = nI 0) (c2 : M' 95 2 = nI 0) (c3 : M' 95 3 = -1) (hw : RtW M M' rx) (hc : RtN M M' rx) (hg : GdR (q_n (M 179) 96) (q_n (M 179) 97) (q_n (M 179) 98) 0 (.inr rx)) : Rl kn len s M' := by
  obtain ⟨m4, m5, m16, m23, m25⟩ := hm
  obtain ⟨w1, w4, w6⟩ := hw
  obtain ⟨n1, n4, n6, n7⟩ := hc
  have hl : rx.length ≤ 20 := by have := hg.1; omega
  have hgd := hg.2
  have g : ∀ d, ¬ (d = 0 ∨ (25 ≤ d ∧ d ≤ 30) ∨ d = 95 ∨ (97 ≤ d ∧ d ≤ 99) ∨ (114 ≤ d ∧ d ≤ 119) ∨ d = 178 ∨ d = 179 ∨ d = 185) → M' d = M d := fun d hd => hf d (fun hl => hd (hL d hl))
  have w : ∀ i, ¬ (i = 99 ∨ (166 ≤ i ∧ i < 266)) → M' 179 i = M 179 i := fun i hi => w6 i (by omega) (by omega)
  obtain ⟨⟨⟨y1, y2, y3, y4, y5⟩, ym, iy, im⟩, yb⟩ := id h.1
  obtain ⟨⟨t1, t2, t3, t4, t5⟩, j1, j2, j3, j4, j5, j6, j7⟩ := id iy
  have b96 := t1.2; have b97 := t2.2; have b98 := t3.2; have b104 := t5.2
  have k1 : q_n (M 179) 98 ≤ 8 := by omega
  have k2 : q_n (M 179) 104 ≤ 12 := by omega
  have e96 : q_n (M' 179) 96 = q_n (M 179) 96 := q_n_eq (w _ (by omega))
  have e97 : q_n (M' 179) 97 = q_n (M 179) 97 := q_n_eq (w _ (by omega))
  have e98 : q_n (M' 179) 98 = q_n (M 179) 98 := q_n_eq (w _ (by omega))
  have e104 : q_n (M' 179) 104 = q_n (M 179) 104 := q_n_eq (w _ (by omega))
  have l99 := q_lt_of (k := 21) w1 (by omega) (by decide)
  have get : ∀ i, i < rx.length → ∃ q, rx[i]? = some q := fun i hi => ⟨rx[i], List.getElem?_eq_getElem hi⟩
  refine h.txt (fun c hc => g c (by unfold TxL at hc; omega)) (n7 2 (by decide)) m5 ⟨⟨⟨?_, ?_, ?_, ?_, ?_⟩, ?_, ?_, ?_⟩, ?_⟩ ?_ (RlT.none m16 m23 m25 c1 c2 c3)
  · exact y1.cg (fun d h1 h2 => g d (by omega)) (fun i hi => w i (by omega))
  · exact y2.cg (fun d h1 h2 => g d (by omega)) (fun i hi => w i (by omega)) k1 k2
  · refine ⟨by rw [n1, w1], fun t ht => ?_, fun t ht => ?_, fun t ht => ?_, fun t ht => ?_, fun t ht => ?_⟩
    · rw [l99.2] at ht
      obtain ⟨q, hq⟩ := get t ht
      exact (n4 t q hq).1.trans (w4 t q hq).1.symm
    · rw [l99.2] at ht
      obtain ⟨q, hq⟩ := get t ht
      exact (n4 t q hq).2.1.trans (w4 t q hq).2.1.symm
    · rw [l99.2] at ht
      obtain ⟨q, hq⟩ := get t ht
      exact (n4 t q hq).2.2.1.trans (w4 t q hq).2.2.1.symm
    · rw [l99.2] at ht
      obtain ⟨q, hq⟩ := get t ht
      exact (n4 t q hq).2.2.2.1.trans (w4 t q hq).2.2.2.1.symm
    · rw [l99.2] at ht
      obtain ⟨q, hq⟩ := get t ht
      exact (n4 t q hq).2.2.2.2.trans (w4 t q hq).2.2.2.2.symm
  · exact y4.cg (by decide) (fun d h1 h2 => g d (by omega)) (fun i hi => w i (by unfold LwX at hi; omega))
  · exact y5.cg (by decide) (fun d h1 h2 => g d (by omega)) (fun i hi => w i (by unfold LwX at hi; omega))
  · obtain ⟨m1, m2, m3, m4, b1, b2, b3, b4, b5, b6⟩ := ym
    refine ⟨?_, ?_, ?_, ?_, b1.ch (g _ (by omega)) (fun t ht => w _ (by omega)), b2.ch (g _ (by omega)) (fun t ht => w _ (by omega)), b3.ch (g _ (by omega)) (fun t ht => w _ (by omega)), b4.ch (g _ (by omega)) (fun t ht => w _ (by omega)), b5.ch (g _ (by omega)) (fun t ht => w _ (by omega)), b6.ch (g _ (by omega)) (fun t ht => w _ (by omega))⟩
    · rw [g 10 (by omega), w 0 (by omega)]; exact m1
    · rw [g 10 (by omega), w 3 (by omega)]; exact m2
    · rw [g 10 (by omega), w 1 (by omega)]; exact m3
    · rw [g 10 (by omega), w 2 (by omega)]; exact m4
  · refine iy.build (fun i hi => w i (by omega)) (q_lt_eq (w _ (by omega)) t3) l99.1 (q_lt_eq (w _ (by omega)) t5) (fun i hi => ?_) (fun j hj => ?_) (fun i hi => ?_)
    · rw [e98] at hi
      obtain ⟨a, b, c, d⟩ := j5 i hi
      refine ⟨q_lt_eq (w _ (by omega)) a, q_lt_eq (w _ (by omega)) b, ?_, q_lt_eq (w _ (by omega)) d⟩
      rw [q_n_eq (w (143 + 3 * i) (by omega))]; exact c
    · rw [e104] at hj
      obtain ⟨a, b, c⟩ := j6 j hj
      rw [e98, q_n_eq (w (105 + 2 * j) (by omega)), q_n_eq (w (106 + 2 * j) (by omega))]
      exact ⟨q_lt_eq (w _ (by omega)) a, q_lt_eq (w _ (by omega)) b, c⟩
    · rw [l99.2] at hi
      obtain ⟨q, hq⟩ := get i hi
      obtain ⟨a1, a2, a3, a4, a5⟩ := w4 i q hq
      obtain ⟨d1, d2, d3, d4, d5, d6⟩ := hgd i q hq
      have p5 := q_lt_of (k := 100) a5 (by omega) (by decide)
      rw [e96, e97, e98]
      exact ⟨(q_lt_of a1 d1 (by omega)).1, (q_lt_of a2 d2 (by omega)).1, (q_lt_of a3 d3 (by omega)).1, (q_lt_of (k := 10000) a4 (by omega) (by decide)).1, p5.1, by rw [p5.2]; exact d5⟩
  · exact im.cg (fun i hi => w i (by omega)) k1
  · unfold CRbook at yb ⊢
    exact yb.ch (g _ (by omega)) (fun t ht => w _ (by omega))
  · exact h.2.2.1.none n6 (n7 6 (by decide)) m4

theorem P_text31 (hD : 70 ≤ D) {tp : Nat → Nat} {L ct len s : Nat} {y : Int32} {M1 : MMw} (h : Rl kn len s M) (hx : TxP tp L ct) (hT : TpM M tp L) (e1 : callw X D 123 [.inr (.inl 95)] (Gk n tot kn kx) M = some (y, Gk n tot kn kx, M1)) (f1 : Fr [95, 97, 98, 99] M M1) (hC : ClT tp L ct M1 0) : Pr X (D + 1) 146 177 [.inr (.inl 0), .inl (nI 0)] [.inr (.inl 178), .inl (nI 0)] (Gk n tot kn kx) M (Rl kn len s) := by
  obtain ⟨r, a1, a2, a3⟩ := J_tell31 (X := X) (n := n) (tot := tot) (kn := kn) (kx := kx) (rd := 0) hx (by decide)
  refine Pr.mk (c_lawText31 (by omega) e1 f1 hC (fun D M => a1 D M)) (fun x M3 hq => ?_)
  have hT3 : ∀ M3 : MMw, M3 178 = M 178 → M3 186 = M 186 → TpM M3 tp L := fun M3 e8 e9 => ⟨by rw [e8]; exact hT.1, fun i hi => by rw [e9]; exact hT.2 i hi⟩
  rcases r with ⟨a, i⟩ | ⟨lx, ox⟩
  · obtain ⟨rfl, f3, c1, c2, c3⟩ := hq
    refine Sq.mono (m_lawText (by omega) hx (by decide) (hT3 M3 (f3 178 (by decide)) (f3 186 (by decide))) a2 a3) ?_
    rintro z M4 ⟨rfl, f4, hm⟩
    unfold TxM at hm
    rw [f3 178 (by decide)] at hm
    have e95 : M4 95 = M3 95 := f4 95 (by decide)
    exact ⟨rfl, h.refused (L' := [95, 97, 98, 99, 100, 101, 102, 103, 104, 105, 178, 183, 184]) ((f3.mono (by decide)).tr (f4.mono (by decide))) (by decide) hm (by rw [e95]; exact c1) (by rw [e95]; exact c2) (by rw [e95]; exact c3)⟩
  · obtain ⟨rfl, f3, hc, c1, c2, c3⟩ := hq
    refine Sq.mono (m_lawText (by omega) hx (by decide) (hT3 M3 (f3 178 (by decide)) (f3 186 (by decide))) a2 a3) ?_
    rintro z M4 ⟨rfl, f4, hm, hw⟩
    unfold TxM at hm
    unfold LwW at hw
    rw [f3 178 (by decide)] at hm
    rw [f3 179 (by decide)] at hw
    unfold LaC at hc
    rw [← f4 31 (by decide), ← f4 (31 + 1) (by decide), ← f4 (31 + 2) (by decide), ← f4 (31 + 3) (by decide), ← f4 (31 + 4) (by decide), ← f4 (31 + 5) (by decide)] at hc
    have e95 : M4 95 = M3 95 := f4 95 (by decide)
    obtain ⟨b1, b2, b3⟩ := a3
    exact ⟨rfl, h.law31 (L' := [95, 97, 98, 99, 100, 101, 102, 103, 104, 105, 31, 32, 33, 34, 35, 36, 178, 179, 183, 184]) ((f3.mono (by decide)).tr (f4.mono (by decide))) (by decide) hm (by rw [e95]; exact c1) (by rw [e95]; exact c2) (by rw [e95]; exact c3) hw hc b1 b2 b3⟩

theorem P_text37 (hD : 70 ≤ D) {tp : Nat → Nat} {L ct len s : Nat} {y : Int32} {M1 : MMw} (h : Rl kn len s M) (hx : TxP tp L ct) (hT : TpM M tp L) (e1 : callw X D 123 [.inr (.inl 95)] (Gk n tot kn kx) M = some (y, Gk n tot kn kx, M1)) (f1 : Fr [95, 97, 98, 99] M M1) (hC : ClT tp L ct M1 0) : Pr X (D + 1) 146 177 [.inr (.inl 0), .inl (nI 1)] [.inr (.inl 178), .inl (nI 1)] (Gk n tot kn kx) M (Rl kn len s) := by
  obtain ⟨r, a1, a2, a3⟩ := J_tell37 (X := X) (n := n) (tot := tot) (kn := kn) (kx := kx) (rd := 1) hx (by decide)
  refine Pr.mk (c_lawText37 (by omega) e1 f1 hC (fun D M => a1 D M)) (fun x M3 hq => ?_)
  have hT3 : ∀ M3 : MMw, M3 178 = M 178 → M3 186 = M 186 → TpM M3 tp L := fun M3 e8 e9 => ⟨by rw [e8]; exact hT.1, fun i hi => by rw [e9]; exact hT.2 i hi⟩
  rcases r with ⟨a, i⟩ | ⟨lx, ox⟩
  · obtain ⟨rfl, f3, c1, c2, c3⟩ := hq
    refine Sq.mono (m_lawText (by omega) hx (by decide) (hT3 M3 (f3 178 (by decide)) (f3 186 (by decide))) a2 a3) ?_
    rintro z M4 ⟨rfl, f4, hm⟩
    unfold TxM at hm
    rw [f3 178 (by decide)] at hm
    have e95 : M4 95 = M3 95 := f4 95 (by decide)
    exact ⟨rfl, h.refused (L' := [95, 97, 98, 99, 100, 101, 102, 103, 104, 105, 178, 183, 184]) ((f3.mono (by decide)).tr (f4.mono (by decide))) (by decide) hm (by rw [e95]; exact c1) (by rw [e95]; exact c2) (by rw [e95]; exact c3)⟩
  · obtain ⟨rfl, f3, hc, c1, c2, c3⟩ := hq
    refine Sq.mono (m_lawText (by omega) hx (by decide) (hT3 M3 (f3 178 (by decide)) (f3 186 (by decide))) a2 a3) ?_
    rintro z M4 ⟨rfl, f4, hm, hw⟩
    unfold TxM at hm
    unfold LwW at hw
    rw [f3 178 (by decide)] at hm
    rw [f3 179 (by decide)] at hw
    unfold LaC at hc
    rw [← f4 37 (by decide), ← f4 (37 + 1) (by decide), ← f4 (37 + 2) (by decide), ← f4 (37 + 3) (by decide), ← f4 (37 + 4) (by decide), ← f4 (37 + 5) (by decide)] at hc
    have e95 : M4 95 = M3 95 := f4 95 (by decide)
    obtain ⟨b1, b2, b3⟩ := a3
    exact ⟨rfl, h.law37 (L' := [95, 97, 98, 99, 100, 101, 102, 103, 104, 105, 37, 38, 39, 40, 41, 42, 178, 179, 183, 184]) ((f3.mono (by decide)).tr (f4.mono (by decide))) (by decide) hm (by rw [e95]; exact c1) (by rw [e95]; exact c2) (by rw [e95]; exact c3) hw hc b1 b2 b3⟩

theorem P_textHull (hD : 70 ≤ D) {tp : Nat → Nat} {L ct len s : Nat} {y : Int32} {M1 : MMw} (h : Rl kn len s M) (hx : TxP tp L ct) (hT : TpM M tp L) (e1 : callw X D 123 [.inr (.inl 95)] (Gk n tot kn kx) M = some (y, Gk n tot kn kx, M1)) (f1 : Fr [95, 97, 98, 99] M M1) (hC : ClT tp L ct M1 0) : Pr X (D + 1) 146 177 [.inr (.inl 0), .inl (nI 2)] [.inr (.inl 178), .inl (nI 2)] (Gk n tot kn kx) M (Rl kn len s) := by
  obtain ⟨r, a1, a2, a3⟩ := J_hull (X := X) (n := n) (tot := tot) (kn := kn) (kx := kx) hx ct 0 0 (by omega) (by omega) (by omega)
  have hcl : Sq X (D + 1) 146 [.inr (.inl 0), .inl (nI 2)] (Gk n tot kn kx) M (fun x M' => ∃ M2, HtQ tp L M1 r x M2 ∧ M' = up M2 95 1 (nI 0)) := by
    refine Sq.of ?_
    refine Lq.of (t_146_0_ok X (callw X D) n tot kn kx _ M) ?_
    unfold t_146_0
    simp only [o_nI]
    rw [e1, bnd_some, if_neg (by decide), if_neg (by decide), if_pos trivial]
    refine Wq.call (c_tellHull (by omega) hC a3 (fun D ws M => a1 D ws M)) (fun x M2 hq => ?_)
    rw [Wq_ret]
    exact ⟨M2, hq, rfl⟩
  refine Pr.mk hcl ?_
  rintro x M3 ⟨M2, hq, rfl⟩
  have hT3 : ∀ M3 : MMw, M3 178 = M 178 → M3 186 = M 186 → TpM M3 tp L := fun M3 e8 e9 => ⟨by rw [e8]; exact hT.1, fun i hi => by rw [e9]; exact hT.2 i hi⟩
  rcases r with ⟨a, i⟩ | wx
  · obtain ⟨rfl, f2, c2, c3⟩ := hq
    have f3 : Fr [95, 97, 98, 99, 106, 107, 108, 109] M (up M2 95 1 (nI 0)) := ((f1.mono (by decide)).tr (f2.mono (by decide))).up (by decide)
    have x1 : (up M2 95 1 (nI 0)) 95 1 = nI 0 := by rw [up_at, upW_s]
    have x2 : (up M2 95 1 (nI 0)) 95 2 = nI a := by rw [up_at, upW_n (by decide)]; exact c2
    have x3 : (up M2 95 1 (nI 0)) 95 3 = nI (k_pl tp L i) := by rw [up_at, upW_n (by decide)]; exact c3
    revert f3 x1 x2 x3
    generalize up M2 95 1 (nI 0) = M3
    intro f3 x1 x2 x3
    refine Sq.mono (m_hullText (by omega) hx (hT3 M3 (f3 178 (by decide)) (f3 186 (by decide))) a3 (fun D ws M => a2 D ws M)) ?_
    rintro z M4 ⟨rfl, f4, hm⟩
    unfold TxM at hm
    rw [f3 178 (by decide)] at hm
    have e95 : M4 95 = M3 95 := f4 95 (by decide)
    exact ⟨rfl, h.refused (L' := [95, 97, 98, 99, 106, 107, 108, 109, 178, 185]) ((f3.mono (by decide)).tr (f4.mono (by decide))) (by decide) hm (by rw [e95]; exact x1) (by rw [e95]; exact x2) (by rw [e95]; exact x3)⟩
  · obtain ⟨rfl, f2, hc, c2, c3⟩ := hq
    have f3 : Fr [0, 15, 17, 18, 19, 20, 21, 22, 25, 95, 97, 98, 99, 106, 107, 108, 109] M (up M2 95 1 (nI 0)) := ((f1.mono (by decide)).tr (f2.mono (by decide))).up (by decide)
    have x1 : (up M2 95 1 (nI 0)) 95 1 = nI 0 := by rw [up_at, upW_s]
    have x2 : (up M2 95 1 (nI 0)) 95 2 = nI 0 := by rw [up_at, upW_n (by decide)]; exact c2
    have x3 : (up M2 95 1 (nI 0)) 95 3 = -1 := by rw [up_at, upW_n (by decide)]; exact c3
    have xc : HlN M (up M2 95 1 (nI 0)) wx := by
      unfold HlN at hc ⊢
      rw [f1 0 (by decide)] at hc
      rw [up_ne (by decide), up_ne (by decide), up_ne (by decide), up_ne (by decide), up_ne (by decide), up_ne (by decide), up_ne (by decide)]
      exact hc
    revert f3 x1 x2 x3 xc
    generalize up M2 95 1 (nI 0) = M3
    intro f3 x1 x2 x3 xc
    refine Sq.mono (m_hullText (by omega) hx (hT3 M3 (f3 178 (by decide)) (f3 186 (by decide))) a3 (fun D ws M => a2 D ws M)) ?_
    rintro z M4 ⟨rfl, f4, hm, hw⟩
    unfold TxN at hm
    unfold HlW at hw
    rw [f3 178 (by decide)] at hm
    rw [f3 179 (by decide)] at hw
    have e95 : M4 95 = M3 95 := f4 95 (by decide)
    have x4 : HlN M M4 wx := by
      unfold HlN at xc ⊢
      rw [f4 17 (by decide), f4 25 (by decide), f4 18 (by decide), f4 19 (by decide), f4 20 (by decide), f4 15 (by decide), f4 0 (by decide)]
      exact xc
    exact ⟨rfl, h.hull (L' := [0, 15, 17, 18, 19, 20, 21, 22, 25, 95, 97, 98, 99, 106, 107, 108, 109, 178, 179, 185]) ((f3.mono (by decide)).tr (f4.mono (by decide))) (by decide) hm (by rw [e95]; exact x1) (by rw [e95]; exact x2) (by rw [e95]; exact x3) hw x4 a3⟩

theorem P_textRota (hD : 70 ≤ D) {tp : Nat → Nat} {L ct len s : Nat} {y : Int32} {M1 : MMw} (h : Rl kn len s M) (hx : TxP tp L ct) (hT : TpM M tp L) (e1 : callw X D 123 [.inr (.inl 95)] (Gk n tot kn kx) M = some (y, Gk n tot kn kx, M1)) (f1 : Fr [95, 97, 98, 99] M M1) (hC : ClT tp L ct M1 0) : Pr X (D + 1) 146 177 [.inr (.inl 0), .inl (nI 3)] [.inr (.inl 178), .inl (nI 3)] (Gk n tot kn kx) M (Rl kn len s) := by
  obtain ⟨t1, t2, t3, t4, t5⟩ := id h.1.1.2.2.1.1
  have b96 := t1.2; have b97 := t2.2; have b98 := t3.2
  obtain ⟨r, a1, a2, a3⟩ := J_rota (X := X) (n := n) (tot := tot) (kn := kn) (kx := kx) (T := q_n (M 179) 96) (N := q_n (M 179) 97) (W := q_n (M 179) 98) hx (by omega) (by omega) (by omega) ct 0 0 (by omega) (by omega) (by omega)
  have hNc : NmC M1 (q_n (M 179) 96) (q_n (M 179) 97) (q_n (M 179) 98) := by
    unfold NmC
    rw [f1 2 (by decide), f1 17 (by decide)]
    exact ⟨h.1.1.1.1.1.trans t1.1, h.1.1.1.1.2.1.trans t2.1, h.1.1.1.2.1.1.trans t3.1⟩
  have hNm : ∀ M3 : MMw, M3 179 = M 179 → NmM M3 (q_n (M 179) 96) (q_n (M 179) 97) (q_n (M 179) 98) := fun M3 e => by
    unfold NmM
    rw [e]
    exact ⟨t1.1, t2.1, t3.1⟩
  have hcl : Sq X (D + 1) 146 [.inr (.inl 0), .inl (nI 3)] (Gk n tot kn kx) M (fun x M' => ∃ M2, RtQ tp L M1 r x M2 ∧ M' = up M2 95 1 (nI 0)) := by
    refine Sq.of ?_
    refine Lq.of (t_146_0_ok X (callw X D) n tot kn kx _ M) ?_
    unfold t_146_0
    simp only [o_nI]
    rw [e1, bnd_some, if_neg (by decide), if_neg (by decide), if_neg (by decide), if_pos trivial]
    refine Wq.call (c_tellRota (by omega) hC hNc a3 (fun D ws M => a1 D ws M)) (fun x M2 hq => ?_)
    rw [Wq_ret]
    exact ⟨M2, hq, rfl⟩
  refine Pr.mk hcl ?_
  rintro x M3 ⟨M2, hq, rfl⟩
  have hT3 : ∀ M3 : MMw, M3 178 = M 178 → M3 186 = M 186 → TpM M3 tp L := fun M3 e8 e9 => ⟨by rw [e8]; exact hT.1, fun i hi => by rw [e9]; exact hT.2 i hi⟩
  rcases r with ⟨a, i⟩ | wx
  · obtain ⟨rfl, f2, c2, c3⟩ := hq
    have f3 : Fr [95, 97, 98, 99, 114, 115, 116, 117, 118, 119] M (up M2 95 1 (nI 0)) := ((f1.mono (by decide)).tr (f2.mono (by decide))).up (by decide)
    have x1 : (up M2 95 1 (nI 0)) 95 1 = nI 0 := by rw [up_at, upW_s]
    have x2 : (up M2 95 1 (nI 0)) 95 2 = nI a := by rw [up_at, upW_n (by decide)]; exact c2
    have x3 : (up M2 95 1 (nI 0)) 95 3 = nI (k_pl tp L i) := by rw [up_at, upW_n (by decide)]; exact c3
    revert f3 x1 x2 x3
    generalize up M2 95 1 (nI 0) = M3
    intro f3 x1 x2 x3
    refine Sq.mono (m_rotaText (by omega) hx (hT3 M3 (f3 178 (by decide)) (f3 186 (by decide))) (hNm M3 (f3 179 (by decide))) a3 (fun D ws M => a2 D ws M)) ?_
    rintro z M4 ⟨rfl, f4, hm⟩
    unfold TxM at hm
    rw [f3 178 (by decide)] at hm
    have e95 : M4 95 = M3 95 := f4 95 (by decide)
    exact ⟨rfl, h.refused (L' := [95, 97, 98, 99, 114, 115, 116, 117, 118, 119, 178, 185]) ((f3.mono (by decide)).tr (f4.mono (by decide))) (by decide) hm (by rw [e95]; exact x1) (by rw [e95]; exact x2) (by rw [e95]; exact x3)⟩
  · obtain ⟨rfl, f2, hc, c2, c3⟩ := hq
    have f3 : Fr [0, 25, 26, 27, 28, 29, 30, 95, 97, 98, 99, 114, 115, 116, 117, 118, 119] M (up M2 95 1 (nI 0)) := ((f1.mono (by decide)).tr (f2.mono (by decide))).up (by decide)
    have x1 : (up M2 95 1 (nI 0)) 95 1 = nI 0 := by rw [up_at, upW_s]
    have x2 : (up M2 95 1 (nI 0)) 95 2 = nI 0 := by rw [up_at, upW_n (by decide)]; exact c2
    have x3 : (up M2 95 1 (nI 0)) 95 3 = -1 := by rw [up_at, upW_n (by decide)]; exact c3
    have xc : RtN M (up M2 95 1 (nI 0)) wx := by
      unfold RtN at hc ⊢
      rw [f1 0 (by decide)] at hc
      rw [up_ne (by decide), up_ne (by decide), up_ne (by decide), up_ne (by decide), up_ne (by decide), up_ne (by decide), up_ne (by decide)]
      exact hc
    revert f3 x1 x2 x3 xc
    generalize up M2 95 1 (nI 0) = M3
    intro f3 x1 x2 x3 xc
    refine Sq.mono (m_rotaText (by omega) hx (hT3 M3 (f3 178 (by decide)) (f3 186 (by decide))) (hNm M3 (f3 179 (by decide))) a3 (fun D ws M => a2 D ws M)) ?_
    rintro z M4 ⟨rfl, f4, hm, hw⟩
    unfold TxN at hm
    unfold RtW at hw
    rw [f3 178 (by decide)] at hm
    rw [f3 179 (by decide)] at hw
    have e95 : M4 95 = M3 95 := f4 95 (by decide)
    have x4 : RtN M M4 wx := by
      unfold RtN at xc ⊢
      rw [f4 25 (by decide), f4 26 (by decide), f4 27 (by decide), f4 28 (by decide), f4 29 (by decide), f4 30 (by decide), f4 0 (by decide)]
      exact xc
    exact ⟨rfl, h.rota (L' := [0, 25, 26, 27, 28, 29, 30, 95, 97, 98, 99, 114, 115, 116, 117, 118, 119, 178, 179, 185]) ((f3.mono (by decide)).tr (f4.mono (by decide))) (by decide) hm (by rw [e95]; exact x1) (by rw [e95]; exact x2) (by rw [e95]; exact x3) hw x4 a3⟩

theorem P_text (hD : 71 ≤ D) {v : Int32} {len s : Nat} (h : Rl kn len s M) : Pr X D 146 177 [.inr (.inl 0), .inl v] [.inr (.inl 178), .inl v] (Gk n tot kn kx) M (Rl kn len s) := by
  obtain ⟨t2, t3, L, hL, l1, l2, l3⟩ := id h.2.2.2.1
  obtain ⟨D', rfl⟩ : ∃ D', D = D' + 1 := ⟨D - 1, by omega⟩
  have hv : ∀ i, i < L → M 186 i = nI (q_n (M 186) i) ∧ q_n (M 186) i < 256 := fun i hi => by
    obtain ⟨v, v1, v2⟩ := (l3 i hi).2
    rw [q_n_of v2 (by omega)]
    exact ⟨v2, v1⟩
  have hTm : TpM M (fun i => q_n (M 186) i) L := ⟨l2, fun i hi => (hv i hi).1⟩
  have hTc : TpC M (fun i => q_n (M 186) i) L := ⟨l1, fun i hi => by rw [(l3 i hi).1]; exact (hv i hi).1⟩
  have hb : ∀ i, i < L → (fun i => q_n (M 186) i) i < 256 := fun i hi => (hv i hi).2
  revert hTm hTc hb
  generalize (fun i => q_n (M 186) i) = tp
  intro hTm hTc hb
  obtain ⟨y, M1, e1, f1, d1, d2, d3, d4, ct, hk⟩ := c_split (X := X) (n := n) (tot := tot) (kn := kn) (kx := kx) (D := D') (by omega) hL hb hTc
  have hx : TxP tp L ct := ⟨hL, hb, hk.1, hk.2.1, hk.2.2.1⟩
  have hC : ClT tp L ct M1 0 := ⟨⟨d3, d1, d2⟩, d4, hk⟩
  by_cases ok : q_in v 0 3 = true
  · obtain ⟨j, _, hj, rfl⟩ := q_in_t (by decide) (by decide) ok
    rcases (show j = 0 ∨ j = 1 ∨ j = 2 ∨ j = 3 by omega) with rfl | rfl | rfl | rfl
    · exact P_text31 (by omega) h hx hTm e1 f1 hC
    · exact P_text37 (by omega) h hx hTm e1 f1 hC
    · exact P_textHull (by omega) h hx hTm e1 f1 hC
    · exact P_textRota (by omega) h hx hTm e1 f1 hC
  · have no : ∀ j, j ≤ 3 → v ≠ nI j := fun j hj e => ok (by
      rw [e]
      rcases (show j = 0 ∨ j = 1 ∨ j = 2 ∨ j = 3 by omega) with rfl | rfl | rfl | rfl <;> decide)
    have ok := Bool.eq_false_iff.mpr ok
    have hcl : Sq X (D' + 1) 146 [.inr (.inl 0), .inl v] (Gk n tot kn kx) M (fun x M' => x = -1 ∧ M' = up M1 95 1 (nI 0)) := by
      refine Sq.of ?_
      refine Lq.of (t_146_0_ok X (callw X D') n tot kn kx _ M) ?_
      unfold t_146_0
      simp only [o_nI]
      rw [e1, bnd_some, if_neg (no 0 (by decide)), if_neg (no 1 (by decide)), if_neg (no 2 (by decide)), if_neg (no 3 (by decide)), Wq_ret, m1n]
      exact ⟨rfl, rfl⟩
    refine Pr.mk hcl ?_
    rintro x M3 ⟨rfl, rfl⟩
    have f3 : Fr [95, 97, 98, 99] M (up M1 95 1 (nI 0)) := f1.up (by decide)
    refine Sq.of ?_
    refine Lq.of (t_177_0_ok X (callw X D') n tot kn kx _ _) ?_
    unfold t_177_0
    simp only [o_nI]
    rw [m_in (by omega), bnd_some, ok, if_pos (by rfl), Wq_ret, m1n]
    refine ⟨rfl, h.refused (L' := [95, 97, 98, 99, 178]) (a := nI 0) (b := -1) ((((f3.mono (by decide)).up (by decide)).up (by decide)).up (by decide)) (by decide) ⟨?_, ?_, ?_, ?_, ?_⟩ ?_ ?_ ?_⟩
    · rw [up_at, upW_n (by decide), up_at, upW_n (by decide), up_at, upW_n (by decide), f3 178 (by decide)]
    · rw [up_at, upW_n (by decide), up_at, upW_n (by decide), up_at, upW_n (by decide), f3 178 (by decide)]
    · rw [up_at, upW_s]
    · rw [up_at, upW_n (by decide), up_at, upW_n (by decide), up_at, upW_s]
    · rw [up_at, upW_n (by decide), up_at, upW_s]
    · rw [up_ne (by decide), up_ne (by decide), up_ne (by decide), up_at, upW_s]
    · rw [up_ne (by decide), up_ne (by decide), up_ne (by decide), up_at, upW_n (by decide)]; exact d1
    · rw [up_ne (by decide), up_ne (by decide), up_ne (by decide), up_at, upW_n (by decide)]; exact d2
end
