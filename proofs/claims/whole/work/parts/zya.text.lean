section
-- needs: puts
/-! texts: the class's tellings, the reference's readings -/
variable {X : KXw} {n tot kn D : Nat} {kx : Nat → Nat × Nat} {M : MMw}
abbrev TxL (c : Nat) : Prop := c = 0 ∨ c = 15 ∨ (17 ≤ c ∧ c ≤ 42) ∨ (95 ≤ c ∧ c ≤ 119) ∨ c = 178 ∨ c = 179 ∨ (183 ≤ c ∧ c ≤ 186)
theorem Rl.txt {kn len s : Nat} {M M' : MMw} (h : Rl kn len s M) (e : ∀ c, ¬ TxL c → M' c = M c) (e02 : M' 0 2 = M 0 2) (e5 : M' 178 5 = M 178 5) (hX : RlX M') (hB : RlB M') (hT : RlT M') : Rl kn len s M' := by
  refine ⟨hX, ?_, hB, hT, ?_⟩
  · obtain ⟨i1, i2⟩ := h.2.1
    unfold RlI
    rw [e5, e02]
    refine ⟨i1, ?_⟩
    rcases i2 with i2 | ⟨i2, i3, i4, i5, i6, i7⟩
    · exact Or.inl i2
    · rw [e 180 (by unfold TxL; omega)]
      refine Or.inr ⟨i2, i3.ch (fun d hd => e d (by unfold Yp at hd; unfold TxL; omega)) sameY.rf i6.1, ?_, ?_, i6, i7⟩
      · obtain ⟨m1, m2, m3, m4, b1, b2, b3, b4, b5, b6⟩ := i4
        have g : ∀ d, 53 ≤ d → d ≤ 59 → M' d = M d := fun d h1 h2 => e d (by unfold TxL; omega)
        rw [← g _ (by omega) (by omega)] at m1 m2 m3 m4 b1 b2 b3 b4 b5 b6
        exact ⟨m1, m2, m3, m4, b1, b2, b3, b4, b5, b6⟩
      · unfold CRbook at i5 ⊢
        rw [e 86 (by unfold TxL; omega)]
        exact i5
  · obtain ⟨p1, p2, p3⟩ := h.2.2.2.2
    refine ⟨p1, by rw [e 124 (by unfold TxL; omega)]; exact p2, ?_⟩
    rw [e kn (by unfold TxL; omega)]
    exact p3
/-- a law as the class has it -/
def LaC (M : MMw) (P : Nat) (lx : List LnT) (ox : List (Nat × Nat)) : Prop := M P 0 = nI lx.length ∧ (∀ (j : Nat) (q : LnT), lx[j]? = some q → M (P + 1) j = nI q.2.2.2 ∧ M (P + 2) j = nI q.1 ∧ M (P + 3) j = nI q.2.1 ∧ M (P + 4) j = nI q.2.2.1) ∧ ∀ (j : Nat) (op : Nat × Nat), ox[j]? = some op → M (P + 5) j = nI (k_code op)
def TlQ (tp : Nat → Nat) (L P : Nat) (M : MMw) (r : RzW) (x : Int32) (M' : MMw) : Prop := match r with
  | .inl (a, i) => x = -1 ∧ Fr [95, 100, 101, 102, 103, 104, 105] M M' ∧ FtC tp L a i M'
  | .inr (lx, ox) => x = nI lx.length ∧ Fr [95, 100, 101, 102, 103, 104, 105, P, P + 1, P + 2, P + 3, P + 4, P + 5] M M' ∧ LaC M' P lx ox ∧ M' 95 2 = nI 0 ∧ M' 95 3 = -1
def RlQ (tp : Nat → Nat) (L : Nat) (M : MMw) (r : RzW) (x : Int32) (M' : MMw) : Prop := match r with
  | .inl (a, i) => x = nI 0 ∧ MF3 M M' ∧ FtM tp L a i M'
  | .inr (lx, ox) => x = nI 1 ∧ MF3 M M' ∧ StM M' ox ∧ LnM M' lx ∧ M' 178 13 = nI lx.length
theorem nil_at {α : Type} {j : Nat} {p : α} (h : ([] : List α)[j]? = some p) : False := by cases h
theorem J_tell31 {tp : Nat → Nat} {L ct rd : Nat} (hx : TxP tp L ct) (hrd : rd < 2) : ∃ r : RzW,
    (∀ (D : Nat) (M : MMw), 23 ≤ D → ClT tp L ct M 0 → Sq X D 135 [.inr (.inl 95), .inr (.inl 31), .inl (nI rd)] (Gk n tot kn kx) M (TlQ tp L 31 M r)) ∧
    (∀ (D : Nat) (M : MMw), 41 ≤ D → MdT tp L rd M 0 → Sq X D 168 [.inr (.inl 178)] (Gk n tot kn kx) M (RlQ tp L M r)) ∧
    match r with | .inl _ => True | .inr (lx, ox) => lx.length ≤ 16 ∧ ox.length ≤ 400 ∧ GoLs rd ox lx := by
  have hct := hx.2.2.1
  obtain ⟨r, a1, a2, a3⟩ := J_law31 (X := X) (n := n) (tot := tot) (kn := kn) (kx := kx) hx hrd ct 0 0 0 (by omega) (by omega) (by omega) (by omega)
  refine ⟨r, fun D M hD hC => ?_, fun D M hD hM => ?_, ?_⟩
  · refine Sq.mk (k := 22) hD (fun D' hD' => ?_)
    refine Lq.of (t_135_p95_p31_0_ok X (callw X D') n tot kn kx _ M) ?_
    unfold t_135_p95_p31_0
    rw [Wq_jmp, o_nI]
    have hC1 : ClT tp L ct (up (up M 100 0 (nI 0)) 100 1 (nI 0)) 0 := (hC.ne (by decide)).ne (by decide)
    have hA : LwC (up (up M 100 0 (nI 0)) 100 1 (nI 0)) [] := ⟨by rw [up_at, upW_s]; rfl, fun j op h => (nil_at h).elim⟩
    have hL : LnC (up (up M 100 0 (nI 0)) 100 1 (nI 0)) [] := ⟨by rw [up_at, upW_n (by decide), up_at, upW_s]; rfl, fun j q h => (nil_at h).elim⟩
    have f0 : Fr [95, 100, 101, 102, 103, 104, 105] M (up (up M 100 0 (nI 0)) 100 1 (nI 0)) := (Fr.rf.up (by decide)).up (by decide)
    refine a1 D' [] [] _ _ hD' hC1 hA hL rfl rfl ?_
    rcases r with ⟨a, i⟩ | ⟨lx, ox⟩
    · exact fun M' g1 g2 => ⟨by rw [m1n], f0.tr g1.1, g2⟩
    · refine fun M' g1 g2 g3 g4 => ?_
      refine Wq.call (c_lcopy_31_100 (by omega)) ?_
      rintro y M2 ⟨f2, e0, e1, e2⟩
      have f2' : Fr [95, 100, 101, 102, 103, 104, 105, 31, 31 + 1, 31 + 2, 31 + 3, 31 + 4, 31 + 5] M' M2 := f2.mono (by decide)
      rw [f2 100 (by decide), Wq_ret, g3.1]
      have hlen : ([] ++ lx : List LnT).length = lx.length := rfl
      have hlen2 : ([] ++ ox : List (Nat × Nat)).length = ox.length := rfl
      refine ⟨rfl, ((f0.tr g1.1).mono (by decide)).tr f2', ⟨by rw [e0, g3.1]; rfl, fun j q hq => ?_, fun j op hj => ?_⟩, ?_⟩
      · have hj : j < 16 := by
          have := LnC.lt hq
          have := a3.1
          omega
        obtain ⟨q1, q2, q3, q4⟩ := g3.2 j q hq
        rw [e1 1 (by decide) (by decide) j hj, e1 2 (by decide) (by decide) j hj, e1 3 (by decide) (by decide) j hj, e1 4 (by decide) (by decide) j hj]
        exact ⟨q1, q2, q3, q4⟩
      · have hj2 : j < 400 := by
          have h1 : j < ox.length := by
            rcases Nat.lt_or_ge j ox.length with hl | hl
            · exact hl
            · rw [List.getElem?_eq_none hl] at hj; cases hj
          have := a3.2.1
          omega
        rw [e2 j hj2]
        exact g2.2 j op hj
      · rw [f2 95 (by decide)]; exact g4
  · refine Sq.mk (k := 40) hD (fun D' hD' => ?_)
    refine Lq.of (t_168_0_ok X (callw X D') n tot kn kx M) ?_
    unfold t_168_0
    rw [Wq_jmp, o_nI, o_nI]
    have f0 : MF3 M (up (up M 178 13 (nI 0)) 178 14 (nI 0)) := ⟨(Fr.rf.up (by decide)).up (by decide), fun f hf => by
      rw [up_at, upW_n (fun e => hf (by rw [e]; decide)), up_at, upW_n (fun e => hf (by rw [e]; decide))]⟩
    have hM1 : MdT tp L rd (up (up M 178 13 (nI 0)) 178 14 (nI 0)) 0 := by
      have h13 := hM.up13 (v := nI 0)
      obtain ⟨a1, a2, a3, a4, a5, a6⟩ := h13
      refine ⟨a1.f8 (F8.rf.up (fs := [14]) (by decide)) (by decide), ?_, ?_, ?_, ?_, fun hh => ?_⟩
      · rw [up_at, upW_n (by decide)]; exact a2
      · rw [up_at, upW_n (by decide)]; exact a3
      · rw [up_at, upW_n (by decide)]; exact a4
      · rw [up_at, upW_n (by decide)]; exact a5
      · rw [up_at, upW_n (by decide)]; exact a6 hh
    refine Lq.mono (a2 D' [] [] _ hD' hM1 ⟨by rw [up_at, upW_s]; rfl, fun j op h => (nil_at h).elim⟩ (fun j q h => (nil_at h).elim) (by rw [up_at, upW_n (by decide), up_at, upW_s]) rfl rfl) (fun x M' hq => ?_)
    rcases r with ⟨a, i⟩ | ⟨lx, ox⟩
    · obtain ⟨q1, q2, q3⟩ := hq
      exact ⟨q1, f0.tr q2, q3⟩
    · obtain ⟨q1, q2, q3, q4, q5⟩ := hq
      exact ⟨q1, f0.tr q2, q3, q4, q5⟩
  · rcases r with ⟨a, i⟩ | ⟨lx, ox⟩
    · trivial
    · obtain ⟨d1, d2, d3⟩ := a3
      exact ⟨by omega, by omega, d3 [] [] rfl rfl (fun j q h => (nil_at h).elim)⟩
theorem J_tell37 {tp : Nat → Nat} {L ct rd : Nat} (hx : TxP tp L ct) (hrd : rd < 2) : ∃ r : RzW,
    (∀ (D : Nat) (M : MMw), 23 ≤ D → ClT tp L ct M 0 → Sq X D 135 [.inr (.inl 95), .inr (.inl 37), .inl (nI rd)] (Gk n tot kn kx) M (TlQ tp L 37 M r)) ∧
    (∀ (D : Nat) (M : MMw), 41 ≤ D → MdT tp L rd M 0 → Sq X D 168 [.inr (.inl 178)] (Gk n tot kn kx) M (RlQ tp L M r)) ∧
    match r with | .inl _ => True | .inr (lx, ox) => lx.length ≤ 16 ∧ ox.length ≤ 400 ∧ GoLs rd ox lx := by
  have hct := hx.2.2.1
  obtain ⟨r, a1, a2, a3⟩ := J_law37 (X := X) (n := n) (tot := tot) (kn := kn) (kx := kx) hx hrd ct 0 0 0 (by omega) (by omega) (by omega) (by omega)
  refine ⟨r, fun D M hD hC => ?_, fun D M hD hM => ?_, ?_⟩
  · refine Sq.mk (k := 22) hD (fun D' hD' => ?_)
    refine Lq.of (t_135_p95_p37_0_ok X (callw X D') n tot kn kx _ M) ?_
    unfold t_135_p95_p37_0
    rw [Wq_jmp, o_nI]
    have hC1 : ClT tp L ct (up (up M 100 0 (nI 0)) 100 1 (nI 0)) 0 := (hC.ne (by decide)).ne (by decide)
    have hA : LwC (up (up M 100 0 (nI 0)) 100 1 (nI 0)) [] := ⟨by rw [up_at, upW_s]; rfl, fun j op h => (nil_at h).elim⟩
    have hL : LnC (up (up M 100 0 (nI 0)) 100 1 (nI 0)) [] := ⟨by rw [up_at, upW_n (by decide), up_at, upW_s]; rfl, fun j q h => (nil_at h).elim⟩
    have f0 : Fr [95, 100, 101, 102, 103, 104, 105] M (up (up M 100 0 (nI 0)) 100 1 (nI 0)) := (Fr.rf.up (by decide)).up (by decide)
    refine a1 D' [] [] _ _ hD' hC1 hA hL rfl rfl ?_
    rcases r with ⟨a, i⟩ | ⟨lx, ox⟩
    · exact fun M' g1 g2 => ⟨by rw [m1n], f0.tr g1.1, g2⟩
    · refine fun M' g1 g2 g3 g4 => ?_
      refine Wq.call (c_lcopy_37_100 (by omega)) ?_
      rintro y M2 ⟨f2, e0, e1, e2⟩
      have f2' : Fr [95, 100, 101, 102, 103, 104, 105, 37, 37 + 1, 37 + 2, 37 + 3, 37 + 4, 37 + 5] M' M2 := f2.mono (by decide)
      rw [f2 100 (by decide), Wq_ret, g3.1]
      have hlen : ([] ++ lx : List LnT).length = lx.length := rfl
      have hlen2 : ([] ++ ox : List (Nat × Nat)).length = ox.length := rfl
      refine ⟨rfl, ((f0.tr g1.1).mono (by decide)).tr f2', ⟨by rw [e0, g3.1]; rfl, fun j q hq => ?_, fun j op hj => ?_⟩, ?_⟩
      · have hj : j < 16 := by
          have := LnC.lt hq
          have := a3.1
          omega
        obtain ⟨q1, q2, q3, q4⟩ := g3.2 j q hq
        rw [e1 1 (by decide) (by decide) j hj, e1 2 (by decide) (by decide) j hj, e1 3 (by decide) (by decide) j hj, e1 4 (by decide) (by decide) j hj]
        exact ⟨q1, q2, q3, q4⟩
      · have hj2 : j < 400 := by
          have h1 : j < ox.length := by
            rcases Nat.lt_or_ge j ox.length with hl | hl
            · exact hl
            · rw [List.getElem?_eq_none hl] at hj; cases hj
          have := a3.2.1
          omega
        rw [e2 j hj2]
        exact g2.2 j op hj
      · rw [f2 95 (by decide)]; exact g4
  · refine Sq.mk (k := 40) hD (fun D' hD' => ?_)
    refine Lq.of (t_168_0_ok X (callw X D') n tot kn kx M) ?_
    unfold t_168_0
    rw [Wq_jmp, o_nI, o_nI]
    have f0 : MF3 M (up (up M 178 13 (nI 0)) 178 14 (nI 0)) := ⟨(Fr.rf.up (by decide)).up (by decide), fun f hf => by
      rw [up_at, upW_n (fun e => hf (by rw [e]; decide)), up_at, upW_n (fun e => hf (by rw [e]; decide))]⟩
    have hM1 : MdT tp L rd (up (up M 178 13 (nI 0)) 178 14 (nI 0)) 0 := by
      have h13 := hM.up13 (v := nI 0)
      obtain ⟨a1, a2, a3, a4, a5, a6⟩ := h13
      refine ⟨a1.f8 (F8.rf.up (fs := [14]) (by decide)) (by decide), ?_, ?_, ?_, ?_, fun hh => ?_⟩
      · rw [up_at, upW_n (by decide)]; exact a2
      · rw [up_at, upW_n (by decide)]; exact a3
      · rw [up_at, upW_n (by decide)]; exact a4
      · rw [up_at, upW_n (by decide)]; exact a5
      · rw [up_at, upW_n (by decide)]; exact a6 hh
    refine Lq.mono (a2 D' [] [] _ hD' hM1 ⟨by rw [up_at, upW_s]; rfl, fun j op h => (nil_at h).elim⟩ (fun j q h => (nil_at h).elim) (by rw [up_at, upW_n (by decide), up_at, upW_s]) rfl rfl) (fun x M' hq => ?_)
    rcases r with ⟨a, i⟩ | ⟨lx, ox⟩
    · obtain ⟨q1, q2, q3⟩ := hq
      exact ⟨q1, f0.tr q2, q3⟩
    · obtain ⟨q1, q2, q3, q4, q5⟩ := hq
      exact ⟨q1, f0.tr q2, q3, q4, q5⟩
  · rcases r with ⟨a, i⟩ | ⟨lx, ox⟩
    · trivial
    · obtain ⟨d1, d2, d3⟩ := a3
      exact ⟨by omega, by omega, d3 [] [] rfl rfl (fun j q h => (nil_at h).elim)⟩
/-- the law that was told stands well on both sides -/
theorem law_new {W' : Nat → Int32} {k P : Nat} {lx : List LnT} {ox : List (Nat × Nat)} (hk : k < 2) (hl : lx.length ≤ 16) (ho : ox.length ≤ 400) (hg : GoLs k ox lx) (w100 : W' (100 + k) = nI lx.length)
    (wl : ∀ (j : Nat) (q : LnT), lx[j]? = some q → W' (266 + 16 * k + j) = nI q.1 ∧ W' (298 + 16 * k + j) = nI q.2.1 ∧ W' (330 + 16 * k + j) = nI q.2.2.1 ∧ W' (362 + 16 * k + j) = nI (q.2.2.2 - 80))
    (ws : ∀ (j : Nat) (op : Nat × Nat), ox[j]? = some op → StO op (W' (394 + 820 * k + 2 * j)) (W' (394 + 820 * k + 2 * j + 1))) (hc : LaC M P lx ox) : CRlaw M P W' k := by
  obtain ⟨c0, cl, cs⟩ := hc
  have get : ∀ i, i < lx.length → ∃ q, lx[i]? = some q := fun i hi => ⟨lx[i], List.getElem?_eq_getElem hi⟩
  have en : q_n W' (100 + k) = lx.length := q_n_of w100 (by omega)
  refine ⟨by rw [c0, w100], fun i hi => ?_, lx.length, hl, w100, fun i hi => ?_⟩
  · rw [en] at hi
    obtain ⟨q, hq⟩ := get i hi
    obtain ⟨a1, a2, a3, a4⟩ := cl i q hq
    obtain ⟨b1, b2, b3, b4⟩ := wl i q hq
    obtain ⟨_, _, _, g4, _, _⟩ := hg i q hq
    have h80 : 80 ≤ q.2.2.2 := by unfold OkW at g4; omega
    rw [a1, a2, a3, a4, b1, b2, b3, b4, nI_add, Nat.sub_add_cancel h80]
    exact ⟨rfl, rfl, rfl, rfl⟩
  · obtain ⟨q, hq⟩ := get i hi
    obtain ⟨b1, b2, b3, b4⟩ := wl i q hq
    obtain ⟨g1, g2, g3, g4, g5, g6⟩ := hg i q hq
    have hS : ∀ (j : Nat) (op : Nat × Nat), ox[j]? = some op → StO op (q_S W' k j).1 (q_S W' k j).2 ∧ M (P + 5) j = nI (k_code op) := fun j op hj => ⟨ws j op hj, cs j op hj⟩
    refine ⟨q.1, q.2.1, q.2.2.1, q.2.2.2 - 80, g1, g2, by omega, b1, b2, b3, b4, fun e => ?_, fun e => ?_, fun e => (g5 e).wf hS, fun e => (g6 e).wf hS⟩
    · unfold OkW at g4; omega
    · unfold OkW at g4; omega
end
