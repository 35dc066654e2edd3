section
-- needs: text
/-! a text told: refused, or taken on both sides -/
variable {X : KXw} {n tot kn D : Nat} {kx : Nat → Nat × Nat} {M : MMw}
def TxM (M M' : MMw) (a b : Int32) : Prop := M' 178 4 = M 178 4 ∧ M' 178 5 = M 178 5 ∧ M' 178 16 = nI 0 ∧ M' 178 23 = a ∧ M' 178 25 = b
theorem m_text (hD : 43 ≤ D) {tp : Nat → Nat} {L ct rd cm : Nat} (hx : TxP tp L ct) (hrd : rd < 4) (hc : (rd < 2 ∧ cm = 168) ∨ (2 ≤ rd ∧ cm = 173)) (hT : TpM M tp L) {Q : Int32 → MMw → Prop}
    (hgo : ∀ (D' : Nat) (M4 : MMw), 42 ≤ D' → Fr [178] M M4 → (∀ f, f ∉ [12, 17, 18, 19, 20, 21, 23, 25] → M4 178 f = M 178 f) → M4 178 23 = nI 0 → M4 178 25 = -1 → MdT tp L rd M4 0 → ∃ Q1 : Int32 → MMw → Prop, Sq X D' cm [.inr (.inl 178)] (Gk n tot kn kx) M4 Q1 ∧ ∀ x M5, Q1 x M5 → Lq X (callw X D') 177 62 [some (.inr (.inl 178)), some (.inl (nI rd)), some (.inl x)] (Gk n tot kn kx) M5 Q) :
    Sq X D 177 [.inr (.inl 178), .inl (nI rd)] (Gk n tot kn kx) M Q :=
  Sq.mk (k := 42) hD (fun D' hD' => by
    refine Lq.of (t_177_0_ok X (callw X D') n tot kn kx _ M) ?_
    unfold t_177_0
    simp only [o_nI]
    have ok : q_in (nI rd) 0 3 = true := by
      rcases (show rd = 0 ∨ rd = 1 ∨ rd = 2 ∨ rd = 3 by omega) with rfl | rfl | rfl | rfl <;> decide
    have f0 : Fr [178] M (up (up (up (up (up M 178 23 (nI 0)) 178 25 (nI 4294967295)) 178 21 (nI 0)) 178 17 (nI 0)) 178 12 (nI rd)) := ((((Fr.rf.up (by decide)).up (by decide)).up (by decide)).up (by decide)).up (by decide)
    have e0 : ∀ f, f ∉ [12, 17, 21, 23, 25] → (up (up (up (up (up M 178 23 (nI 0)) 178 25 (nI 4294967295)) 178 21 (nI 0)) 178 17 (nI 0)) 178 12 (nI rd)) 178 f = M 178 f := fun f hf => by
      rw [up_at, upW_n (fun e => hf (by rw [e]; decide)), up_at, upW_n (fun e => hf (by rw [e]; decide)), up_at, upW_n (fun e => hf (by rw [e]; decide)), up_at, upW_n (fun e => hf (by rw [e]; decide)), up_at, upW_n (fun e => hf (by rw [e]; decide))]
    rw [m_in (by omega), bnd_some, ok, if_neg (by decide)]
    refine Wq.call (m_first (by omega) hx.1 hx.2.1 hrd ⟨?_, fun i hi => ?_⟩ ?_ ?_) ?_
    · rw [e0 16 (by decide)]; exact hT.1
    · rw [f0 186 (by decide)]; exact hT.2 i hi
    · rw [up_at, upW_s]
    · rw [up_at, upW_n (by decide), up_at, upW_s]
    rintro y M4 ⟨f4, hM4⟩
    have g4 : ∀ f, f ∉ [12, 17, 18, 19, 20, 21, 23, 25] → M4 178 f = M 178 f := fun f hf => by
      simp only [List.mem_cons, List.not_mem_nil, or_false, not_or] at hf
      rw [f4.2 f (by simp only [List.mem_cons, List.not_mem_nil, or_false, not_or]; omega)]
      exact e0 f (by simp only [List.mem_cons, List.not_mem_nil, or_false, not_or]; omega)
    have g23 : M4 178 23 = nI 0 := by
      rw [f4.2 23 (by decide), up_at, upW_n (by decide), up_at, upW_n (by decide), up_at, upW_n (by decide), up_at, upW_n (by decide), up_at, upW_s]
    have g25 : M4 178 25 = -1 := by
      rw [f4.2 25 (by decide), up_at, upW_n (by decide), up_at, upW_n (by decide), up_at, upW_n (by decide), up_at, upW_s, m1n]
    obtain ⟨Q1, s1, s2⟩ := hgo D' M4 hD' (f0.tr f4.1) g4 g23 g25 hM4
    rcases hc with ⟨h1, rfl⟩ | ⟨h1, rfl⟩
    · rw [if_pos (by rw [lt_i (by omega) (by omega)]; omega)]
      refine Wq.call s1 (fun x M5 hq => ?_)
      rw [Wq_jmp]
      exact s2 x M5 hq
    · rw [if_neg (by rw [lt_i (by omega) (by omega)]; omega)]
      refine Wq.call s1 (fun x M5 hq => ?_)
      rw [Wq_jmp]
      exact s2 x M5 hq)
/-- a text refused -/
theorem m_refuse {tp : Nat → Nat} {L a i : Nat} {v : Int32} {M0 : MMw} {fs : List Nat} {Q : Int32 → MMw → Prop} (hf : Fr fs M0 M) (hfs : 178 ∈ fs) (e4 : M 178 4 = M0 178 4) (e5 : M 178 5 = M0 178 5) (ht : FtM tp L a i M)
    (hQ : ∀ M', Fr fs M0 M' → TxM M0 M' (nI a) (nI (k_pl tp L i)) → Q (-1) M') : Lq X (callw X D) 177 62 [some (.inr (.inl 178)), some (.inl v), some (.inl (nI 0))] (Gk n tot kn kx) M Q := by
  refine Lq.of (t_177_62_ok X (callw X D) n tot kn kx _ _ M) ?_
  unfold t_177_62
  simp only [o_nI]
  rw [if_pos (by rfl), Wq_ret, m1n]
  refine hQ _ (((hf.up hfs).up hfs).up hfs) ⟨?_, ?_, ?_, ?_, ?_⟩
  · rw [up_at, upW_n (by decide), up_at, upW_n (by decide), up_at, upW_n (by decide)]; exact e4
  · rw [up_at, upW_n (by decide), up_at, upW_n (by decide), up_at, upW_n (by decide)]; exact e5
  · rw [up_at, upW_n (by decide), up_at, upW_n (by decide), up_at, upW_s]
  · rw [up_at, upW_n (by decide), up_at, upW_s, up_at, upW_n (by decide)]; exact ht.1
  · rw [up_at, upW_s, up_at, upW_n (by decide), up_at, upW_n (by decide)]; exact ht.2
/-- what a law's text leaves in the row -/
def LwW (M M' : MMw) (k : Nat) (lx : List LnT) (ox : List (Nat × Nat)) : Prop := M' 179 (100 + k) = nI lx.length ∧
  (∀ (j : Nat) (q : LnT), lx[j]? = some q → M' 179 (266 + 16 * k + j) = nI q.1 ∧ M' 179 (298 + 16 * k + j) = nI q.2.1 ∧ M' 179 (330 + 16 * k + j) = nI q.2.2.1 ∧ M' 179 (362 + 16 * k + j) = nI (q.2.2.2 - 80)) ∧
  (∀ (j : Nat) (op : Nat × Nat), ox[j]? = some op → StO op (M' 179 (394 + 820 * k + 2 * j)) (M' 179 (394 + 820 * k + 2 * j + 1))) ∧ ∀ i, ¬ LwX k i → M' 179 i = M 179 i
def MlQ (tp : Nat → Nat) (L rd : Nat) (M : MMw) (r : RzW) (x : Int32) (M' : MMw) : Prop := match r with
  | .inl (a, i) => x = -1 ∧ Fr [178, 183, 184] M M' ∧ TxM M M' (nI a) (nI (k_pl tp L i))
  | .inr (lx, ox) => x = nI lx.length ∧ Fr [178, 179, 183, 184] M M' ∧ TxM M M' (nI 0) (-1) ∧ LwW M M' rd lx ox
theorem at_lt {α : Type} {l : List α} {j : Nat} {p : α} (h : l[j]? = some p) : j < l.length := by
  rcases Nat.lt_or_ge j l.length with hl | hl
  · exact hl
  · rw [List.getElem?_eq_none hl] at h; cases h
theorem m_lawText (hD : 43 ≤ D) {tp : Nat → Nat} {L ct rd : Nat} (hx : TxP tp L ct) (hrd : rd < 2) (hT : TpM M tp L) {r : RzW}
    (a2 : ∀ (D : Nat) (M : MMw), 41 ≤ D → MdT tp L rd M 0 → Sq X D 168 [.inr (.inl 178)] (Gk n tot kn kx) M (RlQ tp L M r))
    (a3 : match r with | .inl _ => True | .inr (lx, ox) => lx.length ≤ 16 ∧ ox.length ≤ 400 ∧ GoLs rd ox lx) : Sq X D 177 [.inr (.inl 178), .inl (nI rd)] (Gk n tot kn kx) M (MlQ tp L rd M r) := by
  refine m_text hD hx (by omega) (Or.inl ⟨hrd, rfl⟩) hT (fun D' M4 hD' f4 g4 g23 g25 hM4 => ⟨_, a2 D' M4 (by omega) hM4, fun x M5 hq => ?_⟩)
  rcases r with ⟨a, i⟩ | ⟨lx, ox⟩
  · obtain ⟨rfl, q2, q3⟩ := hq
    exact m_refuse (fs := [178, 183, 184]) ((f4.mono (by decide)).tr q2.1) (by decide) (by rw [q2.2 4 (by decide), g4 4 (by decide)]) (by rw [q2.2 5 (by decide), g4 5 (by decide)]) q3 (fun M' h1 h2 => ⟨rfl, h1, h2⟩)
  · obtain ⟨rfl, q2, q3, q4, q5⟩ := hq
    obtain ⟨b1, b2, b3⟩ := a3
    refine Lq.of (t_177_62_ok X (callw X D') n tot kn kx _ _ M5) ?_
    unfold t_177_62
    simp only [o_nI]
    rw [if_neg (by decide), if_pos (by rw [lt_i (by omega) (by omega)]; omega)]
    refine Wq.call (m_putsLaw (by omega) hrd b1 b2 (by rw [up_at, upW_n (by decide)]; exact q5) (by rw [up_at, upW_n (by decide)]; exact q3.1)) ?_
    rintro y M6 ⟨rfl, p1, p2, p3, p4, p5⟩
    rw [Wq_ret]
    have f6 : Fr [178, 179, 183, 184] M M6 := ((f4.mono (by decide)).tr (q2.1.mono (by decide))).tr ((Fr.rf.up (by decide)).tr (p1.mono (by decide)))
    have g6 : ∀ f, f ≠ 16 → M6 178 f = M5 178 f := fun f hf => by rw [p1 178 (by decide), up_at, upW_n hf]
    refine ⟨rfl, f6, ⟨?_, ?_, ?_, ?_, ?_⟩, p2, fun j q hq => ?_, fun j op hj => ?_, fun i hi => ?_⟩
    · rw [g6 4 (by decide), q2.2 4 (by decide), g4 4 (by decide)]
    · rw [g6 5 (by decide), q2.2 5 (by decide), g4 5 (by decide)]
    · rw [p1 178 (by decide), up_at, upW_s]
    · rw [g6 23 (by decide), q2.2 23 (by decide)]; exact g23
    · rw [g6 25 (by decide), q2.2 25 (by decide)]; exact g25
    · obtain ⟨c1, c2, c3, c4⟩ := p3 j (at_lt hq)
      obtain ⟨d1, d2, d3, d4⟩ := q4 j q hq
      rw [up_ne (by decide)] at c1 c2 c3 c4
      rw [c1, c2, c3, c4]
      exact ⟨d1, d2, d3, d4⟩
    · have hl := at_lt hj
      have c1 := p4 (2 * j) (by omega)
      have c2 := p4 (2 * j + 1) (by omega)
      rw [up_ne (by decide)] at c1 c2
      rw [Nat.add_assoc _ (2 * j) 1, c1, c2]
      exact q3.2 j op hj
    · rw [p5 i hi, up_ne (by decide), q2.1 179 (by decide), f4 179 (by decide)]

/-- the class's telling of law 0 -/
def ClQ31 (tp : Nat → Nat) (L : Nat) (M : MMw) (r : RzW) (x : Int32) (M' : MMw) : Prop := match r with
  | .inl (a, i) => x = -1 ∧ Fr [95, 97, 98, 99, 100, 101, 102, 103, 104, 105] M M' ∧ M' 95 1 = nI 0 ∧ FtC tp L a i M'
  | .inr (lx, ox) => x = nI lx.length ∧ Fr [95, 97, 98, 99, 100, 101, 102, 103, 104, 105, 31, 32, 33, 34, 35, 36] M M' ∧ LaC M' 31 lx ox ∧ M' 95 1 = nI 0 ∧ M' 95 2 = nI 0 ∧ M' 95 3 = -1
theorem c_lawText31 (hD : 24 ≤ D) {tp : Nat → Nat} {L ct : Nat} {y : Int32} {M1 : MMw} (e1 : callw X D 123 [.inr (.inl 95)] (Gk n tot kn kx) M = some (y, Gk n tot kn kx, M1)) (f1 : Fr [95, 97, 98, 99] M M1) (hC : ClT tp L ct M1 0) {r : RzW}
    (a1 : ∀ (D : Nat) (M : MMw), 23 ≤ D → ClT tp L ct M 0 → Sq X D 135 [.inr (.inl 95), .inr (.inl 31), .inl (nI 0)] (Gk n tot kn kx) M (TlQ tp L 31 M r)) : Sq X (D + 1) 146 [.inr (.inl 0), .inl (nI 0)] (Gk n tot kn kx) M (ClQ31 tp L M r) := by
  refine Sq.of ?_
  refine Lq.of (t_146_0_ok X (callw X D) n tot kn kx _ M) ?_
  unfold t_146_0
  simp only [o_nI]
  rw [e1, bnd_some, if_pos trivial]
  refine Wq.call (a1 D M1 (by omega) hC) (fun x M2 hq => ?_)
  rw [Wq_ret]
  rcases r with ⟨a, i⟩ | ⟨lx, ox⟩
  · obtain ⟨q1, q2, q3, q4⟩ := hq
    exact ⟨q1, ((f1.mono (by decide)).tr (q2.mono (by decide))).up (by decide), by rw [up_at, upW_s], by rw [up_at, upW_n (by decide)]; exact q3, by rw [up_at, upW_n (by decide)]; exact q4⟩
  · obtain ⟨q1, q2, q3, q4, q5⟩ := hq
    refine ⟨q1, ((f1.mono (by decide)).tr (q2.mono (by decide))).up (by decide), ?_, by rw [up_at, upW_s], by rw [up_at, upW_n (by decide)]; exact q4, by rw [up_at, upW_n (by decide)]; exact q5⟩
    unfold LaC
    rw [up_ne (by decide), up_ne (by decide), up_ne (by decide), up_ne (by decide), up_ne (by decide), up_ne (by decide)]
    exact q3

/-- the class's telling of law 1 -/
def ClQ37 (tp : Nat → Nat) (L : Nat) (M : MMw) (r : RzW) (x : Int32) (M' : MMw) : Prop := match r with
  | .inl (a, i) => x = -1 ∧ Fr [95, 97, 98, 99, 100, 101, 102, 103, 104, 105] M M' ∧ M' 95 1 = nI 0 ∧ FtC tp L a i M'
  | .inr (lx, ox) => x = nI lx.length ∧ Fr [95, 97, 98, 99, 100, 101, 102, 103, 104, 105, 37, 38, 39, 40, 41, 42] M M' ∧ LaC M' 37 lx ox ∧ M' 95 1 = nI 0 ∧ M' 95 2 = nI 0 ∧ M' 95 3 = -1
theorem c_lawText37 (hD : 24 ≤ D) {tp : Nat → Nat} {L ct : Nat} {y : Int32} {M1 : MMw} (e1 : callw X D 123 [.inr (.inl 95)] (Gk n tot kn kx) M = some (y, Gk n tot kn kx, M1)) (f1 : Fr [95, 97, 98, 99] M M1) (hC : ClT tp L ct M1 0) {r : RzW}
    (a1 : ∀ (D : Nat) (M : MMw), 23 ≤ D → ClT tp L ct M 0 → Sq X D 135 [.inr (.inl 95), .inr (.inl 37), .inl (nI 1)] (Gk n tot kn kx) M (TlQ tp L 37 M r)) : Sq X (D + 1) 146 [.inr (.inl 0), .inl (nI 1)] (Gk n tot kn kx) M (ClQ37 tp L M r) := by
  refine Sq.of ?_
  refine Lq.of (t_146_0_ok X (callw X D) n tot kn kx _ M) ?_
  unfold t_146_0
  simp only [o_nI]
  rw [e1, bnd_some, if_neg (by decide), if_pos trivial]
  refine Wq.call (a1 D M1 (by omega) hC) (fun x M2 hq => ?_)
  rw [Wq_ret]
  rcases r with ⟨a, i⟩ | ⟨lx, ox⟩
  · obtain ⟨q1, q2, q3, q4⟩ := hq
    exact ⟨q1, ((f1.mono (by decide)).tr (q2.mono (by decide))).up (by decide), by rw [up_at, upW_s], by rw [up_at, upW_n (by decide)]; exact q3, by rw [up_at, upW_n (by decide)]; exact q4⟩
  · obtain ⟨q1, q2, q3, q4, q5⟩ := hq
    refine ⟨q1, ((f1.mono (by decide)).tr (q2.mono (by decide))).up (by decide), ?_, by rw [up_at, upW_s], by rw [up_at, upW_n (by decide)]; exact q4, by rw [up_at, upW_n (by decide)]; exact q5⟩
    unfold LaC
    rw [up_ne (by decide), up_ne (by decide), up_ne (by decide), up_ne (by decide), up_ne (by decide), up_ne (by decide)]
    exact q3

theorem Rl.refused {kn len s : Nat} {M M' : MMw} {L' : List Nat} {a b : Int32} (h : Rl kn len s M) (hf : Fr L' M M') (hL : ∀ d, d ∈ L' → d = 95 ∨ (97 ≤ d ∧ d ≤ 119) ∨ d = 96 ∨ d = 178 ∨ d = 183 ∨ d = 184 ∨ d = 185 ∨ d = 186) (hm : TxM M M' a b) (c1 : M' 95 1 = nI 0) (c2 : M' 95 2 = a) (c3 : M' 95 3 = b) : Rl kn len s M' := by
  obtain ⟨m4, m5, m16, m23, m25⟩ := hm
  exact h.tape hf hL m5 m4 ⟨by rw [c2, m23], by rw [c3, m25], 0, by decide, c1, m16, fun i hi => absurd hi (Nat.not_lt_zero i)⟩
theorem RlT.none {M : MMw} {a b : Int32} (m16 : M 178 16 = nI 0) (m23 : M 178 23 = a) (m25 : M 178 25 = b) (c1 : M 95 1 = nI 0) (c2 : M 95 2 = a) (c3 : M 95 3 = b) : RlT M :=
  ⟨by rw [c2, m23], by rw [c3, m25], 0, by decide, c1, m16, fun i hi => absurd hi (Nat.not_lt_zero i)⟩
theorem RlB.none {M M' : MMw} (h : RlB M) (h5 : M' 0 5 = nI 0) (h6 : M' 0 6 = M 0 6) (h4 : M' 178 4 = nI 0) : RlB M' := by
  obtain ⟨b, p, Bs, h1, h2, ⟨_, g4, _⟩, _, _⟩ := h
  exact ⟨0, p, Bs, by decide, h2, ⟨h5, by rw [h6]; exact g4, fun j hj => absurd hj (Nat.not_lt_zero j)⟩, ⟨h4, fun j hj => absurd hj (Nat.not_lt_zero j)⟩, fun j hj => absurd hj (Nat.not_lt_zero j)⟩

theorem Rl.law31 {kn len s : Nat} {M M' : MMw} {L' : List Nat} {lx : List LnT} {ox : List (Nat × Nat)} (h : Rl kn len s M) (hf : Fr L' M M') (hL : ∀ d, d ∈ L' → d = 95 ∨ (97 ≤ d ∧ d ≤ 105) ∨ (31 ≤ d ∧ d ≤ 36) ∨ d = 178 ∨ d = 179 ∨ d = 183 ∨ d = 184) (hm : TxM M M' (nI 0) (-1)) (c1 : M' 95 1 = nI 0) (c2 : M' 95 2 = nI 0) (c3 : M' 95 3 = -1) (hw : LwW M M' 0 lx ox) (hc : LaC M' 31 lx ox) (hl : lx.length ≤ 16) (ho : ox.length ≤ 400) (hg : GoLs 0 ox lx) : Rl kn len s M' := by
  obtain ⟨m4, m5, m16, m23, m25⟩ := hm
  obtain ⟨w1, w2, w3, w4⟩ := hw
  have g : ∀ d, ¬ (d = 95 ∨ (97 ≤ d ∧ d ≤ 105) ∨ (31 ≤ d ∧ d ≤ 36) ∨ d = 178 ∨ d = 179 ∨ d = 183 ∨ d = 184) → M' d = M d := fun d hd => hf d (fun hl => hd (hL d hl))
  obtain ⟨⟨⟨y1, y2, y3, y4, y5⟩, ym, iy, im⟩, yb⟩ := id h.1
  obtain ⟨t1, t2, t3, t4, t5⟩ := id iy.1
  have b98 := t3.2; have b99 := t4.2; have b104 := t5.2
  have k1 : q_n (M 179) 98 ≤ 8 := by omega
  have k2 : q_n (M 179) 104 ≤ 12 := by omega
  have k3 : q_n (M 179) 99 ≤ 20 := by omega
  have g0 : M' 0 = M 0 := g 0 (by omega)
  refine h.txt (fun c hc => g c (by unfold TxL at hc; omega)) (by rw [g0]) m5 ⟨⟨⟨?_, ?_, ?_, ?_, ?_⟩, ?_, ?_, ?_⟩, ?_⟩ ?_ (RlT.none m16 m23 m25 c1 c2 c3)
  · exact y1.cg (fun d h1 h2 => g d (by omega)) (fun i hi => w4 i (by unfold LwX; omega))
  · exact y2.cg (fun d h1 h2 => g d (by omega)) (fun i hi => w4 i (by unfold LwX; omega)) k1 k2
  · exact y3.cg (fun d h1 h2 => g d (by omega)) (fun i hi => w4 i (by unfold LwX; omega)) k3
  · exact law_new (by decide) hl ho hg w1 w2 w3 hc
  · exact y5.cg (by decide) (fun d h1 h2 => g d (by omega)) (fun i hi => w4 i (by unfold LwX at hi ⊢; omega))
  · obtain ⟨m1, m2, m3, m4, b1, b2, b3, b4, b5, b6⟩ := ym
    refine ⟨?_, ?_, ?_, ?_, b1.ch (g _ (by omega)) (fun t ht => w4 _ (by unfold LwX; omega)), b2.ch (g _ (by omega)) (fun t ht => w4 _ (by unfold LwX; omega)), b3.ch (g _ (by omega)) (fun t ht => w4 _ (by unfold LwX; omega)), b4.ch (g _ (by omega)) (fun t ht => w4 _ (by unfold LwX; omega)), b5.ch (g _ (by omega)) (fun t ht => w4 _ (by unfold LwX; omega)), b6.ch (g _ (by omega)) (fun t ht => w4 _ (by unfold LwX; omega))⟩
    · rw [g 10 (by omega), w4 0 (by unfold LwX; omega)]; exact m1
    · rw [g 10 (by omega), w4 3 (by unfold LwX; omega)]; exact m2
    · rw [g 10 (by omega), w4 1 (by unfold LwX; omega)]; exact m3
    · rw [g 10 (by omega), w4 2 (by unfold LwX; omega)]; exact m4
  · exact iy.cg (fun i hi => w4 i (by unfold LwX; omega))
  · exact im.cg (fun i hi => w4 i (by unfold LwX; omega)) k1
  · unfold CRbook at yb ⊢
    exact yb.ch (g _ (by omega)) (fun t ht => w4 _ (by unfold LwX; omega))
  · exact RlB.low ⟨fun c hc => g c (by omega), by rw [g0], by rw [g0], m4⟩ h.2.2.1 (fun k hk => w4 k (by unfold LwX; omega)) (w4 96 (by unfold LwX; omega)) (w4 98 (by unfold LwX; omega)) (fun i h1 h2 => w4 i (by unfold LwX; omega)) k1

theorem Rl.law37 {kn len s : Nat} {M M' : MMw} {L' : List Nat} {lx : List LnT} {ox : List (Nat × Nat)} (h : Rl kn len s M) (hf : Fr L' M M') (hL : ∀ d, d ∈ L' → d = 95 ∨ (97 ≤ d ∧ d ≤ 105) ∨ (37 ≤ d ∧ d ≤ 42) ∨ d = 178 ∨ d = 179 ∨ d = 183 ∨ d = 184) (hm : TxM M M' (nI 0) (-1)) (c1 : M' 95 1 = nI 0) (c2 : M' 95 2 = nI 0) (c3 : M' 95 3 = -1) (hw : LwW M M' 1 lx ox) (hc : LaC M' 37 lx ox) (hl : lx.length ≤ 16) (ho : ox.length ≤ 400) (hg : GoLs 1 ox lx) : Rl kn len s M' := by
  obtain ⟨m4, m5, m16, m23, m25⟩ := hm
  obtain ⟨w1, w2, w3, w4⟩ := hw
  have g : ∀ d, ¬ (d = 95 ∨ (97 ≤ d ∧ d ≤ 105) ∨ (37 ≤ d ∧ d ≤ 42) ∨ d = 178 ∨ d = 179 ∨ d = 183 ∨ d = 184) → M' d = M d := fun d hd => hf d (fun hl => hd (hL d hl))
  obtain ⟨⟨⟨y1, y2, y3, y4, y5⟩, ym, iy, im⟩, yb⟩ := id h.1
  obtain ⟨t1, t2, t3, t4, t5⟩ := id iy.1
  have b98 := t3.2; have b99 := t4.2; have b104 := t5.2
  have k1 : q_n (M 179) 98 ≤ 8 := by omega
  have k2 : q_n (M 179) 104 ≤ 12 := by omega
  have k3 : q_n (M 179) 99 ≤ 20 := by omega
  have g0 : M' 0 = M 0 := g 0 (by omega)
  refine h.txt (fun c hc => g c (by unfold TxL at hc; omega)) (by rw [g0]) m5 ⟨⟨⟨?_, ?_, ?_, ?_, ?_⟩, ?_, ?_, ?_⟩, ?_⟩ ?_ (RlT.none m16 m23 m25 c1 c2 c3)
  · exact y1.cg (fun d h1 h2 => g d (by omega)) (fun i hi => w4 i (by unfold LwX; omega))
  · exact y2.cg (fun d h1 h2 => g d (by omega)) (fun i hi => w4 i (by unfold LwX; omega)) k1 k2
  · exact y3.cg (fun d h1 h2 => g d (by omega)) (fun i hi => w4 i (by unfold LwX; omega)) k3
  · exact y4.cg (by decide) (fun d h1 h2 => g d (by omega)) (fun i hi => w4 i (by unfold LwX at hi ⊢; omega))
  · exact law_new (by decide) hl ho hg w1 w2 w3 hc
  · obtain ⟨m1, m2, m3, m4, b1, b2, b3, b4, b5, b6⟩ := ym
    refine ⟨?_, ?_, ?_, ?_, b1.ch (g _ (by omega)) (fun t ht => w4 _ (by unfold LwX; omega)), b2.ch (g _ (by omega)) (fun t ht => w4 _ (by unfold LwX; omega)), b3.ch (g _ (by omega)) (fun t ht => w4 _ (by unfold LwX; omega)), b4.ch (g _ (by omega)) (fun t ht => w4 _ (by unfold LwX; omega)), b5.ch (g _ (by omega)) (fun t ht => w4 _ (by unfold LwX; omega)), b6.ch (g _ (by omega)) (fun t ht => w4 _ (by unfold LwX; omega))⟩
    · rw [g 10 (by omega), w4 0 (by unfold LwX; omega)]; exact m1
    · rw [g 10 (by omega), w4 3 (by unfold LwX; omega)]; exact m2
    · rw [g 10 (by omega), w4 1 (by unfold LwX; omega)]; exact m3
    · rw [g 10 (by omega), w4 2 (by unfold LwX; omega)]; exact m4
  · exact iy.cg (fun i hi => w4 i (by unfold LwX; omega))
  · exact im.cg (fun i hi => w4 i (by unfold LwX; omega)) k1
  · unfold CRbook at yb ⊢
    exact yb.ch (g _ (by omega)) (fun t ht => w4 _ (by unfold LwX; omega))
  · exact RlB.low ⟨fun c hc => g c (by omega), by rw [g0], by rw [g0], m4⟩ h.2.2.1 (fun k hk => w4 k (by unfold LwX; omega)) (w4 96 (by unfold LwX; omega)) (w4 98 (by unfold LwX; omega)) (fun i h1 h2 => w4 i (by unfold LwX; omega)) k1
end
