section
-- needs: keep
/-! what stands between two calls -/
/-- the places of image, tape and planner -/
abbrev Sp (c : Nat) : Prop := (44 ≤ c ∧ c ≤ 86) ∨ c = 95 ∨ c = 96 ∨ c = 124 ∨ c = 130 ∨ c = 180 ∨ c = 186 ∨ 197 ≤ c
def Stat (M M' : MMw) : Prop := (∀ c, Sp c → M' c = M c) ∧ M' 0 2 = M 0 2 ∧ M' 178 5 = M 178 5 ∧ M' 178 16 = M 178 16 ∧ M' 178 23 = M 178 23 ∧ M' 178 25 = M 178 25
theorem Stat.tr {M M1 M2 : MMw} (h : Stat M M1) (h2 : Stat M1 M2) : Stat M M2 := by
  obtain ⟨a1, a2, a3, a4, a5, a6⟩ := h
  obtain ⟨b1, b2, b3, b4, b5, b6⟩ := h2
  exact ⟨fun c hc => (b1 c hc).trans (a1 c hc), b2.trans a2, b3.trans a3, b4.trans a4, b5.trans a5, b6.trans a6⟩
theorem Stat.of {L : List Nat} {M M' : MMw} (h : Fr L M M') (hL : ∀ d, d ∈ L → d ≠ 0 ∧ d ≠ 178 ∧ ¬ Sp d) : Stat M M' := by
  have e8 : M' 178 = M 178 := h 178 (fun hd => (hL _ hd).2.1 rfl)
  have e0 : M' 0 = M 0 := h 0 (fun hd => (hL _ hd).1 rfl)
  exact ⟨fun c hc => h c (fun hd => (hL c hd).2.2 hc), by rw [e0], by rw [e8], by rw [e8], by rw [e8], by rw [e8]⟩
/-- the same where cells 0 and 178 change too, but not these fields -/
theorem Stat.of2 {L : List Nat} {M M' : MMw} (h : Fr L M M') (hL : ∀ d, d ∈ L → ¬ Sp d) (e2 : M' 0 2 = M 0 2) (e8 : ∀ k, k = 5 ∨ k = 16 ∨ k = 23 ∨ k = 25 → M' 178 k = M 178 k) : Stat M M' :=
  ⟨fun c hc => h c (fun hd => hL c hd hc), e2, e8 5 (by omega), e8 16 (by omega), e8 23 (by omega), e8 25 (by omega)⟩
def StB (M M' : MMw) : Prop := (∀ c, (136 ≤ c ∧ c ≤ 177) ∨ c = 181 → M' c = M c) ∧ M' 0 5 = M 0 5 ∧ M' 0 6 = M 0 6 ∧ M' 178 4 = M 178 4
theorem StB.tr {M M1 M2 : MMw} (h : StB M M1) (h2 : StB M1 M2) : StB M M2 := by
  obtain ⟨a1, a2, a3, a4⟩ := h
  obtain ⟨b1, b2, b3, b4⟩ := h2
  exact ⟨fun c hc => (b1 c hc).trans (a1 c hc), b2.trans a2, b3.trans a3, b4.trans a4⟩
theorem StB.of {L : List Nat} {M M' : MMw} (h : Fr L M M') (hL : ∀ d, d ∈ L → d ≠ 0 ∧ d ≠ 178 ∧ ¬ ((136 ≤ d ∧ d ≤ 177) ∨ d = 181)) : StB M M' := by
  have e8 : M' 178 = M 178 := h 178 (fun hd => (hL _ hd).2.1 rfl)
  have e0 : M' 0 = M 0 := h 0 (fun hd => (hL _ hd).1 rfl)
  exact ⟨fun c hc => h c (fun hd => (hL c hd).2.2 hc), by rw [e0], by rw [e0], by rw [e8]⟩
def RlX (M : MMw) : Prop := CX M 10 (M 179) ∧ CRbook M 43 (M 179)
def RlI (M : MMw) : Prop := M 0 2 = M 178 5 ∧ (M 178 5 = nI 0 ∨ (M 178 5 = nI 1 ∧ CRy M 44 (M 180) ∧ CRm M 53 (M 180) ∧ CRbook M 86 (M 180) ∧ q_invY (M 180) ∧ q_invM (M 180)))
def RlB (M : MMw) : Prop := ∃ b p Bs, b ≤ 6 ∧ p < 6 ∧ BCc M b p Bs ∧ BCm M b Bs ∧ BCp (M 179) b Bs
def RlT (M : MMw) : Prop := M 95 2 = M 178 23 ∧ M 95 3 = M 178 25 ∧ ∃ L, L ≤ 400 ∧ M 95 1 = nI L ∧ M 178 16 = nI L ∧ ∀ i, i < L → M 96 i = M 186 i ∧ ∃ v, v < 256 ∧ M 186 i = nI v
def RlP (kn len s : Nat) (M : MMw) : Prop := (kn = 130 ∨ 197 ≤ kn) ∧ M 124 6 = nI s ∧ ∀ i, i < len → ∃ v, M kn i = nI v ∧ v < 32 * (s + 1)
def Rl (kn len s : Nat) (M : MMw) : Prop := RlX M ∧ RlI M ∧ RlB M ∧ RlT M ∧ RlP kn len s M
theorem RlI.st {M M' : MMw} (hs : Stat M M') (h : RlI M) : RlI M' := by
  obtain ⟨a1, a2, a3, a4, a5, a6⟩ := hs
  obtain ⟨h1, h2⟩ := h
  unfold RlI
  rw [a2, a3]
  refine ⟨h1, ?_⟩
  rcases h2 with h2 | ⟨h2, h3, h4, h5, h6, h7⟩
  · exact Or.inl h2
  · refine Or.inr ⟨h2, ?_⟩
    rw [a1 180 (by unfold Sp; omega)]
    refine ⟨h3.ch (fun d hd => a1 d (by unfold Yp at hd; unfold Sp; omega)) sameY.rf h6.1, ?_, ?_, h6, h7⟩
    · obtain ⟨m1, m2, m3, m4, b1, b2, b3, b4, b5, b6⟩ := h4
      have g : ∀ d, 53 ≤ d → d ≤ 59 → M' d = M d := fun d h1 h2 => a1 d (by unfold Sp; omega)
      rw [← g _ (by omega) (by omega)] at m1 m2 m3 m4 b1 b2 b3 b4 b5 b6
      exact ⟨m1, m2, m3, m4, b1, b2, b3, b4, b5, b6⟩
    · unfold CRbook at h5 ⊢
      rw [a1 86 (by unfold Sp; omega)]
      exact h5
theorem RlT.st {M M' : MMw} (hs : Stat M M') (h : RlT M) : RlT M' := by
  obtain ⟨a1, a2, a3, a4, a5, a6⟩ := hs
  unfold RlT
  rw [a1 95 (by unfold Sp; omega), a1 96 (by unfold Sp; omega), a1 186 (by unfold Sp; omega), a4, a5, a6]
  exact h
theorem RlP.st {kn len s : Nat} {M M' : MMw} (hs : Stat M M') (h : RlP kn len s M) : RlP kn len s M' := by
  obtain ⟨h1, h2, h3⟩ := h
  refine ⟨h1, by rw [hs.1 124 (by unfold Sp; omega)]; exact h2, ?_⟩
  rw [hs.1 kn (by unfold Sp; omega)]
  exact h3
theorem RlB.st {M M' : MMw} (hb : StB M M') (h9 : M' 179 = M 179) (h : RlB M) : RlB M' := by
  obtain ⟨a1, a2, a3, a4⟩ := hb
  obtain ⟨b, p, Bs, h1, h2, ⟨h3, h4, h5⟩, ⟨h6, h7⟩, h8⟩ := h
  refine ⟨b, p, Bs, h1, h2, ⟨by rw [a2]; exact h3, by rw [a3]; exact h4, fun j hj => ?_⟩, ⟨by rw [a4]; exact h6, ?_⟩, by rw [h9]; exact h8⟩
  · have hc := h5 j hj
    have hr : 136 ≤ q_ring p b j ∧ q_ring p b j ≤ 171 := by unfold q_ring; omega
    obtain ⟨m1, m2, m3, m4, b1, b2, b3, b4, b5, b6⟩ := hc
    have g : ∀ d, d ≤ 6 → M' (q_ring p b j + d) = M (q_ring p b j + d) := fun d hd => a1 _ (by omega)
    have g0 : M' (q_ring p b j) = M (q_ring p b j) := g 0 (by omega)
    rw [← g0] at m1 m2 m3 m4
    rw [← g _ (by omega)] at b1 b2 b3 b4 b5 b6
    exact ⟨m1, m2, m3, m4, b1, b2, b3, b4, b5, b6⟩
  · rw [a1 181 (by omega)]
    exact h7
theorem Rl.query {kn len s : Nat} {M M' : MMw} (h : Rl kn len s M) (hX : RlX M') (h9 : M' 179 = M 179) (hs : Stat M M') (hb : StB M M') : Rl kn len s M' :=
  ⟨hX, h.2.1.st hs, h.2.2.1.st hb h9, h.2.2.2.1.st hs, h.2.2.2.2.st hs⟩
/-- a question: nothing of this changes -/
theorem Rl.ask {kn len s : Nat} {L : List Nat} {M M' : MMw} (h : Rl kn len s M) (hf : Fr L M M') (hL : ∀ d, d ∈ L → d ≠ 0 ∧ d ≠ 178 ∧ d ≠ 179 ∧ d ≠ 43 ∧ ¬ Sp d ∧ ¬ ((136 ≤ d ∧ d ≤ 177) ∨ d = 181) ∧ ¬ Yp 1 d ∧ (d < 10 ∨ 10 + 7 ≤ d)) : Rl kn len s M' := by
  have e9 : M' 179 = M 179 := hf 179 (fun hd => (hL _ hd).2.2.1 rfl)
  refine h.query ⟨?_, ?_⟩ e9 (Stat.of hf (fun d hd => ⟨(hL d hd).1, (hL d hd).2.1, (hL d hd).2.2.2.2.1⟩)) (StB.of hf (fun d hd => ⟨(hL d hd).1, (hL d hd).2.1, (hL d hd).2.2.2.2.2.1⟩))
  · rw [e9]; exact h.1.1.fr hf (fun d hd => (hL d hd).2.2.2.2.2.2)
  · rw [e9]
    have := h.1.2
    unfold CRbook at this ⊢
    rw [hf 43 (fun hd => (hL _ hd).2.2.2.1 rfl)]
    exact this
theorem Rl.forget {kn len s : Nat} {M M' : MMw} (h : Rl kn len s M) (hX : RlX M') (hs : Stat M M') (h5 : M' 0 5 = nI 0) (h6 : M' 0 6 = M 0 6) (h4 : M' 178 4 = nI 0) : Rl kn len s M' := by
  refine ⟨hX, h.2.1.st hs, ?_, h.2.2.2.1.st hs, h.2.2.2.2.st hs⟩
  obtain ⟨b, p, Bs, h1, h2, ⟨_, g4, _⟩, _, _⟩ := h.2.2.1
  exact ⟨0, p, Bs, by decide, h2, ⟨h5, by rw [h6]; exact g4, fun j hj => absurd hj (Nat.not_lt_zero j)⟩, ⟨h4, fun j hj => absurd hj (Nat.not_lt_zero j)⟩, fun j hj => absurd hj (Nat.not_lt_zero j)⟩
/-- the same call on both -/
def Pr (X : KXw) (D cm mm : Nat) (ca ma : List PVw) (G : GGw) (M : MMw) (Post : MMw → Prop) : Prop := ∃ x M1 M2, callw X D cm ca G M = some (x, G, M1) ∧ callw X D mm ma G M1 = some (x, G, M2) ∧ Post M2
theorem Pr.mk {X : KXw} {D cm mm : Nat} {ca ma : List PVw} {G : GGw} {M : MMw} {Post : MMw → Prop} {Q1 : Int32 → MMw → Prop} (hc : Sq X D cm ca G M Q1) (hm : ∀ x M1, Q1 x M1 → Sq X D mm ma G M1 (fun y M2 => y = x ∧ Post M2)) : Pr X D cm mm ca ma G M Post := by
  obtain ⟨x, M1, h1, h2⟩ := hc
  obtain ⟨y, M2, h3, rfl, h4⟩ := hm x M1 h2
  exact ⟨y, M1, M2, h1, h3, h4⟩
/-! numbers told -/
def q_in (v : Int32) (a b : Nat) : Bool := !decide (v < nI a) && !decide (nI b < v)
theorem q_in_t {v : Int32} {a b : Nat} (hb : b < 2 ^ 31) (ha : a < 2 ^ 31) (h : q_in v a b = true) : ∃ j, a ≤ j ∧ j ≤ b ∧ v = nI j := by
  unfold q_in at h
  rw [Bool.and_eq_true, Bool.not_eq_true', Bool.not_eq_true', decide_eq_false_iff_not, decide_eq_false_iff_not] at h
  obtain ⟨h1, h2⟩ := h
  have h0 : ¬ v < 0 := fun h => h1 (neg_lt h a ha)
  obtain ⟨e, hl⟩ := nI_self h0
  rw [e, lt_i hl ha] at h1
  rw [e, lt_i hb hl] at h2
  exact ⟨_, by omega, by omega, e⟩
def q_is (v : Int32) (n : Nat) : Bool := !decide (v < nI 0) && decide (v < nI n)
theorem q_is_t {v : Int32} {n : Nat} (hn : n < 2 ^ 31) (h : q_is v n = true) : ∃ j, j < n ∧ v = nI j := by
  unfold q_is at h
  rw [Bool.and_eq_true, Bool.not_eq_true', decide_eq_false_iff_not, decide_eq_true_eq] at h
  obtain ⟨h1, h2⟩ := h
  obtain ⟨e, hl⟩ := nI_self (show ¬ v < 0 from h1)
  rw [e, lt_i hl hn] at h2
  exact ⟨_, h2, e⟩
theorem q_is_nI {j n : Nat} (hn : n < 2 ^ 31) (hj : j < n) : q_is (nI j) n = true := by
  unfold q_is
  simp (disch := omega) only [lt_i]
  simp [hj]
theorem q_is_in {v : Int32} {n : Nat} (hn : n < 2 ^ 31) : q_is v n = (!decide (v < nI 0) && !decide (nI n - nI 1 < v)) := by
  unfold q_is
  by_cases h0 : v < nI 0
  · rw [decide_eq_true h0]; rfl
  · obtain ⟨e, hl⟩ := nI_self (show ¬ v < 0 from h0)
    rw [decide_eq_false h0]
    congr 1
    rw [e]
    generalize v.toNatClampNeg = j at hl
    cases n with
    | zero =>
      rw [show nI 0 - nI 1 = (-1 : Int32) by decide +kernel]
      simp (disch := omega) only [lt_i, m1_lt]
      simp
    | succ n =>
      rw [nI_sub (by omega), Nat.add_sub_cancel]
      simp (disch := omega) only [lt_i]
      rw [← decide_not, decide_eq_decide]
      omega
variable {X : KXw} {n tot kn D : Nat} {kx : Nat → Nat × Nat} {M : MMw}
theorem c_in (hD : 1 ≤ D) {v : Int32} {b : Nat} : callw X D 17 [.inl v, .inl (nI b)] (Gk n tot kn kx) M = some (b2i (q_in v 0 b), Gk n tot kn kx, M) :=
  ex1 hD (fun cl => t_17_0_ok X cl n tot kn kx _ _ M) (fun cl => by
    unfold t_17_0 q_in
    simp only [o_nI, z_nI]
    by_cases h1 : v < nI 0
    · rw [if_pos h1, decide_eq_true h1]; rfl
    · rw [if_neg h1, decide_eq_false h1]
      by_cases h2 : nI b < v
      · rw [if_pos h2, decide_eq_true h2]; rfl
      · rw [if_neg h2, decide_eq_false h2]; rfl)
theorem m_in (hD : 1 ≤ D) {v : Int32} {a b : Nat} : callw X D 20 [.inl v, .inl (nI a), .inl (nI b)] (Gk n tot kn kx) M = some (b2i (q_in v a b), Gk n tot kn kx, M) := by
  rw [m_isIn hD]
  unfold q_in
  by_cases h1 : v < nI a
  · rw [if_pos h1, decide_eq_true h1]; rfl
  · rw [if_neg h1, decide_eq_false h1]
    by_cases h2 : nI b < v
    · rw [if_pos h2, decide_eq_true h2]; rfl
    · rw [if_neg h2, decide_eq_false h2]; rfl
theorem m_is (hD : 1 ≤ D) {v : Int32} {b : Nat} (hb : b < 2 ^ 31) : callw X D 20 [.inl v, .inl (nI 0), .inl (nI b - nI 1)] (Gk n tot kn kx) M = some (b2i (q_is v b), Gk n tot kn kx, M) := by
  rw [m_isIn hD, q_is_in hb]
  by_cases h1 : v < nI 0
  · rw [if_pos h1, decide_eq_true h1]; rfl
  · rw [if_neg h1, decide_eq_false h1]
    by_cases h2 : nI b - nI 1 < v
    · rw [if_pos h2, decide_eq_true h2]; rfl
    · rw [if_neg h2, decide_eq_false h2]; rfl
theorem c_isTool (hD : 1 ≤ D) {v : Int32} {T : Nat} (h : M 2 0 = nI T) (hT : T ≤ 8) : callw X D 25 [.inr (.inl 0), .inl v] (Gk n tot kn kx) M = some (b2i (q_is v T), Gk n tot kn kx, M) :=
  ex1 hD (fun cl => t_25_0_ok X cl n tot kn kx _ M) (fun cl => by
    unfold t_25_0 q_is
    simp only [o_nI, z_nI, h]
    by_cases h1 : v < nI 0
    · rw [if_pos h1, decide_eq_true h1]; rfl
    · rw [if_neg h1, decide_eq_false h1]
      by_cases h2 : v < nI T
      · rw [if_pos h2, decide_eq_true h2, if_pos (by
          obtain ⟨e, hl⟩ := nI_self (show ¬ v < 0 from h1)
          rw [e, lt_i hl (by omega)] at h2 ⊢
          omega)]; rfl
      · rw [if_neg h2, decide_eq_false h2]; rfl)
theorem c_isMan (hD : 1 ≤ D) {v : Int32} {T : Nat} (h : M 2 1 = nI T) (hT : T ≤ 4) : callw X D 26 [.inr (.inl 0), .inl v] (Gk n tot kn kx) M = some (b2i (q_is v T), Gk n tot kn kx, M) :=
  ex1 hD (fun cl => t_26_0_ok X cl n tot kn kx _ M) (fun cl => by
    unfold t_26_0 q_is
    simp only [o_nI, z_nI, h]
    by_cases h1 : v < nI 0
    · rw [if_pos h1, decide_eq_true h1]; rfl
    · rw [if_neg h1, decide_eq_false h1]
      by_cases h2 : v < nI T
      · rw [if_pos h2, decide_eq_true h2, if_pos (by
          obtain ⟨e, hl⟩ := nI_self (show ¬ v < 0 from h1)
          rw [e, lt_i hl (by omega)] at h2 ⊢
          omega)]; rfl
      · rw [if_neg h2, decide_eq_false h2]; rfl)
theorem m_isTool (hD : 2 ≤ D) {v : Int32} {T : Nat} (h : M 179 96 = nI T) (hT : T ≤ 8) : callw X D 31 [.inr (.inl 178), .inl v] (Gk n tot kn kx) M = some (b2i (q_is v T), Gk n tot kn kx, M) :=
  exk (k := 1) hD (fun D' hD' => t_31_0_ok X (callw X D') n tot kn kx _ M) (fun D' hD' => by
    unfold t_31_0
    simp only [o_nI, h]
    rw [m_is hD' (by omega), bnd_some, b2i_nrw, if_pos rfl])
theorem m_isMan (hD : 2 ≤ D) {v : Int32} {T : Nat} (h : M 179 97 = nI T) (hT : T ≤ 8) : callw X D 32 [.inr (.inl 178), .inl v] (Gk n tot kn kx) M = some (b2i (q_is v T), Gk n tot kn kx, M) :=
  exk (k := 1) hD (fun D' hD' => t_32_0_ok X (callw X D') n tot kn kx _ M) (fun D' hD' => by
    unfold t_32_0
    simp only [o_nI, h]
    rw [m_is hD' (by omega), bnd_some, b2i_nrw, if_pos rfl])
theorem m_isWork (hD : 2 ≤ D) {v : Int32} {T : Nat} (h : M 179 98 = nI T) (hT : T ≤ 8) : callw X D 216 [.inr (.inl 178), .inl v] (Gk n tot kn kx) M = some (b2i (q_is v T), Gk n tot kn kx, M) :=
  exk (k := 1) hD (fun D' hD' => t_216_0_ok X (callw X D') n tot kn kx _ M) (fun D' hD' => by
    unfold t_216_0
    simp only [o_nI, h]
    rw [m_is hD' (by omega), bnd_some, b2i_nrw, if_pos rfl])
theorem c_forget (hD : 1 ≤ D) : callw X D 13 [.inr (.inl 0)] (Gk n tot kn kx) M = some (0, Gk n tot kn kx, up M 0 5 (nI 0)) := ex1 hD (fun cl => t_13_0_ok X cl n tot kn kx M) (fun cl => rfl)
theorem m_forget (hD : 1 ≤ D) : callw X D 15 [.inr (.inl 178)] (Gk n tot kn kx) M = some (0, Gk n tot kn kx, up M 178 4 (nI 0)) := ex1 hD (fun cl => t_15_0_ok X cl n tot kn kx M) (fun cl => rfl)
/-! state -/
theorem P_state (hD : 2 ≤ D) {v : Int32} {len s : Nat} (h : Rl kn len s M) : Pr X D 14 16 [.inr (.inl 0), .inl v] [.inr (.inl 178), .inl v] (Gk n tot kn kx) M (Rl kn len s) := by
  refine Pr.mk (Q1 := fun x M1 => x = M 179 3 ∧ M1 = up (up M 10 7 v) 0 5 (nI 0)) (Sq.mk (k := 1) hD (fun D' hD' => ?_)) ?_
  · refine Lq.of (t_14_0_ok X (callw X D') n tot kn kx _ M) ?_
    unfold t_14_0
    rw [c_forget hD', bnd_some, Wq_ret]
    exact ⟨h.1.1.2.1.2.1, rfl⟩
  · rintro x M1 ⟨rfl, rfl⟩
    refine Sq.mk (k := 1) hD (fun D' hD' => ?_)
    refine Lq.of (t_16_0_ok X (callw X D') n tot kn kx _ _) ?_
    unfold t_16_0
    rw [m_forget hD', bnd_some, Wq_ret]
    refine ⟨by simp (disch := omega) only [Nat.one_mul, m1_nI, m1n, o_nI, z_nI, i1_nI, im1_nI, nI_add, nI_mul, lt_i, eq_i, inb_nI, ↓reduceIte, nI_clamp, bnd_some, b2i_0, b2i_1, b2i_t, b2i_f, Wq_ret, Wq_jmp, up_ne, up_at, upW_s, upW_n, Nat.reduceAdd, Nat.reduceMul, Nat.reduceLT, Nat.reduceEqDiff, Nat.add_zero, Nat.zero_add, reduceCtorEq], ?_⟩
    have hb3 := h.1.1.2.2.1.1.2.2.1.2
    have e9 : up (up (up (up M 10 7 v) 0 5 (nI 0)) 179 3 v) 178 4 (nI 0) 179 = upW (M 179) 3 v := by
      rw [up_ne (by decide), up_at, up_ne (by decide), up_ne (by decide)]
    refine h.forget ⟨?_, ?_⟩ (Stat.of2 (L := [10, 0, 179, 178]) ((((Fr.rf.up (by decide)).up (by decide)).up (by decide)).up (by decide)) (by decide) (by simp (disch := omega) only [Nat.one_mul, m1_nI, m1n, o_nI, z_nI, i1_nI, im1_nI, nI_add, nI_mul, lt_i, eq_i, inb_nI, ↓reduceIte, nI_clamp, bnd_some, b2i_0, b2i_1, b2i_t, b2i_f, Wq_ret, Wq_jmp, up_ne, up_at, upW_s, upW_n, Nat.reduceAdd, Nat.reduceMul, Nat.reduceLT, Nat.reduceEqDiff, Nat.add_zero, Nat.zero_add, reduceCtorEq]) (fun k hk => by simp (disch := omega) only [Nat.one_mul, m1_nI, m1n, o_nI, z_nI, i1_nI, im1_nI, nI_add, nI_mul, lt_i, eq_i, inb_nI, ↓reduceIte, nI_clamp, bnd_some, b2i_0, b2i_1, b2i_t, b2i_f, Wq_ret, Wq_jmp, up_ne, up_at, upW_s, upW_n, Nat.reduceAdd, Nat.reduceMul, Nat.reduceLT, Nat.reduceEqDiff, Nat.add_zero, Nat.zero_add, reduceCtorEq])) (by simp (disch := omega) only [Nat.one_mul, m1_nI, m1n, o_nI, z_nI, i1_nI, im1_nI, nI_add, nI_mul, lt_i, eq_i, inb_nI, ↓reduceIte, nI_clamp, bnd_some, b2i_0, b2i_1, b2i_t, b2i_f, Wq_ret, Wq_jmp, up_ne, up_at, upW_s, upW_n, Nat.reduceAdd, Nat.reduceMul, Nat.reduceLT, Nat.reduceEqDiff, Nat.add_zero, Nat.zero_add, reduceCtorEq]) (by simp (disch := omega) only [Nat.one_mul, m1_nI, m1n, o_nI, z_nI, i1_nI, im1_nI, nI_add, nI_mul, lt_i, eq_i, inb_nI, ↓reduceIte, nI_clamp, bnd_some, b2i_0, b2i_1, b2i_t, b2i_f, Wq_ret, Wq_jmp, up_ne, up_at, upW_s, upW_n, Nat.reduceAdd, Nat.reduceMul, Nat.reduceLT, Nat.reduceEqDiff, Nat.add_zero, Nat.zero_add, reduceCtorEq]) (by simp (disch := omega) only [Nat.one_mul, m1_nI, m1n, o_nI, z_nI, i1_nI, im1_nI, nI_add, nI_mul, lt_i, eq_i, inb_nI, ↓reduceIte, nI_clamp, bnd_some, b2i_0, b2i_1, b2i_t, b2i_f, Wq_ret, Wq_jmp, up_ne, up_at, upW_s, upW_n, Nat.reduceAdd, Nat.reduceMul, Nat.reduceLT, Nat.reduceEqDiff, Nat.add_zero, Nat.zero_add, reduceCtorEq])
    · rw [e9]
      have hy : sameY (M 179) (upW (M 179) 3 v) := sameY.rf.up (by unfold mvI; omega)
      exact ⟨h.1.1.1.ch (fun d hd => by unfold Yp at hd; rw [up_ne (by omega), up_ne (by omega), up_ne (by omega), up_ne (by omega)]) hy h.1.1.2.2.1.1, (h.1.1.2.1.dr (v := v)).fr (L := [0, 179, 178]) (((Fr.rf.up (by decide)).up (by decide)).up (by decide)) (by decide), h.1.1.2.2.1.ch hy, h.1.1.2.2.2.un (by omega) (by omega)⟩
    · rw [e9]
      exact h.1.2.ch (by rw [up_ne (by decide), up_ne (by decide), up_ne (by decide), up_ne (by decide)]) (fun t ht => upW_n (by omega))
end
