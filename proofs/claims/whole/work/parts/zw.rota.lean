section
-- needs: hull2
/-! all works; a rota on both sides -/
variable {X : KXw} {n tot kn D : Nat} {kx : Nat → Nat × Nat} {M : MMw}
def ChQ (tp : Nat → Nat) (L : Nat) (M : MMw) (ws : List WkT) (r : (Nat × Nat) ⊕ List WkT) (x : Int32) (M' : MMw) : Prop := match r with
  | .inl (a, i) => x = nI 0 ∧ CHr M M' ∧ FtC tp L a i M'
  | .inr wx => x = nI 1 ∧ CHr M M' ∧ HlC M' (ws ++ wx) ∧ M' 95 2 = nI 0 ∧ M' 95 3 = -1
def MhQ (tp : Nat → Nat) (L : Nat) (M : MMw) (ws : List WkT) (r : (Nat × Nat) ⊕ List WkT) (x : Int32) (M' : MMw) : Prop := match r with
  | .inl (a, i) => x = nI 0 ∧ MHr M M' ∧ FtM tp L a i M'
  | .inr wx => x = nI 1 ∧ MHr M M' ∧ HlM M' (ws ++ wx)
def GdH (one : Nat) (r : (Nat × Nat) ⊕ List WkT) : Prop := match r with
  | .inl _ => True
  | .inr wx => one + wx.length ≤ 8 ∧ ∀ (j : Nat) (q : WkT), wx[j]? = some q → q.1 < 4 ∧ 1 ≤ q.2.1 ∧ q.2.1 ≤ 3 ∧ q.2.2 < 2 ^ (one + j)
theorem J_hull {tp : Nat → Nat} {L ct : Nat} (hx : TxP tp L ct) : ∀ (c k one : Nat), ct ≤ k + c → k ≤ ct → one ≤ 8 → ∃ r : (Nat × Nat) ⊕ List WkT,
    (∀ (D : Nat) (ws : List WkT) (M : MMw), 4 ≤ D → ClT tp L ct M k → HlC M ws → ws.length = one → Lq X (callw X D) 137 10 [some (.inr (.inl 95)), some (.inl (nI one))] (Gk n tot kn kx) M (ChQ tp L M ws r)) ∧
    (∀ (D : Nat) (ws : List WkT) (M : MMw), 13 ≤ D → MdT tp L 2 M k → HlM M ws → ws.length = one → LrR X n tot kn kx D 1 M (MhQ tp L M ws r)) ∧ GdH one r := by
  have stop : ∀ (k one : Nat), k_tk tp L k = 0 → one ≤ 8 → (∀ (D : Nat) (ws : List WkT) (M : MMw), 4 ≤ D → ClT tp L ct M k → HlC M ws → ws.length = one → Lq X (callw X D) 137 10 [some (.inr (.inl 95)), some (.inl (nI one))] (Gk n tot kn kx) M (ChQ tp L M ws (.inr []))) ∧
    (∀ (D : Nat) (ws : List WkT) (M : MMw), 13 ≤ D → MdT tp L 2 M k → HlM M ws → ws.length = one → LrR X n tot kn kx D 1 M (MhQ tp L M ws (.inr []))) ∧ GdH one (.inr []) := fun k one t0 h1 => by
    refine ⟨fun D ws M hD hC hH hl => ?_, fun D ws M hD hM hH hl => ?_, h1, fun j q hq => by cases hq⟩
    · refine Lq.of (t_137_p95_10_ok X (callw X D) n tot kn kx _ M) ?_
      unfold t_137_p95_10
      simp only [o_nI]
      rw [hC.2.1, t0, if_neg (by rw [lt_i (by omega) (by omega)]; omega), if_pos (by rfl), Wq_ret]
      exact ⟨rfl, CHr.rf, by rw [List.append_nil]; exact hH, hC.1.2⟩
    · refine Lq.of (t_173_7_ok X (callw X D) n tot kn kx _ M) ?_
      unfold t_173_7
      rw [if_neg (by decide +kernel), hM.2.2.2.1, t0, if_pos (by rfl), if_pos nrw_1, Wq_ret]
      exact ⟨rfl, MHr.rf, by rw [List.append_nil]; exact hH⟩
  intro c
  induction c with
  | zero =>
    intro k one hc hk h1
    have e0 : k_tk tp L k = 0 := by rw [show k = ct by omega]; exact tx_end hx
    exact ⟨_, stop k one e0 h1⟩
  | succ c ih =>
    intro k one hc hk h1
    by_cases t0 : k_tk tp L k = 0
    · exact ⟨_, stop k one t0 h1⟩
    · obtain ⟨r1, a1, a2, a3⟩ := J_work (X := X) (n := n) (tot := tot) (kn := kn) (kx := kx) hx hk t0 h1
      have hb := tx_tk (k := k) hx
      have cls : ∀ (D : Nat) (M : MMw) (Q : Int32 → MMw → Prop), ClT tp L ct M k → Wq X (callw X D) 137 (Gk n tot kn kx) Q (bnd (callw X D 136 [.inr (.inl 95)] (Gk n tot kn kx) M) fun r1 _ M2 => (if r1 = (0 : Int32) then some (.inl (nI 0, Gk n tot kn kx, M2)) else some (.inr (10, [some (.inr (.inl 95)), some (.inl (nI (one + 1)))], [], (Gk n tot kn kx), M2)))) → Lq X (callw X D) 137 10 [some (.inr (.inl 95)), some (.inl (nI one))] (Gk n tot kn kx) M Q := fun D M Q hC hK => by
        refine Lq.of (t_137_p95_10_ok X (callw X D) n tot kn kx _ M) ?_
        unfold t_137_p95_10
        simp only [o_nI]
        rw [hC.2.1, if_neg (by rw [lt_i (by omega) (by omega)]; omega), if_neg (by rw [z_nI, eq_i (by omega) (by omega)]; exact t0), i1_nI, nI_add]
        exact hK
      rcases r1 with ⟨a, i⟩ | ⟨k', q⟩
      · refine ⟨.inl (a, i), fun D ws M hD hC hH hl => ?_, fun D ws M hD hM hH hl => ?_, trivial⟩
        · refine cls D M _ hC ?_
          refine Wq.call (a1 D ws M hD hC hH hl) ?_
          rintro y M3 h3
          obtain ⟨rfl, f3, t3⟩ : y = nI 0 ∧ CHr M M3 ∧ FtC tp L a i M3 := h3
          rw [if_pos (by rfl), Wq_ret]
          exact ⟨rfl, f3, t3⟩
        · exact a2 D ws M _ hD hM hH hl (fun M' g1 g2 => ⟨rfl, g1, g2⟩)
      · obtain ⟨b1, b2, b3, b4, b5, b6, b7⟩ := a3
        obtain ⟨r2, c1, c2, c3⟩ := ih k' (one + 1) (by omega) b2 (by omega)
        obtain ⟨r, hr⟩ : ∃ r : (Nat × Nat) ⊕ List WkT, r = (match r2 with | .inl e => .inl e | .inr wx => .inr (q :: wx)) := ⟨_, rfl⟩
        refine ⟨r, fun D ws M hD hC hH hl => ?_, fun D ws M hD hM hH hl => ?_, ?_⟩
        · refine cls D M _ hC ?_
          refine Wq.call (a1 D ws M hD hC hH hl) ?_
          rintro y M3 h3
          obtain ⟨rfl, f3, c3', h3'⟩ : y = nI 1 ∧ CHr M M3 ∧ ClT tp L ct M3 k' ∧ HlC M3 (ws ++ [q]) := h3
          rw [if_neg (by decide +kernel), Wq_jmp]
          refine Lq.mono (c1 D (ws ++ [q]) M3 hD c3' h3' (by rw [List.length_append, hl]; rfl)) (fun x M' hq => ?_)
          rw [hr]
          rcases r2 with ⟨a, i⟩ | wx
          · obtain ⟨q1, q2, q3⟩ := hq
            exact ⟨q1, f3.tr q2, q3⟩
          · obtain ⟨q1, q2, q3, q4⟩ := hq
            exact ⟨q1, f3.tr q2, by rw [List.append_assoc] at q3; exact q3, q4⟩
        · refine a2 D ws M _ hD hM hH hl (fun M' g1 g2 g3 => ?_)
          refine Lq.mono (c2 D (ws ++ [q]) M' hD g2 g3 (by rw [List.length_append, hl]; rfl)) (fun x M'' hq => ?_)
          rw [hr]
          rcases r2 with ⟨a, i⟩ | wx
          · obtain ⟨q1, q2, q3⟩ := hq
            exact ⟨q1, g1.tr q2, q3⟩
          · obtain ⟨q1, q2, q3⟩ := hq
            exact ⟨q1, g1.tr q2, by rw [List.append_assoc] at q3; exact q3⟩
        · rw [hr]
          rcases r2 with ⟨a, i⟩ | wx
          · trivial
          · obtain ⟨d1, d2⟩ := c3
            refine ⟨by rw [List.length_cons]; omega, fun j p hp => ?_⟩
            cases j with
            | zero =>
              cases hp
              exact ⟨b4, b5, b6, b7⟩
            | succ j =>
              have := d2 j p hp
              rw [show one + (j + 1) = one + 1 + j by omega]
              exact this
/-! a rota -/
abbrev DuT : Type := Nat × Nat × Nat × Nat × Nat
def RtC (M : MMw) (rs : List DuT) : Prop := M 114 0 = nI rs.length ∧ ∀ (j : Nat) (q : DuT), rs[j]? = some q → M 115 j = nI q.1 ∧ M 116 j = nI q.2.1 ∧ M 117 j = nI q.2.2.1 ∧ M 118 j = nI q.2.2.2.1 ∧ M 119 j = nI q.2.2.2.2
def RtM (M : MMw) (rs : List DuT) : Prop := M 178 15 = nI rs.length ∧ ∀ (j : Nat) (q : DuT), rs[j]? = some q → M 185 (5 * j) = nI q.1 ∧ M 185 (5 * j + 1) = nI q.2.1 ∧ M 185 (5 * j + 2) = nI q.2.2.1 ∧ M 185 (5 * j + 3) = nI q.2.2.2.1 ∧ M 185 (5 * j + 4) = nI q.2.2.2.2
def CRr (M M' : MMw) : Prop := Fr [95, 114, 115, 116, 117, 118, 119] M M' ∧ ∀ f, f ∉ [2, 3, 7, 8, 9] → M' 95 f = M 95 f
theorem CRr.rf {M : MMw} : CRr M M := ⟨Fr.rf, fun _ _ => rfl⟩
theorem CRr.tr {M M1 M2 : MMw} (h : CRr M M1) (g : CRr M1 M2) : CRr M M2 := ⟨h.1.tr g.1, fun f hf => (g.2 f hf).trans (h.2 f hf)⟩
theorem CRr.of {fs : List Nat} {M M' : MMw} (h : F9 fs M M') (hs : ∀ k, k ∈ fs → k ∈ [2, 3, 7, 8, 9]) : CRr M M' := ⟨h.1.mono (by decide), fun f hf => h.2 f (fun hh => hf (hs f hh))⟩
theorem crr_up {M M' : MMw} {c k : Nat} {v : Int32} (h : CRr M M') (hc : 114 ≤ c ∧ c ≤ 119) : CRr M (up M' c k v) := by
  refine ⟨h.1.up ?_, fun f hf => by rw [up_ne (by omega)]; exact h.2 f hf⟩
  simp only [List.mem_cons, List.not_mem_nil, or_false]
  omega
/-- one word and its number -/
def DuQ (tp : Nat → Nat) (L ct k w one p : Nat) (lo hi : Int32) (M : MMw) (x : Int32) (M' : MMw) : Prop :=
  (k_tk tp L k = w → k_nb tp L (k + 1) lo hi = 0 → x = nI 1 ∧ CRr M M' ∧ ClT tp L ct M' (k + 2) ∧ M' p = upW (M p) one (nI (k_vl tp L (k + 1))) ∧ (∀ d, 114 ≤ d → d ≤ 119 → d ≠ p → M' d = M d)) ∧
  (k_tk tp L k ≠ w → x = nI 0 ∧ CRr M M' ∧ FtC tp L 1 k M') ∧
  (k_tk tp L k = w → k_nb tp L (k + 1) lo hi ≠ 0 → x = nI 0 ∧ CRr M M' ∧ FtC tp L (k_nb tp L (k + 1) lo hi) (k + 1) M')
theorem c_due115 (hD : 3 ≤ D) {tp : Nat → Nat} {L ct k w one : Nat} {lo hi : Int32} (hx : TxP tp L ct) (hk : k ≤ ct) (hw : w < 2 ^ 31) (hw0 : w ≠ 0) (h1 : one < 20) (h114 : M 114 0 = nI one) (h : ClT tp L ct M k) : Sq X D 141 [.inr (.inl 95), .inl (nI w), .inr (.inl 115), .inl lo, .inl hi] (Gk n tot kn kx) M (DuQ tp L ct k w one 115 lo hi M) :=
  Sq.mk (k := 2) hD (fun D' hD' => by
    refine Lq.of (t_141_p95_p115_0_ok X (callw X D') n tot kn kx _ _ _ M) ?_
    unfold t_141_p95_p115_0
    simp only [o_nI]
    refine Wq.call (c_pass hD' hx hk hw hw0 h) ?_
    rintro x M2 ⟨g1, g2⟩
    by_cases e : k_tk tp L k = w
    · obtain ⟨rfl, f2, c2⟩ := g1 e
      have hk2 := tx_lt hx hk (by omega)
      rw [if_neg (by decide +kernel)]
      refine Wq.call (c_numb hD' hx (by omega) c2) ?_
      rintro y M3 ⟨g3, g4⟩
      by_cases hnb : k_nb tp L (k + 1) lo hi = 0
      · obtain ⟨rfl, f3, c3, v3⟩ := g3 hnb
        have e114 : M3 114 0 = nI one := by rw [f3.1 114 (by decide), f2.1 114 (by decide)]; exact h114
        rw [if_neg (by decide +kernel), e114, if_pos (by rw [lt_i (by omega) (by omega)]; exact h1), inb_nI h1 (by decide), if_pos rfl, nI_clamp (by omega), v3, Wq_ret]
        refine ⟨fun _ _ => ⟨rfl, crr_up ((CRr.of f2 (by decide)).tr (CRr.of f3 (by decide))) (by decide), c3.ne (by decide), ?_, fun d d1 d2 d3 => ?_⟩, fun hn => absurd e hn, fun _ hn => absurd hnb hn⟩
        · rw [up_at, f3.1 115 (by decide), f2.1 115 (by decide)]
        · rw [up_ne d3, f3.1 d (by simp only [List.mem_cons, List.not_mem_nil, or_false]; omega), f2.1 d (by simp only [List.mem_cons, List.not_mem_nil, or_false]; omega)]
      · obtain ⟨rfl, f3, t3⟩ := g4 hnb
        rw [if_pos (by rfl), Wq_ret]
        exact ⟨fun _ hn => absurd hn hnb, fun hn => absurd e hn, fun _ _ => ⟨rfl, (CRr.of f2 (by decide)).tr (CRr.of f3 (by decide)), t3⟩⟩
    · obtain ⟨rfl, f2, c2⟩ := g2 e
      rw [if_pos (by rfl), Wq_ret]
      exact ⟨fun hn => absurd hn e, fun _ => ⟨rfl, CRr.of f2 (by decide), c2⟩, fun hn => absurd hn e⟩)
theorem c_due116 (hD : 3 ≤ D) {tp : Nat → Nat} {L ct k w one : Nat} {lo hi : Int32} (hx : TxP tp L ct) (hk : k ≤ ct) (hw : w < 2 ^ 31) (hw0 : w ≠ 0) (h1 : one < 20) (h114 : M 114 0 = nI one) (h : ClT tp L ct M k) : Sq X D 141 [.inr (.inl 95), .inl (nI w), .inr (.inl 116), .inl lo, .inl hi] (Gk n tot kn kx) M (DuQ tp L ct k w one 116 lo hi M) :=
  Sq.mk (k := 2) hD (fun D' hD' => by
    refine Lq.of (t_141_p95_p116_0_ok X (callw X D') n tot kn kx _ _ _ M) ?_
    unfold t_141_p95_p116_0
    simp only [o_nI]
    refine Wq.call (c_pass hD' hx hk hw hw0 h) ?_
    rintro x M2 ⟨g1, g2⟩
    by_cases e : k_tk tp L k = w
    · obtain ⟨rfl, f2, c2⟩ := g1 e
      have hk2 := tx_lt hx hk (by omega)
      rw [if_neg (by decide +kernel)]
      refine Wq.call (c_numb hD' hx (by omega) c2) ?_
      rintro y M3 ⟨g3, g4⟩
      by_cases hnb : k_nb tp L (k + 1) lo hi = 0
      · obtain ⟨rfl, f3, c3, v3⟩ := g3 hnb
        have e114 : M3 114 0 = nI one := by rw [f3.1 114 (by decide), f2.1 114 (by decide)]; exact h114
        rw [if_neg (by decide +kernel), e114, if_pos (by rw [lt_i (by omega) (by omega)]; exact h1), inb_nI h1 (by decide), if_pos rfl, nI_clamp (by omega), v3, Wq_ret]
        refine ⟨fun _ _ => ⟨rfl, crr_up ((CRr.of f2 (by decide)).tr (CRr.of f3 (by decide))) (by decide), c3.ne (by decide), ?_, fun d d1 d2 d3 => ?_⟩, fun hn => absurd e hn, fun _ hn => absurd hnb hn⟩
        · rw [up_at, f3.1 116 (by decide), f2.1 116 (by decide)]
        · rw [up_ne d3, f3.1 d (by simp only [List.mem_cons, List.not_mem_nil, or_false]; omega), f2.1 d (by simp only [List.mem_cons, List.not_mem_nil, or_false]; omega)]
      · obtain ⟨rfl, f3, t3⟩ := g4 hnb
        rw [if_pos (by rfl), Wq_ret]
        exact ⟨fun _ hn => absurd hn hnb, fun hn => absurd e hn, fun _ _ => ⟨rfl, (CRr.of f2 (by decide)).tr (CRr.of f3 (by decide)), t3⟩⟩
    · obtain ⟨rfl, f2, c2⟩ := g2 e
      rw [if_pos (by rfl), Wq_ret]
      exact ⟨fun hn => absurd hn e, fun _ => ⟨rfl, CRr.of f2 (by decide), c2⟩, fun hn => absurd hn e⟩)
theorem c_due117 (hD : 3 ≤ D) {tp : Nat → Nat} {L ct k w one : Nat} {lo hi : Int32} (hx : TxP tp L ct) (hk : k ≤ ct) (hw : w < 2 ^ 31) (hw0 : w ≠ 0) (h1 : one < 20) (h114 : M 114 0 = nI one) (h : ClT tp L ct M k) : Sq X D 141 [.inr (.inl 95), .inl (nI w), .inr (.inl 117), .inl lo, .inl hi] (Gk n tot kn kx) M (DuQ tp L ct k w one 117 lo hi M) :=
  Sq.mk (k := 2) hD (fun D' hD' => by
    refine Lq.of (t_141_p95_p117_0_ok X (callw X D') n tot kn kx _ _ _ M) ?_
    unfold t_141_p95_p117_0
    simp only [o_nI]
    refine Wq.call (c_pass hD' hx hk hw hw0 h) ?_
    rintro x M2 ⟨g1, g2⟩
    by_cases e : k_tk tp L k = w
    · obtain ⟨rfl, f2, c2⟩ := g1 e
      have hk2 := tx_lt hx hk (by omega)
      rw [if_neg (by decide +kernel)]
      refine Wq.call (c_numb hD' hx (by omega) c2) ?_
      rintro y M3 ⟨g3, g4⟩
      by_cases hnb : k_nb tp L (k + 1) lo hi = 0
      · obtain ⟨rfl, f3, c3, v3⟩ := g3 hnb
        have e114 : M3 114 0 = nI one := by rw [f3.1 114 (by decide), f2.1 114 (by decide)]; exact h114
        rw [if_neg (by decide +kernel), e114, if_pos (by rw [lt_i (by omega) (by omega)]; exact h1), inb_nI h1 (by decide), if_pos rfl, nI_clamp (by omega), v3, Wq_ret]
        refine ⟨fun _ _ => ⟨rfl, crr_up ((CRr.of f2 (by decide)).tr (CRr.of f3 (by decide))) (by decide), c3.ne (by decide), ?_, fun d d1 d2 d3 => ?_⟩, fun hn => absurd e hn, fun _ hn => absurd hnb hn⟩
        · rw [up_at, f3.1 117 (by decide), f2.1 117 (by decide)]
        · rw [up_ne d3, f3.1 d (by simp only [List.mem_cons, List.not_mem_nil, or_false]; omega), f2.1 d (by simp only [List.mem_cons, List.not_mem_nil, or_false]; omega)]
      · obtain ⟨rfl, f3, t3⟩ := g4 hnb
        rw [if_pos (by rfl), Wq_ret]
        exact ⟨fun _ hn => absurd hn hnb, fun hn => absurd e hn, fun _ _ => ⟨rfl, (CRr.of f2 (by decide)).tr (CRr.of f3 (by decide)), t3⟩⟩
    · obtain ⟨rfl, f2, c2⟩ := g2 e
      rw [if_pos (by rfl), Wq_ret]
      exact ⟨fun hn => absurd hn e, fun _ => ⟨rfl, CRr.of f2 (by decide), c2⟩, fun hn => absurd hn e⟩)
theorem c_due118 (hD : 3 ≤ D) {tp : Nat → Nat} {L ct k w one : Nat} {lo hi : Int32} (hx : TxP tp L ct) (hk : k ≤ ct) (hw : w < 2 ^ 31) (hw0 : w ≠ 0) (h1 : one < 20) (h114 : M 114 0 = nI one) (h : ClT tp L ct M k) : Sq X D 141 [.inr (.inl 95), .inl (nI w), .inr (.inl 118), .inl lo, .inl hi] (Gk n tot kn kx) M (DuQ tp L ct k w one 118 lo hi M) :=
  Sq.mk (k := 2) hD (fun D' hD' => by
    refine Lq.of (t_141_p95_p118_0_ok X (callw X D') n tot kn kx _ _ _ M) ?_
    unfold t_141_p95_p118_0
    simp only [o_nI]
    refine Wq.call (c_pass hD' hx hk hw hw0 h) ?_
    rintro x M2 ⟨g1, g2⟩
    by_cases e : k_tk tp L k = w
    · obtain ⟨rfl, f2, c2⟩ := g1 e
      have hk2 := tx_lt hx hk (by omega)
      rw [if_neg (by decide +kernel)]
      refine Wq.call (c_numb hD' hx (by omega) c2) ?_
      rintro y M3 ⟨g3, g4⟩
      by_cases hnb : k_nb tp L (k + 1) lo hi = 0
      · obtain ⟨rfl, f3, c3, v3⟩ := g3 hnb
        have e114 : M3 114 0 = nI one := by rw [f3.1 114 (by decide), f2.1 114 (by decide)]; exact h114
        rw [if_neg (by decide +kernel), e114, if_pos (by rw [lt_i (by omega) (by omega)]; exact h1), inb_nI h1 (by decide), if_pos rfl, nI_clamp (by omega), v3, Wq_ret]
        refine ⟨fun _ _ => ⟨rfl, crr_up ((CRr.of f2 (by decide)).tr (CRr.of f3 (by decide))) (by decide), c3.ne (by decide), ?_, fun d d1 d2 d3 => ?_⟩, fun hn => absurd e hn, fun _ hn => absurd hnb hn⟩
        · rw [up_at, f3.1 118 (by decide), f2.1 118 (by decide)]
        · rw [up_ne d3, f3.1 d (by simp only [List.mem_cons, List.not_mem_nil, or_false]; omega), f2.1 d (by simp only [List.mem_cons, List.not_mem_nil, or_false]; omega)]
      · obtain ⟨rfl, f3, t3⟩ := g4 hnb
        rw [if_pos (by rfl), Wq_ret]
        exact ⟨fun _ hn => absurd hn hnb, fun hn => absurd e hn, fun _ _ => ⟨rfl, (CRr.of f2 (by decide)).tr (CRr.of f3 (by decide)), t3⟩⟩
    · obtain ⟨rfl, f2, c2⟩ := g2 e
      rw [if_pos (by rfl), Wq_ret]
      exact ⟨fun hn => absurd hn e, fun _ => ⟨rfl, CRr.of f2 (by decide), c2⟩, fun hn => absurd hn e⟩)
theorem c_due119 (hD : 3 ≤ D) {tp : Nat → Nat} {L ct k w one : Nat} {lo hi : Int32} (hx : TxP tp L ct) (hk : k ≤ ct) (hw : w < 2 ^ 31) (hw0 : w ≠ 0) (h1 : one < 20) (h114 : M 114 0 = nI one) (h : ClT tp L ct M k) : Sq X D 141 [.inr (.inl 95), .inl (nI w), .inr (.inl 119), .inl lo, .inl hi] (Gk n tot kn kx) M (DuQ tp L ct k w one 119 lo hi M) :=
  Sq.mk (k := 2) hD (fun D' hD' => by
    refine Lq.of (t_141_p95_p119_0_ok X (callw X D') n tot kn kx _ _ _ M) ?_
    unfold t_141_p95_p119_0
    simp only [o_nI]
    refine Wq.call (c_pass hD' hx hk hw hw0 h) ?_
    rintro x M2 ⟨g1, g2⟩
    by_cases e : k_tk tp L k = w
    · obtain ⟨rfl, f2, c2⟩ := g1 e
      have hk2 := tx_lt hx hk (by omega)
      rw [if_neg (by decide +kernel)]
      refine Wq.call (c_numb hD' hx (by omega) c2) ?_
      rintro y M3 ⟨g3, g4⟩
      by_cases hnb : k_nb tp L (k + 1) lo hi = 0
      · obtain ⟨rfl, f3, c3, v3⟩ := g3 hnb
        have e114 : M3 114 0 = nI one := by rw [f3.1 114 (by decide), f2.1 114 (by decide)]; exact h114
        rw [if_neg (by decide +kernel), e114, if_pos (by rw [lt_i (by omega) (by omega)]; exact h1), inb_nI h1 (by decide), if_pos rfl, nI_clamp (by omega), v3, Wq_ret]
        refine ⟨fun _ _ => ⟨rfl, crr_up ((CRr.of f2 (by decide)).tr (CRr.of f3 (by decide))) (by decide), c3.ne (by decide), ?_, fun d d1 d2 d3 => ?_⟩, fun hn => absurd e hn, fun _ hn => absurd hnb hn⟩
        · rw [up_at, f3.1 119 (by decide), f2.1 119 (by decide)]
        · rw [up_ne d3, f3.1 d (by simp only [List.mem_cons, List.not_mem_nil, or_false]; omega), f2.1 d (by simp only [List.mem_cons, List.not_mem_nil, or_false]; omega)]
      · obtain ⟨rfl, f3, t3⟩ := g4 hnb
        rw [if_pos (by rfl), Wq_ret]
        exact ⟨fun _ hn => absurd hn hnb, fun hn => absurd e hn, fun _ _ => ⟨rfl, (CRr.of f2 (by decide)).tr (CRr.of f3 (by decide)), t3⟩⟩
    · obtain ⟨rfl, f2, c2⟩ := g2 e
      rw [if_pos (by rfl), Wq_ret]
      exact ⟨fun hn => absurd hn e, fun _ => ⟨rfl, CRr.of f2 (by decide), c2⟩, fun hn => absurd hn e⟩)
abbrev RzD : Type := (Nat × Nat) ⊕ (Nat × DuT)
/-- where a line of a rota fails, or what it tells -/
def k_du (tp : Nat → Nat) (L k T N W : Nat) : RzD :=
  if k_nb tp L (k + 1) (nI 0) (nI T - nI 1) = 0 then
  if k_tk tp L (k + 2) = 123 then if k_nb tp L (k + 3) (nI 0) (nI N - nI 1) = 0 then
  if k_tk tp L (k + 4) = 119 then if k_nb tp L (k + 5) (nI 0) (nI W - nI 1) = 0 then
  if k_tk tp L (k + 6) = 124 then if k_nb tp L (k + 7) (nI 0) (nI 9999) = 0 then
  if k_tk tp L (k + 8) = 125 then if k_nb tp L (k + 9) (nI 1) (nI 99) = 0 then
  if k_tk tp L (k + 10) = 59 then .inr (k + 11, (k_vl tp L (k + 1), k_vl tp L (k + 3), k_vl tp L (k + 5), k_vl tp L (k + 7), k_vl tp L (k + 9)))
  else .inl (1, k + 10) else .inl (k_nb tp L (k + 9) (nI 1) (nI 99), k + 9) else .inl (1, k + 8)
  else .inl (k_nb tp L (k + 7) (nI 0) (nI 9999), k + 7) else .inl (1, k + 6)
  else .inl (k_nb tp L (k + 5) (nI 0) (nI W - nI 1), k + 5) else .inl (1, k + 4)
  else .inl (k_nb tp L (k + 3) (nI 0) (nI N - nI 1), k + 3) else .inl (1, k + 2)
  else .inl (k_nb tp L (k + 1) (nI 0) (nI T - nI 1), k + 1)
theorem k_nb_2 {tp : Nat → Nat} {L k : Nat} {lo hi : Int32} (h : k_nb tp L k lo hi = 0) : k_tk tp L k = 2 := by
  unfold k_nb at h
  by_cases h2 : k_tk tp L k = 2
  · exact h2
  · rw [if_neg h2] at h; cases h
theorem k_tR3 : ∀ c, c < 126 → (k_mt 3 c = 10 ↔ c = 122) ∧ (k_mt 3 c = 11 ↔ c = 123) ∧ (k_mt 3 c = 7 ↔ c = 119) ∧ (k_mt 3 c = 12 ↔ c = 124) ∧ (k_mt 3 c = 13 ↔ c = 125) := by decide +kernel
theorem k_tR3b : ∀ c, c < 126 → (k_mt 3 c = 159 ↔ c = 59) ∧ (k_mt 3 c = 0 ↔ c = 0) := by decide +kernel
/-- the numbers that are asked for -/
def NmC (M : MMw) (T N W : Nat) : Prop := M 2 0 = nI T ∧ M 2 1 = nI N ∧ M 17 0 = nI W
def NmM (M : MMw) (T N W : Nat) : Prop := M 179 96 = nI T ∧ M 179 97 = nI N ∧ M 179 98 = nI W
theorem NmC.fr {M M' : MMw} {T N W : Nat} (h : NmC M T N W) (f : CRr M M') : NmC M' T N W := by
  unfold NmC
  rw [f.1 2 (by decide), f.1 17 (by decide)]
  exact h
theorem NmM.fr {M M' : MMw} {T N W : Nat} (h : NmM M T N W) (f : MHr M M') : NmM M' T N W := by
  unfold NmM
  rw [f.1 179 (by decide)]
  exact h
def CdQ (tp : Nat → Nat) (L ct : Nat) (M : MMw) (rs : List DuT) (r : RzD) (x : Int32) (M' : MMw) : Prop := match r with
  | .inl (a, i) => x = nI 0 ∧ CRr M M' ∧ FtC tp L a i M'
  | .inr (k', q) => x = nI 1 ∧ CRr M M' ∧ ClT tp L ct M' k' ∧ RtC M' (rs ++ [q])
theorem c_duty (hD : 4 ≤ D) {tp : Nat → Nat} {L ct k one T N W : Nat} {rs : List DuT} (hx : TxP tp L ct) (hk : k ≤ ct) (t0 : k_tk tp L k = 122) (h1 : one < 20) (h : ClT tp L ct M k) (hN : NmC M T N W) (hR : RtC M rs) (hl : rs.length = one) : Sq X D 142 [.inr (.inl 95), .inr (.inl 1)] (Gk n tot kn kx) M (CdQ tp L ct M rs (k_du tp L k T N W)) :=
  Sq.mk (k := 3) hD (fun D' hD' => by
    have hb := tx_tk (k := k) hx
    refine Lq.of (t_142_p95_p1_0_ok X (callw X D') n tot kn kx M) ?_
    unfold t_142_p95_p1_0
    simp only [o_nI]
    rw [h.2.1, if_pos (by rw [t0]), hR.1, hl, if_pos (by rw [lt_i (by omega) (by omega)]; exact h1), hN.1]
    have e1 : M 114 0 = nI one := by rw [hR.1, hl]
    refine Wq.call (c_due115 hD' hx hk (by decide) (by decide) h1 e1 h) ?_
    rintro x1 M1 ⟨g1, g2, g3⟩
    by_cases n1 : k_nb tp L (k + 1) (nI 0) (nI T - nI 1) = 0
    case neg =>
      obtain ⟨rfl, f1, q1⟩ := g3 t0 n1
      rw [if_pos (by rfl), Wq_ret, k_du, if_neg n1]
      exact ⟨rfl, f1, q1⟩
    obtain ⟨rfl, f1, c1, p1, o1⟩ := g1 t0 n1
    have b1 := tx_lt hx (show k + 1 ≤ ct by have := tx_lt hx hk (by omega); omega) (by rw [k_nb_2 n1]; decide)
    rw [if_neg (by decide +kernel), (hN.fr f1).2.1]
    have e2 : M1 114 0 = nI one := by rw [o1 114 (by decide) (by decide) (by decide)]; exact e1
    refine Wq.call (c_due116 hD' hx (by omega) (by decide) (by decide) h1 e2 c1) ?_
    rintro x2 M2 ⟨g1, g2, g3⟩
    by_cases t2 : k_tk tp L (k + 2) = 123
    case neg =>
      obtain ⟨rfl, f2, q2⟩ := g2 t2
      rw [if_pos (by rfl), Wq_ret, k_du, if_pos n1, if_neg t2]
      exact ⟨rfl, f1.tr f2, q2⟩
    by_cases n3 : k_nb tp L (k + 3) (nI 0) (nI N - nI 1) = 0
    case neg =>
      obtain ⟨rfl, f2, q2⟩ := g3 t2 n3
      rw [if_pos (by rfl), Wq_ret, k_du, if_pos n1, if_pos t2, if_neg n3]
      exact ⟨rfl, f1.tr f2, q2⟩
    obtain ⟨rfl, f2, c2, p2, o2⟩ := g1 t2 n3
    have f12 := f1.tr f2
    have b2 := tx_lt hx (show k + 3 ≤ ct by have := tx_lt hx (show k + 2 ≤ ct by omega) (by omega); omega) (by rw [k_nb_2 n3]; decide)
    rw [if_neg (by decide +kernel), (hN.fr f12).2.2]
    have e3 : M2 114 0 = nI one := by rw [o2 114 (by decide) (by decide) (by decide)]; exact e2
    refine Wq.call (c_due117 hD' hx (by omega) (by decide) (by decide) h1 e3 c2) ?_
    rintro x3 M3 ⟨g1, g2, g3⟩
    by_cases t4 : k_tk tp L (k + 4) = 119
    case neg =>
      obtain ⟨rfl, f3, q3⟩ := g2 t4
      rw [if_pos (by rfl), Wq_ret, k_du, if_pos n1, if_pos t2, if_pos n3, if_neg t4]
      exact ⟨rfl, f12.tr f3, q3⟩
    by_cases n5 : k_nb tp L (k + 5) (nI 0) (nI W - nI 1) = 0
    case neg =>
      obtain ⟨rfl, f3, q3⟩ := g3 t4 n5
      rw [if_pos (by rfl), Wq_ret, k_du, if_pos n1, if_pos t2, if_pos n3, if_pos t4, if_neg n5]
      exact ⟨rfl, f12.tr f3, q3⟩
    obtain ⟨rfl, f3, c3, p3, o3⟩ := g1 t4 n5
    have f13 := f12.tr f3
    have b3 := tx_lt hx (show k + 5 ≤ ct by have := tx_lt hx (show k + 4 ≤ ct by omega) (by omega); omega) (by rw [k_nb_2 n5]; decide)
    rw [if_neg (by decide +kernel)]
    have e4 : M3 114 0 = nI one := by rw [o3 114 (by decide) (by decide) (by decide)]; exact e3
    refine Wq.call (c_due118 hD' hx (by omega) (by decide) (by decide) h1 e4 c3) ?_
    rintro x4 M4 ⟨g1, g2, g3⟩
    by_cases t6 : k_tk tp L (k + 6) = 124
    case neg =>
      obtain ⟨rfl, f4, q4⟩ := g2 t6
      rw [if_pos (by rfl), Wq_ret, k_du, if_pos n1, if_pos t2, if_pos n3, if_pos t4, if_pos n5, if_neg t6]
      exact ⟨rfl, f13.tr f4, q4⟩
    by_cases n7 : k_nb tp L (k + 7) (nI 0) (nI 9999) = 0
    case neg =>
      obtain ⟨rfl, f4, q4⟩ := g3 t6 n7
      rw [if_pos (by rfl), Wq_ret, k_du, if_pos n1, if_pos t2, if_pos n3, if_pos t4, if_pos n5, if_pos t6, if_neg n7]
      exact ⟨rfl, f13.tr f4, q4⟩
    obtain ⟨rfl, f4, c4, p4, o4⟩ := g1 t6 n7
    have f14 := f13.tr f4
    have b4 := tx_lt hx (show k + 7 ≤ ct by have := tx_lt hx (show k + 6 ≤ ct by omega) (by omega); omega) (by rw [k_nb_2 n7]; decide)
    rw [if_neg (by decide +kernel)]
    have e5 : M4 114 0 = nI one := by rw [o4 114 (by decide) (by decide) (by decide)]; exact e4
    refine Wq.call (c_due119 hD' hx (by omega) (by decide) (by decide) h1 e5 c4) ?_
    rintro x5 M5 ⟨g1, g2, g3⟩
    by_cases t8 : k_tk tp L (k + 8) = 125
    case neg =>
      obtain ⟨rfl, f5, q5⟩ := g2 t8
      rw [if_pos (by rfl), Wq_ret, k_du, if_pos n1, if_pos t2, if_pos n3, if_pos t4, if_pos n5, if_pos t6, if_pos n7, if_neg t8]
      exact ⟨rfl, f14.tr f5, q5⟩
    by_cases n9 : k_nb tp L (k + 9) (nI 1) (nI 99) = 0
    case neg =>
      obtain ⟨rfl, f5, q5⟩ := g3 t8 n9
      rw [if_pos (by rfl), Wq_ret, k_du, if_pos n1, if_pos t2, if_pos n3, if_pos t4, if_pos n5, if_pos t6, if_pos n7, if_pos t8, if_neg n9]
      exact ⟨rfl, f14.tr f5, q5⟩
    obtain ⟨rfl, f5, c5, p5, o5⟩ := g1 t8 n9
    have f15 := f14.tr f5
    have b5 := tx_lt hx (show k + 9 ≤ ct by have := tx_lt hx (show k + 8 ≤ ct by omega) (by omega); omega) (by rw [k_nb_2 n9]; decide)
    have e6 : M5 114 0 = nI one := by rw [o5 114 (by decide) (by decide) (by decide)]; exact e5
    rw [if_neg (by decide +kernel), e6, nI_add]
    refine Wq.call (c_pass (by omega) hx (show k + 10 ≤ ct by omega) (by decide) (by decide) (c5.ne (c := 114) (by decide))) ?_
    rintro x6 M6 ⟨g1, g2⟩
    have f16 : CRr M (up M5 114 0 (nI (one + 1))) := crr_up f15 (by decide)
    by_cases t10 : k_tk tp L (k + 10) = 59
    case neg =>
      obtain ⟨rfl, f6, q6⟩ := g2 t10
      rw [if_pos nrw_0, Wq_ret, k_du, if_pos n1, if_pos t2, if_pos n3, if_pos t4, if_pos n5, if_pos t6, if_pos n7, if_pos t8, if_pos n9, if_neg t10]
      exact ⟨rfl, f16.tr (CRr.of f6 (by decide)), q6⟩
    obtain ⟨rfl, f6, c6⟩ := g1 t10
    rw [if_pos nrw_1, Wq_ret, k_du, if_pos n1, if_pos t2, if_pos n3, if_pos t4, if_pos n5, if_pos t6, if_pos n7, if_pos t8, if_pos n9, if_pos t10]
    have r5 : M6 115 = upW (M 115) one (nI (k_vl tp L (k + 1))) := by rw [f6.1 115 (by decide), up_ne (by decide), o5 115 (by decide) (by decide) (by decide), o4 115 (by decide) (by decide) (by decide), o3 115 (by decide) (by decide) (by decide), o2 115 (by decide) (by decide) (by decide), p1]
    have r6 : M6 116 = upW (M 116) one (nI (k_vl tp L (k + 3))) := by rw [f6.1 116 (by decide), up_ne (by decide), o5 116 (by decide) (by decide) (by decide), o4 116 (by decide) (by decide) (by decide), o3 116 (by decide) (by decide) (by decide), p2, o1 116 (by decide) (by decide) (by decide)]
    have r7 : M6 117 = upW (M 117) one (nI (k_vl tp L (k + 5))) := by rw [f6.1 117 (by decide), up_ne (by decide), o5 117 (by decide) (by decide) (by decide), o4 117 (by decide) (by decide) (by decide), p3, o2 117 (by decide) (by decide) (by decide), o1 117 (by decide) (by decide) (by decide)]
    have r8 : M6 118 = upW (M 118) one (nI (k_vl tp L (k + 7))) := by rw [f6.1 118 (by decide), up_ne (by decide), o5 118 (by decide) (by decide) (by decide), p4, o3 118 (by decide) (by decide) (by decide), o2 118 (by decide) (by decide) (by decide), o1 118 (by decide) (by decide) (by decide)]
    have r9 : M6 119 = upW (M 119) one (nI (k_vl tp L (k + 9))) := by rw [f6.1 119 (by decide), up_ne (by decide), p5, o4 119 (by decide) (by decide) (by decide), o3 119 (by decide) (by decide) (by decide), o2 119 (by decide) (by decide) (by decide), o1 119 (by decide) (by decide) (by decide)]
    refine ⟨rfl, f16.tr (CRr.of f6 (by decide)), c6, by rw [f6.1 114 (by decide), up_at, upW_s, List.length_append, hl]; rfl, fun j p hp => ?_⟩
    rw [r5, r6, r7, r8, r9]
    rcases k_app_at hp with ⟨hlt, hp⟩ | ⟨rfl, rfl⟩
    · rw [upW_n (by omega), upW_n (by omega), upW_n (by omega), upW_n (by omega), upW_n (by omega)]
      exact hR.2 j p hp
    · rw [hl, upW_s, upW_s, upW_s, upW_s, upW_s]
      exact ⟨rfl, rfl, rfl, rfl, rfl⟩)
def MdQ (tp : Nat → Nat) (L : Nat) (M : MMw) (rs : List DuT) (r : RzD) (x : Int32) (M' : MMw) : Prop := match r with
  | .inl (a, i) => x = nI 0 ∧ MHr M M' ∧ FtM tp L a i M'
  | .inr (k', q) => x = nI 1 ∧ MHr M M' ∧ MdT tp L 3 M' k' ∧ M' 178 15 = M 178 15 ∧ RtM (up M' 178 15 (nI (rs.length + 1))) (rs ++ [q])
theorem m_duty (hD : 12 ≤ D) {tp : Nat → Nat} {L ct k one T N W : Nat} {rs : List DuT} (hx : TxP tp L ct) (t0 : k_tk tp L k = 122) (h1 : one < 20) (h : MdT tp L 3 M k) (hN : NmM M T N W) (hR : RtM M rs) (hl : rs.length = one) : Sq X D 172 [.inr (.inl 178)] (Gk n tot kn kx) M (MdQ tp L M rs (k_du tp L k T N W)) :=
  Sq.mk (k := 11) hD (fun D' hD' => by
    obtain ⟨m0, _, _, _, _⟩ := k_tR3 _ (tx_tk (k := k) hx)
    obtain ⟨_, m2, _, _, _⟩ := k_tR3 _ (tx_tk (k := k + 2) hx)
    obtain ⟨_, _, m4, _, _⟩ := k_tR3 _ (tx_tk (k := k + 4) hx)
    obtain ⟨_, _, _, m6, _⟩ := k_tR3 _ (tx_tk (k := k + 6) hx)
    obtain ⟨_, _, _, _, m8⟩ := k_tR3 _ (tx_tk (k := k + 8) hx)
    obtain ⟨m10, _⟩ := k_tR3b _ (tx_tk (k := k + 10) hx)
    refine Lq.of (t_172_0_ok X (callw X D') n tot kn kx M) ?_
    unfold t_172_0
    simp only [o_nI]
    rw [hR.1, hl, nI_mul, nI_add, nI_add, nI_add, nI_add, nI_add, Nat.add_zero, hN.1]
    refine Wq.call (m_told hD' hx (by decide) (show 5 * one < 100 by omega) (by decide) h) ?_
    rintro x1 M1 ⟨g1, g2, g3⟩
    by_cases n1 : k_nb tp L (k + 1) (nI 0) (nI T - nI 1) = 0
    case neg =>
      obtain ⟨rfl, f1, q1⟩ := g3 (m0.mpr t0) n1
      rw [if_pos (by rfl), Wq_ret, k_du, if_neg n1]
      exact ⟨rfl, f1, q1⟩
    obtain ⟨rfl, f1, c1, p1, o1⟩ := g1 (m0.mpr t0) n1
    rw [if_neg (by decide +kernel), (hN.fr f1).2.1]
    refine Wq.call (m_told hD' hx (by decide) (show 5 * one + 1 < 100 by omega) (by decide) c1) ?_
    rintro x2 M2 ⟨g1, g2, g3⟩
    by_cases t2 : k_tk tp L (k + 2) = 123
    case neg =>
      obtain ⟨rfl, f2, q2⟩ := g2 (fun e => t2 (m2.mp e))
      rw [if_pos (by rfl), Wq_ret, k_du, if_pos n1, if_neg t2]
      exact ⟨rfl, f1.tr f2, q2⟩
    by_cases n3 : k_nb tp L (k + 3) (nI 0) (nI N - nI 1) = 0
    case neg =>
      obtain ⟨rfl, f2, q2⟩ := g3 (m2.mpr t2) n3
      rw [if_pos (by rfl), Wq_ret, k_du, if_pos n1, if_pos t2, if_neg n3]
      exact ⟨rfl, f1.tr f2, q2⟩
    obtain ⟨rfl, f2, c2, p2, o2⟩ := g1 (m2.mpr t2) n3
    have f12 := f1.tr f2
    rw [if_neg (by decide +kernel), (hN.fr f12).2.2]
    refine Wq.call (m_told hD' hx (by decide) (show 5 * one + 2 < 100 by omega) (by decide) c2) ?_
    rintro x3 M3 ⟨g1, g2, g3⟩
    by_cases t4 : k_tk tp L (k + 4) = 119
    case neg =>
      obtain ⟨rfl, f3, q3⟩ := g2 (fun e => t4 (m4.mp e))
      rw [if_pos (by rfl), Wq_ret, k_du, if_pos n1, if_pos t2, if_pos n3, if_neg t4]
      exact ⟨rfl, f12.tr f3, q3⟩
    by_cases n5 : k_nb tp L (k + 5) (nI 0) (nI W - nI 1) = 0
    case neg =>
      obtain ⟨rfl, f3, q3⟩ := g3 (m4.mpr t4) n5
      rw [if_pos (by rfl), Wq_ret, k_du, if_pos n1, if_pos t2, if_pos n3, if_pos t4, if_neg n5]
      exact ⟨rfl, f12.tr f3, q3⟩
    obtain ⟨rfl, f3, c3, p3, o3⟩ := g1 (m4.mpr t4) n5
    have f13 := f12.tr f3
    rw [if_neg (by decide +kernel)]
    refine Wq.call (m_told hD' hx (by decide) (show 5 * one + 3 < 100 by omega) (by decide) c3) ?_
    rintro x4 M4 ⟨g1, g2, g3⟩
    by_cases t6 : k_tk tp L (k + 6) = 124
    case neg =>
      obtain ⟨rfl, f4, q4⟩ := g2 (fun e => t6 (m6.mp e))
      rw [if_pos (by rfl), Wq_ret, k_du, if_pos n1, if_pos t2, if_pos n3, if_pos t4, if_pos n5, if_neg t6]
      exact ⟨rfl, f13.tr f4, q4⟩
    by_cases n7 : k_nb tp L (k + 7) (nI 0) (nI 9999) = 0
    case neg =>
      obtain ⟨rfl, f4, q4⟩ := g3 (m6.mpr t6) n7
      rw [if_pos (by rfl), Wq_ret, k_du, if_pos n1, if_pos t2, if_pos n3, if_pos t4, if_pos n5, if_pos t6, if_neg n7]
      exact ⟨rfl, f13.tr f4, q4⟩
    obtain ⟨rfl, f4, c4, p4, o4⟩ := g1 (m6.mpr t6) n7
    have f14 := f13.tr f4
    rw [if_neg (by decide +kernel)]
    refine Wq.call (m_told hD' hx (by decide) (show 5 * one + 4 < 100 by omega) (by decide) c4) ?_
    rintro x5 M5 ⟨g1, g2, g3⟩
    by_cases t8 : k_tk tp L (k + 8) = 125
    case neg =>
      obtain ⟨rfl, f5, q5⟩ := g2 (fun e => t8 (m8.mp e))
      rw [if_pos (by rfl), Wq_ret, k_du, if_pos n1, if_pos t2, if_pos n3, if_pos t4, if_pos n5, if_pos t6, if_pos n7, if_neg t8]
      exact ⟨rfl, f14.tr f5, q5⟩
    by_cases n9 : k_nb tp L (k + 9) (nI 1) (nI 99) = 0
    case neg =>
      obtain ⟨rfl, f5, q5⟩ := g3 (m8.mpr t8) n9
      rw [if_pos (by rfl), Wq_ret, k_du, if_pos n1, if_pos t2, if_pos n3, if_pos t4, if_pos n5, if_pos t6, if_pos n7, if_pos t8, if_neg n9]
      exact ⟨rfl, f14.tr f5, q5⟩
    obtain ⟨rfl, f5, c5, p5, o5⟩ := g1 (m8.mpr t8) n9
    have f15 := f14.tr f5
    rw [if_neg (by decide +kernel)]
    refine Wq.call (m_need (by omega) hx (by decide) (by decide) c5) ?_
    rintro x6 M6 ⟨g1, g2⟩
    by_cases t10 : k_tk tp L (k + 10) = 59
    case neg =>
      obtain ⟨rfl, f6, q6⟩ := g2 (fun e => t10 (m10.mp e))
      rw [if_pos (by rfl), Wq_ret, k_du, if_pos n1, if_pos t2, if_pos n3, if_pos t4, if_pos n5, if_pos t6, if_pos n7, if_pos t8, if_pos n9, if_neg t10]
      exact ⟨rfl, f15.tr (MHr.of f6 (by decide)), q6⟩
    obtain ⟨rfl, f6, c6⟩ := g1 (m10.mpr t10)
    rw [if_neg (by decide +kernel), Wq_ret, k_du, if_pos n1, if_pos t2, if_pos n3, if_pos t4, if_pos n5, if_pos t6, if_pos n7, if_pos t8, if_pos n9, if_pos t10]
    have r5 : M6 185 = upW (upW (upW (upW (upW (M 185) (5 * one) (nI (k_vl tp L (k + 1)))) (5 * one + 1) (nI (k_vl tp L (k + 3)))) (5 * one + 2) (nI (k_vl tp L (k + 5)))) (5 * one + 3) (nI (k_vl tp L (k + 7)))) (5 * one + 4) (nI (k_vl tp L (k + 9))) := by rw [f6.1 185 (by decide), p5, p4, p3, p2, p1]
    refine ⟨rfl, f15.tr (MHr.of f6 (by decide)), c6, by rw [f6.2 15 (by decide), o5, o4, o3, o2, o1], by rw [up_at, upW_s, List.length_append]; rfl, fun j p hp => ?_⟩
    have hi : ∀ i, i < 5 * one → M6 185 i = M 185 i := fun i hi => by rw [r5, upW_n (by omega), upW_n (by omega), upW_n (by omega), upW_n (by omega), upW_n (by omega)]
    rw [up_ne (by decide)]
    rcases k_app_at hp with ⟨hlt, hp⟩ | ⟨rfl, rfl⟩
    · rw [hi (5 * j) (by omega), hi (5 * j + 1) (by omega), hi (5 * j + 2) (by omega), hi (5 * j + 3) (by omega), hi (5 * j + 4) (by omega)]
      exact hR.2 j p hp
    · rw [hl, r5]
      refine ⟨?_, ?_, ?_, ?_, ?_⟩
      · rw [upW_n (by omega), upW_n (by omega), upW_n (by omega), upW_n (by omega), upW_s]
      · rw [upW_n (by omega), upW_n (by omega), upW_n (by omega), upW_s]
      · rw [upW_n (by omega), upW_n (by omega), upW_s]
      · rw [upW_n (by omega), upW_s]
      · rw [upW_s])
end
