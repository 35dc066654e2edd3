section
-- needs: text2
/-! a hull and a rota told -/
variable {X : KXw} {n tot kn D : Nat} {kx : Nat → Nat × Nat} {M : MMw}
def HlN (M M' : MMw) (wx : List WkT) : Prop := M' 17 0 = nI wx.length ∧ M' 17 4 = nI 0 ∧ M' 25 0 = nI 0 ∧ (∀ (j : Nat) (q : WkT), wx[j]? = some q → M' 18 j = nI q.1 ∧ M' 19 j = nI q.2.1 ∧ M' 20 j = nI q.2.2) ∧ (∀ i, i < 8 → M' 15 i = nI 0) ∧ M' 0 5 = nI 0 ∧ ∀ f, f ≠ 5 → M' 0 f = M 0 f
def HtQ (tp : Nat → Nat) (L : Nat) (M : MMw) (r : (Nat × Nat) ⊕ List WkT) (x : Int32) (M' : MMw) : Prop := match r with
  | .inl (a, i) => x = -1 ∧ Fr [95, 106, 107, 108, 109] M M' ∧ FtC tp L a i M'
  | .inr wx => x = nI wx.length ∧ Fr [0, 15, 17, 18, 19, 20, 21, 22, 25, 95, 106, 107, 108, 109] M M' ∧ HlN M M' wx ∧ M' 95 2 = nI 0 ∧ M' 95 3 = -1
theorem c_tellHull (hD : 8 ≤ D) {tp : Nat → Nat} {L ct : Nat} (hC : ClT tp L ct M 0) {r : (Nat × Nat) ⊕ List WkT} (hg : GdH 0 r)
    (a1 : ∀ (D : Nat) (ws : List WkT) (M : MMw), 4 ≤ D → ClT tp L ct M 0 → HlC M ws → ws.length = 0 → Lq X (callw X D) 137 10 [some (.inr (.inl 95)), some (.inl (nI 0))] (Gk n tot kn kx) M (ChQ tp L M ws r)) : Sq X D 140 [.inr (.inl 0)] (Gk n tot kn kx) M (HtQ tp L M r) :=
  Sq.mk (k := 7) hD (fun D' hD' => by
    have h137 : Sq X D' 137 [.inr (.inl 95)] (Gk n tot kn kx) M (fun x M' => ∃ M0, Fr [95, 106, 107, 108, 109] M M0 ∧ ChQ tp L M0 [] r x M') := Sq.mk (k := 6) hD' (fun D2 hD2 => by
      refine Lq.of (t_137_p95_0_ok X (callw X D2) n tot kn kx M) ?_
      unfold t_137_p95_0
      rw [Wq_jmp, o_nI]
      exact Lq.mono (a1 D2 [] _ (by omega) (hC.ne (by decide)) ⟨by rw [up_at, upW_s]; rfl, fun j q h => (nil_at h).elim⟩ rfl) (fun x M' hq => ⟨_, Fr.rf.up (by decide), hq⟩))
    refine Lq.of (t_140_0_ok X (callw X D') n tot kn kx M) ?_
    unfold t_140_0
    simp only [o_nI]
    refine Wq.call h137 ?_
    rintro x M2 ⟨M0, f0, hq⟩
    rcases r with ⟨a, i⟩ | wx
    · obtain ⟨rfl, q2, q3⟩ := hq
      rw [if_pos (by rfl), Wq_ret, m1n]
      exact ⟨rfl, f0.tr q2.1, q3⟩
    · obtain ⟨rfl, q2, q3, q4, q5⟩ := hq
      have hlen : ([] ++ wx : List WkT).length = wx.length := rfl
      have f2 := f0.tr q2.1
      rw [if_neg (by decide)]
      refine Wq.call (c_hcopy_17_106 (by omega)) ?_
      rintro y M4 ⟨f4, e0, e4, e8, e12⟩
      refine Wq.call (c_beginWorks (by omega)) ?_
      rintro z M6 ⟨f6, h6⟩
      rw [c_forget (by omega), bnd_some, Wq_ret]
      have g17 : ∀ f, f ≠ 4 → M6 17 f = M4 17 f := fun f hf => by rw [f6 17 (by decide), up_ne (by decide), up_at, upW_n hf]
      have x17 : (up M6 0 5 (nI 0)) 17 0 = nI wx.length := by rw [up_ne (by decide), g17 0 (by decide), e0, q3.1]; rfl
      have fr : Fr [0, 15, 17, 18, 19, 20, 21, 22, 25, 95, 106, 107, 108, 109] M (up M6 0 5 (nI 0)) := (((f2.mono (by decide)).tr (f4.mono (by decide))).tr (((Fr.rf.up (by decide)).up (by decide)).tr (f6.mono (by decide)))).up (by decide)
      have cc : ∀ c, c ≠ 15 → c ≠ 17 → c ≠ 25 → M6 c = M4 c := fun c h1 h2 h3 => by
        rw [f6 c (by simp only [List.mem_cons, List.not_mem_nil, or_false]; exact h1), up_ne h3, up_ne h2]
      have b8 : wx.length ≤ 8 := by have := hg.1; omega
      refine ⟨x17, fr, ⟨x17, ?_, ?_, fun j q hq => ?_, fun i hi => ?_, by rw [up_at, upW_s], fun f hf => ?_⟩, ?_, ?_⟩
      · rw [up_ne (by decide), f6 17 (by decide), up_ne (by decide), up_at, upW_s]
      · rw [up_ne (by decide), f6 25 (by decide), up_at, upW_s]
      · obtain ⟨d1, d2, d3⟩ := q3.2 j q hq
        have hj := at_lt hq
        rw [up_ne (by decide), up_ne (by decide), up_ne (by decide), cc 18 (by decide) (by decide) (by decide), cc 19 (by decide) (by decide) (by decide), cc 20 (by decide) (by decide) (by decide), e8 1 (by decide) (by decide) j (by omega), e8 2 (by decide) (by decide) j (by omega), e8 3 (by decide) (by decide) j (by omega)]
        exact ⟨d1, d2, d3⟩
      · rw [up_ne (by decide)]; exact h6 i hi
      · rw [up_at, upW_n hf, cc 0 (by decide) (by decide) (by decide), f4 0 (by decide), f2 0 (by decide)]
      · rw [up_ne (by decide), cc 95 (by decide) (by decide) (by decide), f4 95 (by decide)]; exact q4
      · rw [up_ne (by decide), cc 95 (by decide) (by decide) (by decide), f4 95 (by decide)]; exact q5)
def RtN (M M' : MMw) (rx : List DuT) : Prop := M' 25 0 = nI rx.length ∧ (∀ (j : Nat) (q : DuT), rx[j]? = some q → M' 26 j = nI q.1 ∧ M' 27 j = nI q.2.1 ∧ M' 28 j = nI q.2.2.1 ∧ M' 29 j = nI q.2.2.2.1 ∧ M' 30 j = nI q.2.2.2.2) ∧ M' 0 5 = nI 0 ∧ ∀ f, f ≠ 5 → M' 0 f = M 0 f
def RtQ (tp : Nat → Nat) (L : Nat) (M : MMw) (r : (Nat × Nat) ⊕ List DuT) (x : Int32) (M' : MMw) : Prop := match r with
  | .inl (a, i) => x = -1 ∧ Fr [95, 114, 115, 116, 117, 118, 119] M M' ∧ FtC tp L a i M'
  | .inr rx => x = nI rx.length ∧ Fr [0, 25, 26, 27, 28, 29, 30, 95, 114, 115, 116, 117, 118, 119] M M' ∧ RtN M M' rx ∧ M' 95 2 = nI 0 ∧ M' 95 3 = -1
theorem c_tellRota (hD : 8 ≤ D) {tp : Nat → Nat} {L ct T N W : Nat} (hC : ClT tp L ct M 0) (hN : NmC M T N W) {r : (Nat × Nat) ⊕ List DuT} (hg : GdR T N W 0 r)
    (a1 : ∀ (D : Nat) (rs : List DuT) (M : MMw), 4 ≤ D → ClT tp L ct M 0 → NmC M T N W → RtC M rs → rs.length = 0 → Lq X (callw X D) 143 10 [some (.inr (.inl 95)), some (.inr (.inl 1)), some (.inl (nI 0))] (Gk n tot kn kx) M (CrQ tp L M rs r)) : Sq X D 145 [.inr (.inl 0)] (Gk n tot kn kx) M (RtQ tp L M r) :=
  Sq.mk (k := 7) hD (fun D' hD' => by
    have h143 : Sq X D' 143 [.inr (.inl 95), .inr (.inl 1)] (Gk n tot kn kx) M (fun x M' => ∃ M0, Fr [95, 114, 115, 116, 117, 118, 119] M M0 ∧ CrQ tp L M0 [] r x M') := Sq.mk (k := 6) hD' (fun D2 hD2 => by
      refine Lq.of (t_143_p95_p1_0_ok X (callw X D2) n tot kn kx M) ?_
      unfold t_143_p95_p1_0
      rw [Wq_jmp, o_nI]
      refine Lq.mono (a1 D2 [] _ (by omega) (hC.ne (by decide)) ?_ ⟨by rw [up_at, upW_s]; rfl, fun j q h => (nil_at h).elim⟩ rfl) (fun x M' hq => ⟨_, Fr.rf.up (by decide), hq⟩)
      unfold NmC
      rw [up_ne (by decide), up_ne (by decide)]
      exact hN)
    refine Lq.of (t_145_0_ok X (callw X D') n tot kn kx M) ?_
    unfold t_145_0
    simp only [o_nI]
    refine Wq.call h143 ?_
    rintro x M2 ⟨M0, f0, hq⟩
    rcases r with ⟨a, i⟩ | rx
    · obtain ⟨rfl, q2, q3⟩ := hq
      rw [if_pos (by rfl), Wq_ret, m1n]
      exact ⟨rfl, f0.tr q2.1, q3⟩
    · obtain ⟨rfl, q2, q3, q4, q5⟩ := hq
      have hlen : ([] ++ rx : List DuT).length = rx.length := rfl
      have f2 := f0.tr q2.1
      rw [if_neg (by decide)]
      refine Wq.call (c_rcopy_25_114 (by omega)) ?_
      rintro y M4 ⟨f4, e0, e8⟩
      rw [c_forget (by omega), bnd_some, Wq_ret]
      have x25 : (up M4 0 5 (nI 0)) 25 0 = nI rx.length := by rw [up_ne (by decide), e0, q3.1]; rfl
      have b20 : rx.length ≤ 20 := by have := hg.1; omega
      refine ⟨x25, ((f2.mono (by decide)).tr (f4.mono (by decide))).up (by decide), ⟨x25, fun j q hq => ?_, by rw [up_at, upW_s], fun f hf => ?_⟩, ?_, ?_⟩
      · obtain ⟨d1, d2, d3, d4, d5⟩ := q3.2 j q hq
        have hj := at_lt hq
        rw [up_ne (by decide), up_ne (by decide), up_ne (by decide), up_ne (by decide), up_ne (by decide), e8 1 (by decide) (by decide) j (by omega), e8 2 (by decide) (by decide) j (by omega), e8 3 (by decide) (by decide) j (by omega), e8 4 (by decide) (by decide) j (by omega), e8 5 (by decide) (by decide) j (by omega)]
        exact ⟨d1, d2, d3, d4, d5⟩
      · rw [up_at, upW_n hf, f4 0 (by decide), f2 0 (by decide)]
      · rw [up_ne (by decide), f4 95 (by decide)]; exact q4
      · rw [up_ne (by decide), f4 95 (by decide)]; exact q5)
/-! the reference's -/
def TxN (M M' : MMw) : Prop := M' 178 4 = nI 0 ∧ M' 178 5 = M 178 5 ∧ M' 178 16 = nI 0 ∧ M' 178 23 = nI 0 ∧ M' 178 25 = -1
def HlW (M M' : MMw) (wx : List WkT) : Prop := M' 179 98 = nI wx.length ∧ M' 179 99 = nI 0 ∧ M' 179 104 = nI 0 ∧ (∀ (j : Nat) (q : WkT), wx[j]? = some q → M' 179 (142 + 3 * j) = nI q.1 ∧ M' 179 (143 + 3 * j) = nI q.2.1 ∧ M' 179 (144 + 3 * j) = nI q.2.2) ∧ (∀ i, i < 8 → M' 179 (8 + i) = nI 0) ∧ ∀ i, i ≠ 98 → i ≠ 99 → i ≠ 104 → ¬ (142 ≤ i ∧ i < 166) → ¬ (8 ≤ i ∧ i < 16) → M' 179 i = M 179 i
def HmQ (tp : Nat → Nat) (L : Nat) (M : MMw) (r : (Nat × Nat) ⊕ List WkT) (x : Int32) (M' : MMw) : Prop := match r with
  | .inl (a, i) => x = -1 ∧ Fr [178, 185] M M' ∧ TxM M M' (nI a) (nI (k_pl tp L i))
  | .inr wx => x = nI wx.length ∧ Fr [178, 179, 185] M M' ∧ TxN M M' ∧ HlW M M' wx
theorem m_hullText (hD : 43 ≤ D) {tp : Nat → Nat} {L ct : Nat} (hx : TxP tp L ct) (hT : TpM M tp L) {r : (Nat × Nat) ⊕ List WkT} (hg : GdH 0 r)
    (a2 : ∀ (D : Nat) (ws : List WkT) (M : MMw), 13 ≤ D → MdT tp L 2 M 0 → HlM M ws → ws.length = 0 → LrR X n tot kn kx D 1 M (MhQ tp L M ws r)) : Sq X D 177 [.inr (.inl 178), .inl (nI 2)] (Gk n tot kn kx) M (HmQ tp L M r) := by
  refine m_text hD hx (by omega) (Or.inr ⟨by omega, rfl⟩) hT (fun D' M4 hD' f4 g4 g23 g25 hM4 => ⟨fun x M' => MhQ tp L (up M4 178 15 (nI 0)) [] r x M', Sq.mk (k := 41) hD' (fun D2 hD2 => ?_), fun x M5 hq => ?_⟩)
  · refine Lq.of (t_173_0_ok X (callw X D2) n tot kn kx M4) ?_
    unfold t_173_0
    rw [Wq_jmp, o_nI, o_nI]
    exact a2 D2 [] _ (by omega) (mdt_15 hM4) ⟨by rw [up_at, upW_s]; rfl, fun j q h => (nil_at h).elim⟩ rfl
  · have u15 : ∀ f, f ≠ 15 → (up M4 178 15 (nI 0)) 178 f = M4 178 f := fun f hf => by rw [up_at, upW_n hf]
    rcases r with ⟨a, i⟩ | wx
    · obtain ⟨rfl, q2, q3⟩ := hq
      exact m_refuse (fs := [178, 185]) (((f4.mono (by decide)).up (by decide)).tr q2.1) (by decide) (by rw [q2.2 4 (by decide), u15 4 (by decide), g4 4 (by decide)]) (by rw [q2.2 5 (by decide), u15 5 (by decide), g4 5 (by decide)]) q3 (fun M' h1 h2 => ⟨rfl, h1, h2⟩)
    · obtain ⟨rfl, q2, q3⟩ := hq
      have hlen : ([] ++ wx : List WkT).length = wx.length := rfl
      have b8 : wx.length ≤ 8 := by have := hg.1; omega
      refine Lq.of (t_177_62_ok X (callw X D') n tot kn kx _ _ M5) ?_
      unfold t_177_62
      simp only [o_nI]
      rw [if_neg (by decide), if_neg (by rw [lt_i (by omega) (by omega)]; omega), if_pos trivial]
      refine Wq.call (m_putsHull (by omega) b8 (by rw [up_at, upW_n (by decide)]; exact q3.1)) ?_
      rintro y M6 ⟨rfl, p1, p2, p3, p4, p5, p6, p7, p8, p9⟩
      rw [Wq_ret]
      have f5 : Fr [178, 179, 185] M M5 := ((f4.mono (by decide)).up (by decide)).tr (q2.1.mono (by decide))
      refine ⟨rfl, f5.tr ((Fr.rf.up (by decide)).tr (p1.mono (by decide))), ⟨p3, ?_, ?_, ?_, ?_⟩, p4, p5, p6, fun j q hq => ?_, p8, fun i h1 h2 h3 h4 h5 => ?_⟩
      · rw [p2 5 (by decide), up_at, upW_n (by decide), q2.2 5 (by decide), u15 5 (by decide), g4 5 (by decide)]
      · rw [p2 16 (by decide), up_at, upW_s]
      · rw [p2 23 (by decide), up_at, upW_n (by decide), q2.2 23 (by decide), u15 23 (by decide)]; exact g23
      · rw [p2 25 (by decide), up_at, upW_n (by decide), q2.2 25 (by decide), u15 25 (by decide)]; exact g25
      · obtain ⟨d1, d2, d3⟩ := q3.2 j q hq
        have hj := at_lt hq
        have c1 := p7 (3 * j) (by omega)
        have c2 := p7 (3 * j + 1) (by omega)
        have c3 := p7 (3 * j + 2) (by omega)
        rw [up_ne (by decide)] at c1 c2 c3
        rw [show 143 + 3 * j = 142 + (3 * j + 1) by omega, show 144 + 3 * j = 142 + (3 * j + 2) by omega, c1, c2, c3]
        exact ⟨d1, d2, d3⟩
      · rw [p9 i h1 h2 h3 h4 h5, up_ne (by decide), q2.1 179 (by decide), up_ne (by decide), f4 179 (by decide)]
def RtW (M M' : MMw) (rx : List DuT) : Prop := M' 179 99 = nI rx.length ∧ (∀ (j : Nat) (q : DuT), rx[j]? = some q → M' 179 (166 + 5 * j) = nI q.1 ∧ M' 179 (167 + 5 * j) = nI q.2.1 ∧ M' 179 (168 + 5 * j) = nI q.2.2.1 ∧ M' 179 (169 + 5 * j) = nI q.2.2.2.1 ∧ M' 179 (170 + 5 * j) = nI q.2.2.2.2) ∧ ∀ i, i ≠ 99 → ¬ (166 ≤ i ∧ i < 266) → M' 179 i = M 179 i
def RmQ (tp : Nat → Nat) (L : Nat) (M : MMw) (r : (Nat × Nat) ⊕ List DuT) (x : Int32) (M' : MMw) : Prop := match r with
  | .inl (a, i) => x = -1 ∧ Fr [178, 185] M M' ∧ TxM M M' (nI a) (nI (k_pl tp L i))
  | .inr rx => x = nI rx.length ∧ Fr [178, 179, 185] M M' ∧ TxN M M' ∧ RtW M M' rx
theorem m_rotaText (hD : 43 ≤ D) {tp : Nat → Nat} {L ct T N W : Nat} (hx : TxP tp L ct) (hT : TpM M tp L) (hN : NmM M T N W) {r : (Nat × Nat) ⊕ List DuT} (hg : GdR T N W 0 r)
    (a2 : ∀ (D : Nat) (rs : List DuT) (M : MMw), 13 ≤ D → MdT tp L 3 M 0 → NmM M T N W → RtM M rs → rs.length = 0 → LrR X n tot kn kx D 1 M (MrQ tp L M rs r)) : Sq X D 177 [.inr (.inl 178), .inl (nI 3)] (Gk n tot kn kx) M (RmQ tp L M r) := by
  refine m_text hD hx (by omega) (Or.inr ⟨by omega, rfl⟩) hT (fun D' M4 hD' f4 g4 g23 g25 hM4 => ⟨fun x M' => MrQ tp L (up M4 178 15 (nI 0)) [] r x M', Sq.mk (k := 41) hD' (fun D2 hD2 => ?_), fun x M5 hq => ?_⟩)
  · refine Lq.of (t_173_0_ok X (callw X D2) n tot kn kx M4) ?_
    unfold t_173_0
    rw [Wq_jmp, o_nI, o_nI]
    refine a2 D2 [] _ (by omega) (mdt_15 hM4) ?_ ⟨by rw [up_at, upW_s]; rfl, fun j q h => (nil_at h).elim⟩ rfl
    unfold NmM
    rw [up_ne (by decide), f4 179 (by decide)]
    exact hN
  · have u15 : ∀ f, f ≠ 15 → (up M4 178 15 (nI 0)) 178 f = M4 178 f := fun f hf => by rw [up_at, upW_n hf]
    rcases r with ⟨a, i⟩ | rx
    · obtain ⟨rfl, q2, q3⟩ := hq
      exact m_refuse (fs := [178, 185]) (((f4.mono (by decide)).up (by decide)).tr q2.1) (by decide) (by rw [q2.2 4 (by decide), u15 4 (by decide), g4 4 (by decide)]) (by rw [q2.2 5 (by decide), u15 5 (by decide), g4 5 (by decide)]) q3 (fun M' h1 h2 => ⟨rfl, h1, h2⟩)
    · obtain ⟨rfl, q2, q3⟩ := hq
      have hlen : ([] ++ rx : List DuT).length = rx.length := rfl
      have b20 : rx.length ≤ 20 := by have := hg.1; omega
      refine Lq.of (t_177_62_ok X (callw X D') n tot kn kx _ _ M5) ?_
      unfold t_177_62
      simp only [o_nI]
      rw [if_neg (by decide), if_neg (by rw [lt_i (by omega) (by omega)]; omega), if_neg (by decide)]
      refine Wq.call (m_putsRota (by omega) b20 (by rw [up_at, upW_n (by decide)]; exact q3.1)) ?_
      rintro y M6 ⟨rfl, p1, p2, p3, p4, p7, p9⟩
      rw [Wq_ret]
      have f5 : Fr [178, 179, 185] M M5 := ((f4.mono (by decide)).up (by decide)).tr (q2.1.mono (by decide))
      refine ⟨rfl, f5.tr ((Fr.rf.up (by decide)).tr (p1.mono (by decide))), ⟨p3, ?_, ?_, ?_, ?_⟩, p4, fun j q hq => ?_, fun i h1 h2 => ?_⟩
      · rw [p2 5 (by decide), up_at, upW_n (by decide), q2.2 5 (by decide), u15 5 (by decide), g4 5 (by decide)]
      · rw [p2 16 (by decide), up_at, upW_s]
      · rw [p2 23 (by decide), up_at, upW_n (by decide), q2.2 23 (by decide), u15 23 (by decide)]; exact g23
      · rw [p2 25 (by decide), up_at, upW_n (by decide), q2.2 25 (by decide), u15 25 (by decide)]; exact g25
      · obtain ⟨d1, d2, d3, d4, d5⟩ := q3.2 j q hq
        have hj := at_lt hq
        have c1 := p7 (5 * j) (by omega)
        have c2 := p7 (5 * j + 1) (by omega)
        have c3 := p7 (5 * j + 2) (by omega)
        have c4 := p7 (5 * j + 3) (by omega)
        have c5 := p7 (5 * j + 4) (by omega)
        rw [up_ne (by decide)] at c1 c2 c3 c4 c5
        rw [show 167 + 5 * j = 166 + (5 * j + 1) by omega, show 168 + 5 * j = 166 + (5 * j + 2) by omega, show 169 + 5 * j = 166 + (5 * j + 3) by omega, show 170 + 5 * j = 166 + (5 * j + 4) by omega, c1, c2, c3, c4, c5]
        exact ⟨d1, d2, d3, d4, d5⟩
      · rw [p9 i h1 h2, up_ne (by decide), q2.1 179 (by decide), up_ne (by decide), f4 179 (by decide)]
end
