section
-- needs: words
/-! laws: steps, units -/
variable {X : KXw} {n tot kn D : Nat} {kx : Nat → Nat × Nat} {M : MMw}
def k_code (op : Nat × Nat) : Nat := op.1 + 16 * op.2
def k_s (op : Nat × Nat) : Nat := if op.1 = 1 then op.2 + 1 else [0, 0, 26, 30, 23, 24, 25, 27, 28, 29, 31, 32].getD op.1 0
/-- the class's steps so far -/
def LwC (M : MMw) (acc : List (Nat × Nat)) : Prop := M 100 1 = nI acc.length ∧ ∀ (j : Nat) (op : Nat × Nat), acc[j]? = some op → M 105 j = nI (k_code op)
/-- a step of the reference -/
def StO (op : Nat × Nat) (s v : Int32) : Prop := s = nI (k_s op) ∧ (op.1 = 0 ∨ op.1 = 2 → v = nI op.2)
def StM (M : MMw) (acc : List (Nat × Nat)) : Prop := M 178 14 = nI acc.length ∧ ∀ (j : Nat) (op : Nat × Nat), acc[j]? = some op → StO op (M 184 (2 * j)) (M 184 (2 * j + 1))
/-- what the class's law reader changes -/
def CFr (M M' : MMw) : Prop := Fr [95, 100, 105] M M' ∧ (∀ f, f ∉ [2, 3, 7, 8, 9] → M' 95 f = M 95 f) ∧ ∀ f, f ≠ 1 → M' 100 f = M 100 f
theorem CFr.rf {M : MMw} : CFr M M := ⟨Fr.rf, fun _ _ => rfl, fun _ _ => rfl⟩
theorem CFr.tr {M M1 M2 : MMw} (h : CFr M M1) (g : CFr M1 M2) : CFr M M2 := ⟨h.1.tr g.1, fun f hf => (g.2.1 f hf).trans (h.2.1 f hf), fun f hf => (g.2.2 f hf).trans (h.2.2 f hf)⟩
theorem CFr.of {fs : List Nat} {M M' : MMw} (h : F9 fs M M') (hs : ∀ k, k ∈ fs → k ∈ [2, 3, 7, 8, 9]) : CFr M M' := ⟨h.1.mono (by decide), fun f hf => h.2 f (fun hh => hf (hs f hh)), fun f _ => by rw [h.1 100 (by decide)]⟩
theorem LwC.f9 {fs : List Nat} {M M' : MMw} {acc : List (Nat × Nat)} (h : F9 fs M M') (g : LwC M acc) : LwC M' acc := by
  unfold LwC
  rw [h.1 100 (by decide), h.1 105 (by decide)]
  exact g
theorem ClT.cg {tp : Nat → Nat} {L ct k : Nat} {M M' : MMw} (h : ClT tp L ct M k) (e : M' 95 = M 95) (hf : CFr M M') : ClT tp L ct M' k := by
  refine ⟨by rw [e]; exact h.1, by rw [e]; exact h.2.1, h.2.2.fr (fun c hc => hf.1 c ?_)⟩
  rcases hc with rfl | rfl | rfl <;> decide
theorem c_put (hD : 1 ≤ D) {acc : List (Nat × Nat)} {a b : Nat} (hl : acc.length < 400) (ha : a < 16) (hb : b < 2 ^ 20) (h : LwC M acc) : Sq X D 126 [.inr (.inl 100), .inl (nI a), .inl (nI b)] (Gk n tot kn kx) M (fun _ M' => CFr M M' ∧ M' 95 = M 95 ∧ LwC M' (acc ++ [(a, b)])) :=
  Sq.mk (k := 0) hD (fun D' hD' => by
    refine Lq.of (t_126_p100_0_ok X (callw X D') n tot kn kx _ _ M) ?_
    unfold t_126_p100_0
    obtain ⟨h1, h2⟩ := h
    have e : nI a ||| nI b <<< (nI 4 &&& 31) = nI (k_code (a, b)) := by
      rw [nI_shl (by omega), nI_or, Nat.or_comm, Nat.mul_comm b (2 ^ 4), ← Nat.two_pow_add_eq_or_of_lt (show a < 2 ^ 4 by omega)]
      congr 1
      unfold k_code
      dsimp only
      omega
    simp only [o_nI]
    rw [h1, if_pos (by rw [lt_i (by omega) (by omega)]; omega), inb_nI hl (by decide), if_pos rfl, nI_clamp (by omega), e, nI_add, Wq_ret]
    refine ⟨⟨(Fr.rf.up (by decide)).up (by decide), fun f _ => by rw [up_ne (by decide), up_ne (by decide)], fun f hf => by rw [up_at, upW_n hf, up_ne (by decide)]⟩, by rw [up_ne (by decide), up_ne (by decide)], ?_, fun j op hj => ?_⟩
    · rw [up_at, upW_s, List.length_append]; rfl
    · rw [up_ne (by decide), up_at]
      rw [List.getElem?_append] at hj
      by_cases hl2 : j < acc.length
      · rw [if_pos hl2] at hj
        rw [upW_n (by omega)]
        exact h2 j op hj
      · rw [if_neg hl2] at hj
        have hj0 : j = acc.length := by
          by_cases e0 : j - acc.length = 0
          · omega
          · obtain ⟨q, hq⟩ : ∃ q, j - acc.length = q + 1 := ⟨j - acc.length - 1, by omega⟩
            rw [hq] at hj
            cases hj
        subst hj0
        rw [Nat.sub_self] at hj
        cases hj
        rw [upW_s])
/-- how long the class's steps are, whatever they are -/
def SzC (M : MMw) : Prop := ∃ z, z ≤ 400 ∧ M 100 1 = nI z
theorem c_putx (hD : 1 ≤ D) {a b : Int32} (h : SzC M) : Sq X D 126 [.inr (.inl 100), .inl a, .inl b] (Gk n tot kn kx) M (fun _ M' => CFr M M' ∧ M' 95 = M 95 ∧ SzC M') :=
  Sq.mk (k := 0) hD (fun D' hD' => by
    refine Lq.of (t_126_p100_0_ok X (callw X D') n tot kn kx _ _ M) ?_
    unfold t_126_p100_0
    obtain ⟨z, hz, h1⟩ := h
    simp only [o_nI]
    rw [h1]
    by_cases hl : z < 400
    · rw [if_pos (by rw [lt_i (by omega) (by omega)]; omega), inb_nI hl (by decide), if_pos rfl, Wq_ret]
      refine ⟨⟨(Fr.rf.up (by decide)).up (by decide), fun f _ => by rw [up_ne (by decide), up_ne (by decide)], fun f hf => by rw [up_at, upW_n hf, up_ne (by decide)]⟩, by rw [up_ne (by decide), up_ne (by decide)], z + 1, by omega, ?_⟩
      rw [up_at, upW_s, nI_add]
    · rw [if_neg (by rw [lt_i (by omega) (by omega)]; omega), Wq_ret]
      exact ⟨CFr.rf, rfl, z, hz, h1⟩)
theorem LwC.sz {M : MMw} {acc : List (Nat × Nat)} (h : LwC M acc) (hl : acc.length ≤ 400) : SzC M := ⟨_, hl, h.1⟩
/-- the class has found a fault -/
def FlC (tp : Nat → Nat) (L : Nat) (M : MMw) (a i : Nat) (x : Int32) (M' : MMw) : Prop := x = nI 0 ∧ CFr M M' ∧ FtC tp L a i M' ∧ SzC M'
theorem FlC.tr {tp : Nat → Nat} {L a i : Nat} {M M1 M' : MMw} {x : Int32} (h : CFr M M1) (g : FlC tp L M1 a i x M') : FlC tp L M a i x M' := ⟨g.1, h.tr g.2.1, g.2.2.1, g.2.2.2⟩
theorem FlC.put {tp : Nat → Nat} {L a i : Nat} {M M1 M2 : MMw} {x : Int32} (g : FlC tp L M a i x M1) (h : CFr M1 M2) (e : M2 95 = M1 95) (hs : SzC M2) : FlC tp L M a i x M2 := ⟨g.1, g.2.1.tr h, by unfold FtC; rw [e]; exact g.2.2.1, hs⟩
/-- what the reference's law reader changes -/
def MFr (M M' : MMw) : Prop := Fr [178, 184] M M' ∧ ∀ f, f ∉ [14, 17, 18, 19, 20, 21, 22, 24] → M' 178 f = M 178 f
theorem MFr.rf {M : MMw} : MFr M M := ⟨Fr.rf, fun _ _ => rfl⟩
theorem MFr.tr {M M1 M2 : MMw} (h : MFr M M1) (g : MFr M1 M2) : MFr M M2 := ⟨h.1.tr g.1, fun f hf => (g.2 f hf).trans (h.2 f hf)⟩
theorem MFr.of {fs : List Nat} {M M' : MMw} (h : F8 fs M M') (hs : ∀ k, k ∈ fs → k ∈ [14, 17, 18, 19, 20, 21, 22, 24]) : MFr M M' := ⟨h.1.mono (by decide), fun f hf => h.2 f (fun hh => hf (hs f hh))⟩
theorem StM.f8 {fs : List Nat} {M M' : MMw} {acc : List (Nat × Nat)} (h : F8 fs M M') (h14 : 14 ∉ fs) (g : StM M acc) : StM M' acc := by
  unfold StM
  rw [h.1 184 (by decide), h.2 14 h14]
  exact g
def FlM (tp : Nat → Nat) (L : Nat) (M : MMw) (a i : Nat) (x : Int32) (M' : MMw) : Prop := x = nI 0 ∧ MFr M M' ∧ FtM tp L a i M'
theorem FlM.tr {tp : Nat → Nat} {L a i : Nat} {M M1 M' : MMw} {x : Int32} (h : MFr M M1) (g : FlM tp L M1 a i x M') : FlM tp L M a i x M' := ⟨g.1, h.tr g.2.1, g.2.2⟩
/-- laying a step -/
def LyQ (acc : List (Nat × Nat)) (op : Nat × Nat) (M M' : MMw) : Prop := MFr M M' ∧ (∀ f, f ≠ 14 → M' 178 f = M 178 f) ∧ StM M' (acc ++ [op])
theorem m_lay (hD : 1 ≤ D) {acc : List (Nat × Nat)} {op : Nat × Nat} {s v : Int32} (hl : acc.length ≤ 400) (ho : StO op s v) (h : StM M acc) : Sq X D 158 [.inr (.inl 178), .inl s, .inl v] (Gk n tot kn kx) M (fun _ M' => LyQ acc op M M') :=
  Sq.mk (k := 0) hD (fun D' hD' => by
    refine Lq.of (t_158_0_ok X (callw X D') n tot kn kx _ _ M) ?_
    unfold t_158_0
    obtain ⟨h1, h2⟩ := h
    simp only [o_nI]
    rw [h1, nI_mul, nI_add, inb_nI (show 2 * acc.length < 820 by omega) (by decide), if_pos rfl, inb_nI (show 2 * acc.length + 1 < 820 by omega) (by decide), if_pos rfl, nI_clamp (by omega), nI_clamp (by omega), nI_add, Wq_ret]
    refine ⟨⟨((Fr.rf.up (by decide)).up (by decide)).up (by decide), fun f hf => ?_⟩, fun f hf => ?_, ?_, fun j p hj => ?_⟩
    · rw [up_at, upW_n (fun e => hf (by rw [e]; decide)), up_ne (by decide), up_ne (by decide)]
    · rw [up_at, upW_n hf, up_ne (by decide), up_ne (by decide)]
    · rw [up_at, upW_s, List.length_append]; rfl
    · rw [up_ne (by decide), up_at, up_at]
      rw [List.getElem?_append] at hj
      by_cases hl2 : j < acc.length
      · rw [if_pos hl2] at hj
        rw [upW_n (by omega), upW_n (by omega), upW_n (by omega), upW_n (by omega)]
        exact h2 j p hj
      · rw [if_neg hl2] at hj
        have hj0 : j = acc.length := by
          by_cases e0 : j - acc.length = 0
          · omega
          · obtain ⟨q, hq⟩ : ∃ q, j - acc.length = q + 1 := ⟨j - acc.length - 1, by omega⟩
            rw [hq] at hj
            cases hj
        subst hj0
        rw [Nat.sub_self] at hj
        cases hj
        rw [upW_n (by omega), upW_s, upW_s]
        exact ho)
theorem MdT.ly {tp : Nat → Nat} {L rd k : Nat} {acc : List (Nat × Nat)} {op : Nat × Nat} {M M' : MMw} (h : LyQ acc op M M') (g : MdT tp L rd M k) : MdT tp L rd M' k := by
  obtain ⟨h1, h2, _⟩ := h
  obtain ⟨⟨a0, a1⟩, a2, a3, a4, a5, a6⟩ := g
  refine ⟨⟨by rw [h2 16 (by decide)]; exact a0, fun i hi => by rw [h1.1 186 (by decide)]; exact a1 i hi⟩, ?_, ?_, ?_, ?_, fun hh => ?_⟩
  · rw [h2 12 (by decide)]; exact a2
  · rw [h2 17 (by decide)]; exact a3
  · rw [h2 18 (by decide)]; exact a4
  · rw [h2 19 (by decide)]; exact a5
  · rw [h2 20 (by decide)]; exact a6 hh
/-- a unit at token k -/
def k_un (tp : Nat → Nat) (L k : Nat) : Option (Nat × Nat) := if k_tk tp L k = 2 then some (0, k_vl tp L k) else if 109 ≤ k_tk tp L k ∧ k_tk tp L k ≤ 118 then some (1, k_tk tp L k - 109) else none
theorem k_un_lt {tp : Nat → Nat} {L ct k : Nat} {op : Nat × Nat} (hx : TxP tp L ct) (hk : k ≤ ct) (h : k_un tp L k = some op) : k < ct := by
  refine tx_lt hx hk (fun e => ?_)
  unfold k_un at h
  rw [e, if_neg (by decide), if_neg (by decide)] at h
  cases h
theorem c_unit (hD : 2 ≤ D) {tp : Nat → Nat} {L ct k : Nat} {acc : List (Nat × Nat)} (hx : TxP tp L ct) (hk : k ≤ ct) (h : ClT tp L ct M k) (hl : LwC M acc) (hal : acc.length ≤ k) : Sq X D 127 [.inr (.inl 95)] (Gk n tot kn kx) M (fun x M' => (k_un tp L k = none → FlC tp L M 1 k x M') ∧ ∀ op, k_un tp L k = some op → x = nI 1 ∧ CFr M M' ∧ ClT tp L ct M' (k + 1) ∧ LwC M' (acc ++ [op])) :=
  Sq.mk (k := 1) hD (fun D' hD' => by
    have hb := tx_tk (k := k) hx
    have hct := hx.2.2.1
    refine Lq.of (t_127_p95_0_ok X (callw X D') n tot kn kx M) ?_
    unfold t_127_p95_0
    simp only [o_nI]
    rw [h.2.1]
    have hfail : k_un tp L k = none → Sq X D' 124 [.inr (.inl 95), .inl (nI 1)] (Gk n tot kn kx) M (fun x M' => x = nI 0 ∧ ((k_un tp L k = none → FlC tp L M 1 k x M') ∧ ∀ op, k_un tp L k = some op → x = nI 1 ∧ CFr M M' ∧ ClT tp L ct M' (k + 1) ∧ LwC M' (acc ++ [op]))) := fun hn => by
      refine Sq.mono (c_fail hD' hx hk h) ?_
      rintro x M' ⟨rfl, g1, g2⟩
      exact ⟨rfl, fun _ => ⟨rfl, CFr.of g1 (by decide), g2, (hl.f9 g1).sz (by omega)⟩, fun op ho => (by rw [hn] at ho; cases ho)⟩
    have hgood : ∀ (a b : Nat), k_un tp L k = some (a, b) → a < 16 → b < 2 ^ 20 → k < ct → Wq X (callw X D') 127 (Gk n tot kn kx) (fun x M' => (k_un tp L k = none → FlC tp L M 1 k x M') ∧ ∀ op, k_un tp L k = some op → x = nI 1 ∧ CFr M M' ∧ ClT tp L ct M' (k + 1) ∧ LwC M' (acc ++ [op])) (bnd (callw X D' 126 [.inr (.inl 100), .inl (nI a), .inl (nI b)] (Gk n tot kn kx) M) fun _ _ M2 => bnd (callw X D' 125 [.inr (.inl 95)] (Gk n tot kn kx) M2) fun _ _ M4 => some (.inl (nI 1, Gk n tot kn kx, M4))) := fun a b hun ha hb2 hkc => by
      refine Wq.call (c_put hD' (by omega) ha hb2 hl) ?_
      rintro y M2 ⟨f2, e2, l2⟩
      refine Wq.call (c_adv hD' hx hkc (h.cg e2 f2)) ?_
      rintro z M4 ⟨f4, c4⟩
      rw [Wq_ret]
      refine ⟨fun hn => (by rw [hn] at hun; cases hun), fun op ho => ?_⟩
      · rw [hun] at ho
        cases ho
        exact ⟨rfl, f2.tr (CFr.of f4 (by decide)), c4, l2.f9 f4⟩
    by_cases h2 : k_tk tp L k = 2
    · have hkc := tx_lt hx hk (by omega)
      have hv := (k_vl_ok hx.2.1 h2).2.2.2.2.2
      rw [if_pos (by rw [h2]), h.1.1, inb_nI (show k < 401 by omega) (by decide), if_pos rfl, nI_clamp (by omega), h.2.2.2.2.2.2 k hkc h2]
      exact hgood 0 _ (by unfold k_un; rw [if_pos h2]) (by decide) (by omega) hkc
    · rw [if_neg (by rw [eq_i (by omega) (by omega)]; exact h2)]
      by_cases h3 : k_tk tp L k < 109
      · rw [if_pos (by rw [lt_i (by omega) (by omega)]; exact h3)]
        refine Wq.call (hfail (by unfold k_un; rw [if_neg h2, if_neg (by omega)])) ?_
        rintro x M' ⟨rfl, hq⟩
        rw [if_pos (by decide +kernel), Wq_ret]
        exact hq
      · rw [if_neg (by rw [lt_i (by omega) (by omega)]; exact h3)]
        by_cases h4 : 118 < k_tk tp L k
        · rw [if_pos (by rw [lt_i (by omega) (by omega)]; exact h4)]
          refine Wq.call (hfail (by unfold k_un; rw [if_neg h2, if_neg (by omega)])) ?_
          rintro x M' ⟨rfl, hq⟩
          rw [if_pos (by decide +kernel), Wq_ret]
          exact hq
        · rw [if_neg (by rw [lt_i (by omega) (by omega)]; exact h4), nI_sub (by omega)]
          exact hgood 1 _ (by unfold k_un; rw [if_neg h2, if_pos (by omega)]) (by decide) (by omega) (tx_lt hx hk (by omega)))
theorem k_mt_un : ∀ rd, rd < 2 → ∀ c, c < 126 → ((41 ≤ k_mt rd c ∧ k_mt rd c ≤ 50) ↔ (109 ≤ c ∧ c ≤ 118)) ∧ (109 ≤ c → c ≤ 118 → k_mt rd c = c - 68) := by decide +kernel
theorem m_unit (hD : 10 ≤ D) {tp : Nat → Nat} {L ct rd k : Nat} {acc : List (Nat × Nat)} (hx : TxP tp L ct) (hrd : rd < 2) (hk : k ≤ ct) (h : MdT tp L rd M k) (hl : StM M acc) (hal : acc.length ≤ k) : Sq X D 159 [.inr (.inl 178)] (Gk n tot kn kx) M (fun x M' => (k_un tp L k = none → FlM tp L M 1 k x M') ∧ ∀ op, k_un tp L k = some op → x = nI 1 ∧ MFr M M' ∧ MdT tp L rd M' (k + 1) ∧ StM M' (acc ++ [op]) ∧ M' 178 24 = M 178 24) :=
  Sq.mk (k := 9) hD (fun D' hD' => by
    have hb := tx_tk (k := k) hx
    have hct := hx.2.2.1
    have hm := k_mt_lt rd (by omega) _ hb
    obtain ⟨u1, u2⟩ := k_mt_un rd hrd _ hb
    refine Lq.of (t_159_0_ok X (callw X D') n tot kn kx M) ?_
    unfold t_159_0
    simp only [o_nI, z_nI]
    rw [h.2.2.2.1, m_isIn (by omega), bnd_some, h.2.2.2.1]
    have hgood : ∀ (a b : Nat) (s v : Int32), k_un tp L k = some (a, b) → StO (a, b) s v → Wq X (callw X D') 159 (Gk n tot kn kx) (fun x M' => (k_un tp L k = none → FlM tp L M 1 k x M') ∧ ∀ op, k_un tp L k = some op → x = nI 1 ∧ MFr M M' ∧ MdT tp L rd M' (k + 1) ∧ StM M' (acc ++ [op]) ∧ M' 178 24 = M 178 24) (bnd (callw X D' 158 [.inr (.inl 178), .inl s, .inl v] (Gk n tot kn kx) M) fun _ _ M2 => bnd (callw X D' 156 [.inr (.inl 178)] (Gk n tot kn kx) M2) fun _ _ M4 => some (.inl (nI 1, Gk n tot kn kx, M4))) := fun a b s v hun hso => by
      refine Wq.call (m_lay (by omega) (by omega) hso hl) ?_
      rintro y M2 l2
      refine Wq.call (m_nextK hD' hx.1 hx.2.1 (by omega) (h.ly l2)) ?_
      rintro z M4 ⟨f4, c4⟩
      rw [Wq_ret]
      refine ⟨fun hn => (by rw [hn] at hun; cases hun), fun op ho => ?_⟩
      · rw [hun] at ho
        cases ho
        exact ⟨rfl, l2.1.tr (MFr.of f4 (by decide)), c4, l2.2.2.f8 f4 (by decide), by rw [f4.2 24 (by decide), l2.2.1 24 (by decide)]⟩
    by_cases h2 : k_tk tp L k = 2
    · have hin : ¬ (109 ≤ k_tk tp L k ∧ k_tk tp L k ≤ 118) := by omega
      have hmt : k_mt rd (k_tk tp L k) = 2 := by rw [h2]; rfl
      rw [if_pos (by rw [hmt]), hmt, if_pos (by decide +kernel), h.2.2.2.2.2 h2]
      exact hgood 0 (k_vl tp L k) _ _ (by unfold k_un; rw [if_pos h2]) ⟨rfl, fun _ => rfl⟩
    · have hmt : k_mt rd (k_tk tp L k) ≠ 2 := fun e => h2 ((k_mt_2 rd (by omega) _ hb).mp e)
      rw [if_neg (by rw [eq_i (by omega) (by omega)]; exact hmt)]
      by_cases h3 : 109 ≤ k_tk tp L k ∧ k_tk tp L k ≤ 118
      · have hv := u2 h3.1 h3.2
        have e1 : (if nI (k_mt rd (k_tk tp L k)) < nI 41 then nI 0 else if nI 50 < nI (k_mt rd (k_tk tp L k)) then nI 0 else nI 1) = nI 1 := by
          rw [if_neg (by rw [lt_i (by omega) (by omega)]; omega), if_neg (by rw [lt_i (by omega) (by omega)]; omega)]
        rw [e1, if_neg (by decide +kernel), if_neg (by decide +kernel), nI_sub (by omega)]
        refine hgood 1 (k_tk tp L k - 109) _ _ (by unfold k_un; rw [if_neg h2, if_pos h3]) ⟨?_, fun hh => (by rcases hh with hh | hh <;> cases hh)⟩
        rw [hv]
        congr 1
        unfold k_s
        dsimp only
        rw [if_pos rfl]
        omega
      · have hnot := fun hh => h3 (u1.mp hh)
        have e1 : (if nI (k_mt rd (k_tk tp L k)) < nI 41 then nI 0 else if nI 50 < nI (k_mt rd (k_tk tp L k)) then nI 0 else nI 1) = nI 0 := by
          by_cases h5 : k_mt rd (k_tk tp L k) < 41
          · rw [if_pos (by rw [lt_i (by omega) (by omega)]; exact h5)]
          · rw [if_neg (by rw [lt_i (by omega) (by omega)]; exact h5), if_pos (by rw [lt_i (by omega) (by omega)]; omega)]
        have hn : k_un tp L k = none := by unfold k_un; rw [if_neg h2, if_neg h3]
        rw [e1, if_pos rfl]
        refine Wq.call (m_bad (by omega) h) ?_
        rintro x M' ⟨rfl, g1, g2⟩
        rw [if_pos (by decide +kernel), Wq_ret]
        exact ⟨fun _ => ⟨rfl, MFr.of g1 (by decide), g2⟩, fun op ho => (by rw [hn] at ho; cases ho)⟩)
end
