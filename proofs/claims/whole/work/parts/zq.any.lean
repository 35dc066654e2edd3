section
-- needs: test
/-! and, or -/
variable {X : KXw} {n tot kn D : Nat} {kx : Nat → Nat × Nat} {M : MMw}
def k_oo (w : Nat) : List (Nat × Nat) := if w = 0 then [] else [(11, 0)]
/-- the class's loop over and, or -/
abbrev LsB (X : KXw) (n tot kn : Nat) (kx : Nat → Nat × Nat) (D d w x it : Nat) (M : MMw) (Q : Int32 → MMw → Prop) : Prop := Lq X (callw X D) 132 11 [some (.inr (.inl 95)), some (.inl (nI d)), some (.inl (nI w)), some (.inl (nI x)), some (.inl (nI it)), none] (Gk n tot kn kx) M Q
theorem c_puto (hD : 1 ≤ D) {tp : Nat → Nat} {L ct k w : Nat} {acc : List (Nat × Nat)} {mid : Nat} {x : Int32} (hw : w < 2) (hx : nrw 1 x = x) (hl : acc.length + w ≤ 400) (hc : ClT tp L ct M k) (ha : LwC M acc) {Q : Int32 → MMw → Prop} (hQ : ∀ M', CFr M M' → ClT tp L ct M' k → LwC M' (acc ++ k_oo w) → Q x M') :
    Wq X (callw X D) mid (Gk n tot kn kx) Q (if nI w = (0 : Int32) then (if nrw 1 x = x then some (.inl (x, Gk n tot kn kx, M)) else none) else (bnd (callw X D 126 [.inr (.inl 100), .inl (nI 11), .inl (nI 0)] (Gk n tot kn kx) M) fun _ _ M2 => (if nrw 1 x = x then some (.inl (x, Gk n tot kn kx, M2)) else none))) := by
  by_cases h0 : w = 0
  · subst h0
    rw [if_pos (by rfl), if_pos hx, Wq_ret]
    exact hQ M CFr.rf hc (by unfold k_oo; rw [if_pos rfl, List.append_nil]; exact ha)
  · rw [if_neg (by rw [z_nI, eq_i (by omega) (by omega)]; exact h0)]
    refine Wq.call (c_put hD (by omega) (by decide) (by decide) ha) ?_
    rintro y M2 ⟨f2, g2, l2⟩
    rw [if_pos hx, Wq_ret]
    exact hQ M2 f2 (hc.cg g2 f2) (by unfold k_oo; rw [if_neg h0]; exact l2)
theorem c_putox (hD : 1 ≤ D) {w : Nat} {mid : Nat} {x : Int32} (hx : nrw 1 x = x) (hs : SzC M) {Q : Int32 → MMw → Prop} (hQ : ∀ M', CFr M M' → M' 95 = M 95 → SzC M' → Q x M') :
    Wq X (callw X D) mid (Gk n tot kn kx) Q (if nI w = (0 : Int32) then (if nrw 1 x = x then some (.inl (x, Gk n tot kn kx, M)) else none) else (bnd (callw X D 126 [.inr (.inl 100), .inl (nI 11), .inl (nI 0)] (Gk n tot kn kx) M) fun _ _ M2 => (if nrw 1 x = x then some (.inl (x, Gk n tot kn kx, M2)) else none))) := by
  by_cases h0 : nI w = (0 : Int32)
  · rw [if_pos h0, if_pos hx, Wq_ret]
    exact hQ M CFr.rf rfl hs
  · rw [if_neg h0]
    refine Wq.call (c_putx hD hs) ?_
    rintro y M2 ⟨f2, g2, l2⟩
    rw [if_pos hx, Wq_ret]
    exact hQ M2 f2 g2 l2
theorem c_orfail (hD : 1 ≤ D) {tp : Nat → Nat} {L a i d w it : Nat} {M0 : MMw} (h : FlC tp L M0 a i (nI 0) M) {Q : Int32 → MMw → Prop} (hQ : ∀ x M', FlC tp L M0 a i x M' → Q x M') : LsB X n tot kn kx D d w 0 it M Q := by
  refine Lq.of (t_132_p95_11_ok X (callw X D) n tot kn kx _ _ _ _ M) ?_
  unfold t_132_p95_11
  simp only [o_nI]
  by_cases hi : nI it < nI 400
  · rw [if_pos hi, if_pos (by rfl)]
    exact c_putox hD nrw_0 h.2.2.2 (fun M' f e s => hQ _ M' (h.put f e s))
  · rw [if_neg hi]
    exact c_putox hD nrw_0 h.2.2.2 (fun M' f e s => hQ _ M' (h.put f e s))
def GdB (tp : Nat → Nat) (L ct k b : Nat) (r : RzT) : Prop := match r with
  | .inl _ => True
  | .inr (k', o) => k ≤ k' ∧ k' ≤ ct ∧ o.length + k ≤ k' ∧ k_tk tp L k' ≠ 107 ∧ ∀ h, 1 ≤ h → h + b < 64 → LwS o h h
/-- both sides on a run of and -/
def JoN (X : KXw) (n tot kn : Nat) (kx : Nat → Nat × Nat) (tp : Nat → Nat) (L ct rd k m : Nat) (r : RzT) : Prop :=
  (∀ (D w it : Nat) (acc : List (Nat × Nat)) (M : MMw) (Q : Int32 → MMw → Prop), 4 + 2 * m ≤ D → w < 2 → ClT tp L ct M k → LwC M acc → acc.length + w ≤ k → it < k → LpQ tp L ct M acc r Q (fun it' M' => LsB X n tot kn kx D (8 - m) w 1 it' M' Q) → LsB X n tot kn kx D (8 - m) w 1 it M Q) ∧
  (∀ (D : Nat) (acc : List (Nat × Nat)) (M : MMw), 13 + 3 * m ≤ D → MdT tp L rd M k → StM M acc → acc.length ≤ k → M 178 24 = nI (8 - m) → Lq X (callw X D) 165 9 [some (.inr (.inl 178))] (Gk n tot kn kx) M (MoQ tp L rd M acc r)) ∧ GdB tp L ct k (3 + 2 * m) r
theorem J_andloop {tp : Nat → Nat} {L ct rd m k0 : Nat} (hx : TxP tp L ct) (hrd : rd < 2) (hm : m ≤ 8) (hT : ∀ k', k0 ≤ k' → k' ≤ ct → ∃ r, JoT X n tot kn kx tp L ct rd k' m r) : ∀ (c k : Nat), ct ≤ k + c → k ≤ ct → k0 ≤ k + 1 → ∃ r, JoN X n tot kn kx tp L ct rd k m r := by
  have hct := hx.2.2.1
  have stop : ∀ k, k ≤ ct → k_tk tp L k ≠ 107 → JoN X n tot kn kx tp L ct rd k m (.inr (k, [])) := fun k hk t107 => by
    have hb := tx_tk (k := k) hx
    have hmt := k_mt_lt rd (by omega) _ hb
    obtain ⟨_, _, _, _, _, _, m107, _⟩ := k_tT hrd _ hb
    refine ⟨fun D w it acc M Q hD hw hC hA hl hit hQ => ?_, fun D acc M hD hM hS hl h24 => ?_, Nat.le_refl _, hk, by simp, t107, fun h _ _ => rfl⟩
    · exact hQ it M CFr.rf hC (by rw [List.append_nil]; exact hA) hit
    · refine Lq.of (t_165_9_ok X (callw X D) n tot kn kx M) ?_
      unfold t_165_9
      rw [hM.2.2.2.1, if_neg (by rw [o_nI, eq_i (by omega) (by omega)]; exact fun e => t107 (m107.mp e)), Wq_ret]
      exact ⟨rfl, MFr.rf, hM, by rw [List.append_nil]; exact hS, rfl⟩
  intro c
  induction c with
  | zero =>
    intro k hc hk _
    have e0 : k_tk tp L k = 0 := by rw [show k = ct by omega]; exact tx_end hx
    exact ⟨_, stop k hk (by omega)⟩
  | succ c ih =>
    intro k hc hk hk0
    by_cases t107 : k_tk tp L k = 107
    · have hb := tx_tk (k := k) hx
      have hmt := k_mt_lt rd (by omega) _ hb
      obtain ⟨_, _, _, _, _, _, m107, _⟩ := k_tT hrd _ hb
      have hkc := tx_lt hx hk (by omega)
      obtain ⟨r1, a1, a2, a3⟩ := hT (k + 1) hk0 (by omega)
      have cls : ∀ (D w it : Nat) (acc : List (Nat × Nat)) (M : MMw) (Q : Int32 → MMw → Prop), 4 + 2 * m ≤ D → w < 2 → ClT tp L ct M k → LwC M acc → it < k → (∀ M2, CFr M M2 → ClT tp L ct M2 (k + 1) → LwC M2 acc → Wq X (callw X D) 132 (Gk n tot kn kx) Q (bnd (callw X D 131 [.inr (.inl 95), .inl (nI (8 - m))] (Gk n tot kn kx) M2) fun r9 _ M10 => (bnd (callw X D 126 [.inr (.inl 100), .inl (nI 10), .inl (nI 0)] (Gk n tot kn kx) M10) fun _ _ M12 => some (.inr (11, [some (.inr (.inl 95)), some (.inl (nI (8 - m))), some (.inl (nI w)), some (.inl r9), some (.inl (nI (it + 1))), none], [], (Gk n tot kn kx), M12))))) → LsB X n tot kn kx D (8 - m) w 1 it M Q := fun D w it acc M Q hD hw hC hA hit hK => by
        refine Lq.of (t_132_p95_11_ok X (callw X D) n tot kn kx _ _ _ _ M) ?_
        unfold t_132_p95_11
        simp only [o_nI]
        rw [hC.2.1, t107, if_pos (by rw [lt_i (by omega) (by omega)]; omega), if_neg (by decide +kernel), if_neg (by decide +kernel), if_pos rfl, Wq_jmp]
        refine Lq.of (t_132_p95_41_ok X (callw X D) n tot kn kx _ _ _ M) ?_
        unfold t_132_p95_41
        simp only [o_nI]
        rw [hC.2.1, t107, if_pos rfl, Wq_jmp]
        refine Lq.of (t_132_p95_76_ok X (callw X D) n tot kn kx _ _ _ _ M) ?_
        unfold t_132_p95_76
        simp only [o_nI]
        by_cases w0 : w = 0
        · subst w0
          rw [if_pos (by rfl), if_neg (by decide +kernel)]
          refine Wq.call (c_adv (by omega) hx hkc hC) ?_
          rintro y M2 ⟨f2, c2⟩
          have hk1 := hK M2 (CFr.of f2 (by decide)) c2 (hA.f9 f2)
          simp only [show ¬ (nI 1 = (0 : Int32)) by decide +kernel, if_false, i1_nI, nI_add]
          exact hk1
        · have w1 : w = 1 := by omega
          subst w1
          rw [if_neg (by decide +kernel)]
          refine Wq.call (c_adv (by omega) hx hkc hC) ?_
          rintro y M2 ⟨f2, c2⟩
          have hk1 := hK M2 (CFr.of f2 (by decide)) c2 (hA.f9 f2)
          simp only [show ¬ (nI 1 = (0 : Int32)) by decide +kernel, if_false, i1_nI, nI_add]
          exact hk1
      have mdl : ∀ (D : Nat) (acc : List (Nat × Nat)) (M : MMw) (Q : Int32 → MMw → Prop), 13 ≤ D → MdT tp L rd M k → StM M acc → (∀ M2, MFr M M2 → M2 178 24 = M 178 24 → MdT tp L rd M2 (k + 1) → StM M2 acc → Wq X (callw X D) 165 (Gk n tot kn kx) Q (bnd (callw X D 164 [.inr (.inl 178)] (Gk n tot kn kx) M2) fun r3 _ M4 => (if r3 = (0 : Int32) then some (.inl (nI 0, Gk n tot kn kx, M4)) else (bnd (callw X D 158 [.inr (.inl 178), .inl (nI 31), .inl (nI 0)] (Gk n tot kn kx) M4) fun _ _ M6 => some (.inr (9, [some (.inr (.inl 178))], [], (Gk n tot kn kx), M6)))))) → Lq X (callw X D) 165 9 [some (.inr (.inl 178))] (Gk n tot kn kx) M Q := fun D acc M Q hD hM hS hK => by
        refine Lq.of (t_165_9_ok X (callw X D) n tot kn kx M) ?_
        unfold t_165_9
        simp only [o_nI]
        rw [hM.2.2.2.1, if_pos (by rw [m107.mpr t107])]
        refine Wq.call (m_nextK (by omega) hx.1 hx.2.1 (by omega) hM) ?_
        rintro y M2 ⟨f2, c2⟩
        exact hK M2 (MFr.of f2 (by decide)) (f2.2 24 (by decide)) c2 (hS.f8 f2 (by decide))
      rcases r1 with ⟨a, i⟩ | ⟨k2, o⟩
      · refine ⟨.inl (a, i), fun D w it acc M Q hD hw hC hA hl hit hQ => ?_, fun D acc M hD hM hS hl h24 => ?_, trivial⟩
        · refine cls D w it acc M Q hD hw hC hA hit (fun M2 f2 c2 l2 => ?_)
          refine Wq.call (a1 D acc M2 hD c2 l2 (by omega)) ?_
          rintro y M3 h3
          have h3 : FlC tp L M2 a i y M3 := h3
          obtain rfl := h3.1
          refine Wq.call (c_putx (by omega) h3.2.2.2) ?_
          rintro z M4 ⟨f4, e4, s4⟩
          rw [Wq_jmp]
          exact c_orfail (by omega) ((h3.put f4 e4 s4).tr f2) hQ
        · refine mdl D acc M _ (by omega) hM hS (fun M2 f2 e2 c2 l2 => ?_)
          refine Wq.call (a2 D acc M2 hD c2 l2 (by omega) (by rw [e2, h24])) ?_
          rintro y M3 h3
          have h3 : FlM tp L M2 a i y M3 := h3
          obtain rfl := h3.1
          rw [if_pos (by rfl), Wq_ret]
          exact h3.tr f2
      · obtain ⟨b1, b2, b3, b4⟩ := a3
        obtain ⟨r2, c1, c2, c3⟩ := ih k2 (by omega) b2 (by omega)
        refine ⟨k_pre (o ++ [(10, 0)]) r2, fun D w it acc M Q hD hw hC hA hl hit hQ => ?_, fun D acc M hD hM hS hl h24 => ?_, ?_⟩
        · refine cls D w it acc M Q hD hw hC hA hit (fun M2 f2 cc2 l2 => ?_)
          refine Wq.call (a1 D acc M2 hD cc2 l2 (by omega)) ?_
          rintro y M3 h3
          obtain ⟨rfl, f3, cc3, l3⟩ : y = nI 1 ∧ CFr M2 M3 ∧ ClT tp L ct M3 k2 ∧ LwC M3 (acc ++ o) := h3
          refine Wq.call (c_put (by omega) (by rw [List.length_append]; omega) (by decide) (by decide) l3) ?_
          rintro z M4 ⟨f4, e4, l4⟩
          rw [Wq_jmp]
          rw [List.append_assoc] at l4
          exact c1 D w (it + 1) _ M4 Q hD hw (cc3.cg e4 f4) l4 (by rw [List.length_append, List.length_append]; show acc.length + (o.length + 1) + w ≤ k2; omega) (by omega) (hQ.pre ((f2.tr f3).tr f4))
        · refine mdl D acc M _ (by omega) hM hS (fun M2 f2 e2 cc2 l2 => ?_)
          refine Wq.call (a2 D acc M2 hD cc2 l2 (by omega) (by rw [e2, h24])) ?_
          rintro y M3 h3
          obtain ⟨rfl, f3, cc3, l3, e3⟩ : y = nI 1 ∧ MFr M2 M3 ∧ MdT tp L rd M3 k2 ∧ StM M3 (acc ++ o) ∧ M3 178 24 = M2 178 24 := h3
          rw [if_neg (by decide +kernel)]
          refine Wq.call (m_lay (op := (10, 0)) (by omega) (by rw [List.length_append]; omega) ⟨rfl, fun hh => (by rcases hh with hh | hh <;> cases hh)⟩ l3) ?_
          rintro z M4 l4
          rw [Wq_jmp]
          have l5 := l4.2.2
          rw [List.append_assoc] at l5
          have e4 : M4 178 24 = M 178 24 := by rw [l4.2.1 24 (by decide), e3, e2]
          refine Lq.mono (c2 D _ M4 hD (cc3.ly l4) l5 (by rw [List.length_append, List.length_append]; show acc.length + (o.length + 1) ≤ k2; omega) (by rw [e4, h24])) (fun x M' hq => ?_)
          exact MoQ.pre ((f2.tr f3).tr l4.1) e4 hq
        · rcases r2 with ⟨a, i⟩ | ⟨k3, q⟩
          · trivial
          · obtain ⟨d1, d2, d3, d4, d5⟩ := c3
            exact ⟨by omega, d2, by rw [List.length_append, List.length_append]; show o.length + 1 + q.length + k ≤ k3; omega, d4, fun h h1 h2 => ((b4 h h2).app (LwS.bin (by decide) (by decide) h1)).app (d5 h h1 h2)⟩
    · exact ⟨_, stop k hk t107⟩
def GdE (tp : Nat → Nat) (L ct k b : Nat) (r : RzT) : Prop := match r with
  | .inl _ => True
  | .inr (k', o) => k < k' ∧ k' ≤ ct ∧ o.length + k ≤ k' ∧ k_tk tp L k' ≠ 107 ∧ ∀ h, h + b < 64 → LwS o h (h + 1)
theorem J_every {tp : Nat → Nat} {L ct rd m k : Nat} (hx : TxP tp L ct) (hrd : rd < 2) (hm : m ≤ 8) (hT : ∀ k', k ≤ k' → k' ≤ ct → ∃ r, JoT X n tot kn kx tp L ct rd k' m r) (hk : k ≤ ct) : ∃ r,
    (∀ (D w it : Nat) (acc : List (Nat × Nat)) (M : MMw) (Q : Int32 → MMw → Prop), 4 + 2 * m ≤ D → w < 2 → ClT tp L ct M k → LwC M acc → acc.length + w ≤ k → it ≤ k → LpQ tp L ct M acc r Q (fun it' M' => LsB X n tot kn kx D (8 - m) w 1 it' M' Q) → Wq X (callw X D) 132 (Gk n tot kn kx) Q (bnd (callw X D 131 [.inr (.inl 95), .inl (nI (8 - m))] (Gk n tot kn kx) M) fun r1 _ M2 => some (.inr (11, [some (.inr (.inl 95)), some (.inl (nI (8 - m))), some (.inl (nI w)), some (.inl r1), some (.inl (nI it)), none], [], (Gk n tot kn kx), M2)))) ∧
    (∀ (D : Nat) (acc : List (Nat × Nat)) (M : MMw), 14 + 3 * m ≤ D → MdT tp L rd M k → StM M acc → acc.length ≤ k → M 178 24 = nI (8 - m) → Sq X D 165 [.inr (.inl 178)] (Gk n tot kn kx) M (MoQ tp L rd M acc r)) ∧ GdE tp L ct k (4 + 2 * m) r := by
  have hct := hx.2.2.1
  obtain ⟨r1, a1, a2, a3⟩ := hT k (Nat.le_refl _) hk
  rcases r1 with ⟨a, i⟩ | ⟨k2, P⟩
  · refine ⟨.inl (a, i), fun D w it acc M Q hD hw hC hA hl hit hQ => ?_, fun D acc M hD hM hS hl h24 => ?_, trivial⟩
    · refine Wq.call (a1 D acc M hD hC hA (by omega)) ?_
      rintro y M3 h3
      have h3 : FlC tp L M a i y M3 := h3
      obtain rfl := h3.1
      rw [Wq_jmp]
      exact c_orfail (by omega) h3 hQ
    · refine Sq.mk (k := 13 + 3 * m) (by omega) (fun D' hD' => ?_)
      refine Lq.of (t_165_0_ok X (callw X D') n tot kn kx M) ?_
      unfold t_165_0
      refine Wq.call (a2 D' acc M hD' hM hS hl h24) ?_
      rintro y M3 h3
      have h3 : FlM tp L M a i y M3 := h3
      obtain rfl := h3.1
      rw [if_pos (by rfl), Wq_ret]
      exact h3
  · obtain ⟨b1, b2, b3, b4⟩ := a3
    obtain ⟨r2, c1, c2, c3⟩ := J_andloop (X := X) (n := n) (tot := tot) (kn := kn) (kx := kx) hx hrd hm hT ct k2 (by omega) b2 (by omega)
    refine ⟨k_pre P r2, fun D w it acc M Q hD hw hC hA hl hit hQ => ?_, fun D acc M hD hM hS hl h24 => ?_, ?_⟩
    · refine Wq.call (a1 D acc M hD hC hA (by omega)) ?_
      rintro y M3 h3
      obtain ⟨rfl, f3, cc3, l3⟩ : y = nI 1 ∧ CFr M M3 ∧ ClT tp L ct M3 k2 ∧ LwC M3 (acc ++ P) := h3
      rw [Wq_jmp]
      exact c1 D w it _ M3 Q hD hw cc3 l3 (by rw [List.length_append]; omega) (by omega) (hQ.pre f3)
    · refine Sq.mk (k := 13 + 3 * m) (by omega) (fun D' hD' => ?_)
      refine Lq.of (t_165_0_ok X (callw X D') n tot kn kx M) ?_
      unfold t_165_0
      refine Wq.call (a2 D' acc M hD' hM hS hl h24) ?_
      rintro y M3 h3
      obtain ⟨rfl, f3, m3, s3, e3⟩ : y = nI 1 ∧ MFr M M3 ∧ MdT tp L rd M3 k2 ∧ StM M3 (acc ++ P) ∧ M3 178 24 = M 178 24 := h3
      rw [if_neg (by decide +kernel), Wq_jmp]
      refine Lq.mono (c2 D' _ M3 hD' m3 s3 (by rw [List.length_append]; omega) (by rw [e3, h24])) (fun x M' hq => ?_)
      exact MoQ.pre f3 e3 hq
    · rcases r2 with ⟨a, i⟩ | ⟨k3, o⟩
      · trivial
      · obtain ⟨d1, d2, d3, d4, d5⟩ := c3
        exact ⟨by omega, d2, by rw [List.length_append]; omega, d4, fun h hh => (b4 h (by omega)).app (d5 (h + 1) (by omega) (by omega))⟩
def GdLb (ct k b : Nat) (r : RzT) : Prop := match r with
  | .inl _ => True
  | .inr (k', o) => k ≤ k' ∧ k' ≤ ct ∧ o.length + k ≤ k' ∧ ∀ h, 1 ≤ h → h + b < 64 → LwS o h h
/-- both sides on a run of or -/
def JoO (X : KXw) (n tot kn : Nat) (kx : Nat → Nat × Nat) (tp : Nat → Nat) (L ct rd k m : Nat) (r : RzT) : Prop :=
  (∀ (D w it : Nat) (acc : List (Nat × Nat)) (M : MMw) (Q : Int32 → MMw → Prop), 4 + 2 * m ≤ D → w < 2 → ClT tp L ct M k → LwC M acc → acc.length + w ≤ k → it < k → (∀ x M', CoQ tp L ct M (acc ++ k_oo w) r x M' → Q x M') → LsB X n tot kn kx D (8 - m) w 1 it M Q) ∧
  (∀ (D : Nat) (acc : List (Nat × Nat)) (M : MMw), 14 + 3 * m ≤ D → MdT tp L rd M k → StM M acc → acc.length ≤ k → M 178 24 = nI (8 - m) → Lq X (callw X D) 166 9 [some (.inr (.inl 178))] (Gk n tot kn kx) M (MoQ tp L rd M acc r)) ∧ GdLb ct k (4 + 2 * m) r
theorem J_orloop {tp : Nat → Nat} {L ct rd m k0 : Nat} (hx : TxP tp L ct) (hrd : rd < 2) (hm : m ≤ 8) (hT : ∀ k', k0 ≤ k' → k' ≤ ct → ∃ r, JoT X n tot kn kx tp L ct rd k' m r) : ∀ (c k : Nat), ct ≤ k + c → k ≤ ct → k0 ≤ k + 1 → k_tk tp L k ≠ 107 → ∃ r, JoO X n tot kn kx tp L ct rd k m r := by
  have hct := hx.2.2.1
  have stop : ∀ k, k ≤ ct → k_tk tp L k ≠ 107 → k_tk tp L k ≠ 106 → JoO X n tot kn kx tp L ct rd k m (.inr (k, [])) := fun k hk t107 t106 => by
    have hb := tx_tk (k := k) hx
    have hmt := k_mt_lt rd (by omega) _ hb
    obtain ⟨_, _, _, _, _, _, _, m106, _⟩ := k_tT hrd _ hb
    refine ⟨fun D w it acc M Q hD hw hC hA hl hit hQ => ?_, fun D acc M hD hM hS hl h24 => ?_, Nat.le_refl _, hk, by simp, fun h _ _ => rfl⟩
    · refine Lq.of (t_132_p95_11_ok X (callw X D) n tot kn kx _ _ _ _ M) ?_
      unfold t_132_p95_11
      simp only [o_nI]
      rw [hC.2.1, if_pos (by rw [lt_i (by omega) (by omega)]; omega), if_neg (by decide +kernel), if_neg (by rw [eq_i (by omega) (by omega)]; exact t106), if_neg (by rw [eq_i (by omega) (by omega)]; exact t107)]
      exact c_puto (by omega) hw nrw_1 (by omega) hC hA (fun M' f c l => hQ _ M' ⟨rfl, f, c, by rw [List.append_nil]; exact l⟩)
    · refine Lq.of (t_166_9_ok X (callw X D) n tot kn kx M) ?_
      unfold t_166_9
      rw [hM.2.2.2.1, if_neg (by rw [o_nI, eq_i (by omega) (by omega)]; exact fun e => t106 (m106.mp e)), Wq_ret]
      exact ⟨rfl, MFr.rf, hM, by rw [List.append_nil]; exact hS, rfl⟩
  intro c
  induction c with
  | zero =>
    intro k hc hk _ t107
    have e0 : k_tk tp L k = 0 := by rw [show k = ct by omega]; exact tx_end hx
    exact ⟨_, stop k hk t107 (by omega)⟩
  | succ c ih =>
    intro k hc hk hk0 t107
    by_cases t106 : k_tk tp L k = 106
    · have hb := tx_tk (k := k) hx
      have hmt := k_mt_lt rd (by omega) _ hb
      obtain ⟨_, _, _, _, _, _, _, m106, _⟩ := k_tT hrd _ hb
      have hkc := tx_lt hx hk (by omega)
      obtain ⟨r1, a1, a2, a3⟩ := J_every (X := X) (n := n) (tot := tot) (kn := kn) (kx := kx) hx hrd hm (fun k' h1 h2 => hT k' (by omega) h2) (show k + 1 ≤ ct by omega)
      have cls : ∀ (D w it : Nat) (acc : List (Nat × Nat)) (M : MMw) (Q : Int32 → MMw → Prop), 4 + 2 * m ≤ D → w < 2 → ClT tp L ct M k → LwC M acc → acc.length + w ≤ k → it < k → (∀ M2, CFr M M2 → ClT tp L ct M2 (k + 1) → LwC M2 (acc ++ k_oo w) → Wq X (callw X D) 132 (Gk n tot kn kx) Q (bnd (callw X D 131 [.inr (.inl 95), .inl (nI (8 - m))] (Gk n tot kn kx) M2) fun r1 _ M4 => some (.inr (11, [some (.inr (.inl 95)), some (.inl (nI (8 - m))), some (.inl (nI 1)), some (.inl r1), some (.inl (nI (it + 1))), none], [], (Gk n tot kn kx), M4)))) → LsB X n tot kn kx D (8 - m) w 1 it M Q := fun D w it acc M Q hD hw hC hA hl hit hK => by
        refine Lq.of (t_132_p95_11_ok X (callw X D) n tot kn kx _ _ _ _ M) ?_
        unfold t_132_p95_11
        simp only [o_nI]
        rw [hC.2.1, t106, if_pos (by rw [lt_i (by omega) (by omega)]; omega), if_neg (by decide +kernel), if_pos rfl, Wq_jmp]
        have rest : ∀ M1 : MMw, CFr M M1 → ClT tp L ct M1 k → LwC M1 (acc ++ k_oo w) → Lq X (callw X D) 132 76 [some (.inr (.inl 95)), some (.inl (nI (8 - m))), some (.inl (nI w)), none, some (.inl (nI it)), some (.inl (nI 0))] (Gk n tot kn kx) M1 Q := fun M1 f1 c1 l1 => by
          refine Lq.of (t_132_p95_76_ok X (callw X D) n tot kn kx _ _ _ _ M1) ?_
          unfold t_132_p95_76
          simp only [o_nI]
          by_cases w0 : w = 0
          · subst w0
            rw [if_pos (by rfl), if_pos (by rfl)]
            refine Wq.call (c_adv (by omega) hx hkc c1) ?_
            rintro y M2 ⟨f2, c2⟩
            have hk1 := hK M2 (f1.tr (CFr.of f2 (by decide))) c2 (l1.f9 f2)
            simp only [show (nI 0 = (0 : Int32)) by rfl, if_true, i1_nI, nI_add]
            exact hk1
          · have w1 : w = 1 := by omega
            subst w1
            rw [if_neg (by decide +kernel)]
            refine Wq.call (c_adv (by omega) hx hkc c1) ?_
            rintro y M2 ⟨f2, c2⟩
            have hk1 := hK M2 (f1.tr (CFr.of f2 (by decide))) c2 (l1.f9 f2)
            simp only [show (nI 0 = (0 : Int32)) by rfl, if_true, i1_nI, nI_add]
            exact hk1
        refine Lq.of (t_132_p95_41_ok X (callw X D) n tot kn kx _ _ _ M) ?_
        unfold t_132_p95_41
        simp only [o_nI]
        rw [hC.2.1, t106, if_neg (by decide +kernel)]
        by_cases w0 : w = 0
        · rw [if_pos (by rw [w0]; rfl), Wq_jmp]
          exact rest M CFr.rf hC (by unfold k_oo; rw [if_pos w0, List.append_nil]; exact hA)
        · rw [if_neg (by rw [z_nI, eq_i (by omega) (by omega)]; exact w0)]
          refine Wq.call (c_put (by omega) (show acc.length < 400 by omega) (by decide) (by decide) hA) ?_
          rintro y M1 ⟨f1, g1, l1⟩
          rw [Wq_jmp]
          exact rest M1 f1 (hC.cg g1 f1) (by unfold k_oo; rw [if_neg w0]; exact l1)
      have mdl : ∀ (D : Nat) (acc : List (Nat × Nat)) (M : MMw) (Q : Int32 → MMw → Prop), 13 ≤ D → MdT tp L rd M k → StM M acc → (∀ M2, MFr M M2 → M2 178 24 = M 178 24 → MdT tp L rd M2 (k + 1) → StM M2 acc → Wq X (callw X D) 166 (Gk n tot kn kx) Q (bnd (callw X D 165 [.inr (.inl 178)] (Gk n tot kn kx) M2) fun r3 _ M4 => (if r3 = (0 : Int32) then some (.inl (nI 0, Gk n tot kn kx, M4)) else (bnd (callw X D 158 [.inr (.inl 178), .inl (nI 32), .inl (nI 0)] (Gk n tot kn kx) M4) fun _ _ M6 => some (.inr (9, [some (.inr (.inl 178))], [], (Gk n tot kn kx), M6)))))) → Lq X (callw X D) 166 9 [some (.inr (.inl 178))] (Gk n tot kn kx) M Q := fun D acc M Q hD hM hS hK => by
        refine Lq.of (t_166_9_ok X (callw X D) n tot kn kx M) ?_
        unfold t_166_9
        simp only [o_nI]
        rw [hM.2.2.2.1, if_pos (by rw [m106.mpr t106])]
        refine Wq.call (m_nextK (by omega) hx.1 hx.2.1 (by omega) hM) ?_
        rintro y M2 ⟨f2, c2⟩
        exact hK M2 (MFr.of f2 (by decide)) (f2.2 24 (by decide)) c2 (hS.f8 f2 (by decide))
      have lwo : ∀ (acc : List (Nat × Nat)) (w : Nat), w < 2 → acc.length + w ≤ k → (acc ++ k_oo w).length + 1 ≤ k + 1 := fun acc w hw hl => by
        rw [List.length_append]
        unfold k_oo
        by_cases w0 : w = 0
        · rw [if_pos w0]; show acc.length + 0 + 1 ≤ k + 1; omega
        · rw [if_neg w0]; show acc.length + 1 + 1 ≤ k + 1; omega
      rcases r1 with ⟨a, i⟩ | ⟨k2, P⟩
      · refine ⟨.inl (a, i), fun D w it acc M Q hD hw hC hA hl hit hQ => ?_, fun D acc M hD hM hS hl h24 => ?_, trivial⟩
        · refine cls D w it acc M Q hD hw hC hA hl hit (fun M2 f2 c2 l2 => ?_)
          exact a1 D 1 (it + 1) _ M2 Q hD (by decide) c2 l2 (lwo acc w hw hl) (by omega) (fun x M' h => hQ x M' (FlC.tr f2 h))
        · refine mdl D acc M _ (by omega) hM hS (fun M2 f2 e2 c2 l2 => ?_)
          refine Wq.call (a2 D acc M2 hD c2 l2 (by omega) (by rw [e2, h24])) ?_
          rintro y M3 h3
          have h3 : FlM tp L M2 a i y M3 := h3
          obtain rfl := h3.1
          rw [if_pos (by rfl), Wq_ret]
          exact h3.tr f2
      · obtain ⟨b1, b2, b3, b4, b5⟩ := a3
        obtain ⟨r2, c1, c2, c3⟩ := ih k2 (by omega) b2 (by omega) b4
        refine ⟨k_pre (P ++ [(11, 0)]) r2, fun D w it acc M Q hD hw hC hA hl hit hQ => ?_, fun D acc M hD hM hS hl h24 => ?_, ?_⟩
        · have hlw := lwo acc w hw hl
          refine cls D w it acc M Q hD hw hC hA hl hit (fun M2 f2 cc2 l2 => ?_)
          refine a1 D 1 (it + 1) _ M2 Q hD (by decide) cc2 l2 hlw (by omega) (fun it' M' g1 g2 g3 g4 => ?_)
          refine c1 D 1 it' (acc ++ k_oo w ++ P) M' Q hD (by decide) g2 g3 (by rw [List.length_append]; omega) g4 (fun x M'' hq => ?_)
          refine hQ x M'' (CoQ.pre (f2.tr g1) ?_)
          have ek : k_oo 1 = [(11, 0)] := rfl
          rw [ek, List.append_assoc] at hq
          exact hq
        · refine mdl D acc M _ (by omega) hM hS (fun M2 f2 e2 cc2 l2 => ?_)
          refine Wq.call (a2 D acc M2 hD cc2 l2 (by omega) (by rw [e2, h24])) ?_
          rintro y M3 h3
          obtain ⟨rfl, f3, m3, s3, e3⟩ : y = nI 1 ∧ MFr M2 M3 ∧ MdT tp L rd M3 k2 ∧ StM M3 (acc ++ P) ∧ M3 178 24 = M2 178 24 := h3
          rw [if_neg (by decide +kernel)]
          refine Wq.call (m_lay (op := (11, 0)) (by omega) (by rw [List.length_append]; omega) ⟨rfl, fun hh => (by rcases hh with hh | hh <;> cases hh)⟩ s3) ?_
          rintro z M4 l4
          rw [Wq_jmp]
          have l5 := l4.2.2
          rw [List.append_assoc] at l5
          have e4 : M4 178 24 = M 178 24 := by rw [l4.2.1 24 (by decide), e3, e2]
          refine Lq.mono (c2 D _ M4 hD (m3.ly l4) l5 (by rw [List.length_append, List.length_append]; show acc.length + (P.length + 1) ≤ k2; omega) (by rw [e4, h24])) (fun x M' hq => ?_)
          exact MoQ.pre ((f2.tr f3).tr l4.1) e4 hq
        · rcases r2 with ⟨a, i⟩ | ⟨k3, o⟩
          · trivial
          · obtain ⟨d1, d2, d3, d4⟩ := c3
            exact ⟨by omega, d2, by rw [List.length_append, List.length_append]; show P.length + 1 + o.length + k ≤ k3; omega, fun h h1 h2 => ((b5 h h2).app (LwS.bin (by decide) (by decide) h1)).app (d4 h h1 h2)⟩
    · exact ⟨_, stop k hk t107 t106⟩
theorem J_any {tp : Nat → Nat} {L ct rd m k : Nat} (hx : TxP tp L ct) (hrd : rd < 2) (hm : m ≤ 8) (hT : ∀ k', k ≤ k' → k' ≤ ct → ∃ r, JoT X n tot kn kx tp L ct rd k' m r) (hk : k ≤ ct) : ∃ r, JoA X n tot kn kx tp L ct rd k m r := by
  obtain ⟨r1, a1, a2, a3⟩ := J_every (X := X) (n := n) (tot := tot) (kn := kn) (kx := kx) hx hrd hm hT hk
  have cls : ∀ (D : Nat) (acc : List (Nat × Nat)) (M : MMw) (Q : Int32 → MMw → Prop), 4 + 2 * m ≤ D → ClT tp L ct M k → LwC M acc → acc.length ≤ k → LpQ tp L ct M acc r1 Q (fun it' M' => LsB X n tot kn kx D (8 - m) 0 1 it' M' Q) → Sq X (D + 1) 132 [.inr (.inl 95), .inl (nI (8 - m))] (Gk n tot kn kx) M Q := fun D acc M Q hD hC hA hl hQ => by
    refine Sq.of ?_
    refine Lq.of (t_132_p95_0_ok X (callw X D) n tot kn kx _ M) ?_
    unfold t_132_p95_0
    exact a1 D 0 0 acc M Q hD (by decide) hC hA hl (Nat.zero_le _) hQ
  rcases r1 with ⟨a, i⟩ | ⟨k2, P⟩
  · refine ⟨.inl (a, i), fun D acc M hD hC hA hl => ?_, fun D acc M hD hM hS hl h24 => ?_, trivial⟩
    · obtain ⟨D', rfl⟩ : ∃ D', D = D' + 1 := ⟨D - 1, by omega⟩
      exact cls D' acc M _ (by omega) hC hA hl (fun x M' h => h)
    · refine Sq.mk (k := 14 + 3 * m) (by omega) (fun D' hD' => ?_)
      refine Lq.of (t_166_0_ok X (callw X D') n tot kn kx M) ?_
      unfold t_166_0
      refine Wq.call (a2 D' acc M hD' hM hS hl h24) ?_
      rintro y M3 h3
      have h3 : FlM tp L M a i y M3 := h3
      obtain rfl := h3.1
      rw [if_pos (by rfl), Wq_ret]
      exact h3
  · obtain ⟨b1, b2, b3, b4, b5⟩ := a3
    obtain ⟨r2, c1, c2, c3⟩ := J_orloop (X := X) (n := n) (tot := tot) (kn := kn) (kx := kx) hx hrd hm hT ct k2 (by omega) b2 (by omega) b4
    refine ⟨k_pre P r2, fun D acc M hD hC hA hl => ?_, fun D acc M hD hM hS hl h24 => ?_, ?_⟩
    · obtain ⟨D', rfl⟩ : ∃ D', D = D' + 1 := ⟨D - 1, by omega⟩
      refine cls D' acc M _ (by omega) hC hA hl (fun it' M' g1 g2 g3 g4 => ?_)
      refine c1 D' 0 it' (acc ++ P) M' _ (by omega) (by decide) g2 g3 (by rw [List.length_append]; omega) g4 (fun x M'' hq => ?_)
      refine CoQ.pre g1 ?_
      have ek : k_oo 0 = [] := rfl
      rw [ek, List.append_nil] at hq
      exact hq
    · refine Sq.mk (k := 14 + 3 * m) (by omega) (fun D' hD' => ?_)
      refine Lq.of (t_166_0_ok X (callw X D') n tot kn kx M) ?_
      unfold t_166_0
      refine Wq.call (a2 D' acc M hD' hM hS hl h24) ?_
      rintro y M3 h3
      obtain ⟨rfl, f3, m3, s3, e3⟩ : y = nI 1 ∧ MFr M M3 ∧ MdT tp L rd M3 k2 ∧ StM M3 (acc ++ P) ∧ M3 178 24 = M 178 24 := h3
      rw [if_neg (by decide +kernel), Wq_jmp]
      refine Lq.mono (c2 D' _ M3 hD' m3 s3 (by rw [List.length_append]; omega) (by rw [e3, h24])) (fun x M' hq => ?_)
      exact MoQ.pre f3 e3 hq
    · rcases r2 with ⟨a, i⟩ | ⟨k3, o⟩
      · trivial
      · obtain ⟨d1, d2, d3, d4⟩ := c3
        exact ⟨by omega, d2, by rw [List.length_append]; omega, fun h hh => (b5 h (by omega)).app (d4 (h + 1) (by omega) (by omega))⟩
/-- both together, from the end of the text to its beginning, deepest first -/
theorem J_all {tp : Nat → Nat} {L ct rd : Nat} (hx : TxP tp L ct) (hrd : rd < 2) : ∀ (m : Nat), m ≤ 8 → ∀ k, k ≤ ct → (∃ r, JoT X n tot kn kx tp L ct rd k m r) ∧ ∃ r, JoA X n tot kn kx tp L ct rd k m r := by
  intro m
  induction m with
  | zero =>
    intro hm k hk
    have hT : ∀ k', k' ≤ ct → ∃ r, JoT X n tot kn kx tp L ct rd k' 0 r := fun k' hk' => J_test hx hrd hk' hm (fun m' h => by omega) (fun m' h => by omega)
    exact ⟨hT k hk, J_any hx hrd hm (fun k' _ h => hT k' h) hk⟩
  | succ m ih =>
    intro hm k hk
    have hT : ∀ k', k' ≤ ct → ∃ r, JoT X n tot kn kx tp L ct rd k' (m + 1) r := fun k' hk' => J_test hx hrd hk' hm (fun m' h h2 => by
      have e : m' = m := by omega
      subst e
      exact (ih (by omega) (k' + 1) h2).1) (fun m' h h2 => by
      have e : m' = m := by omega
      subst e
      exact (ih (by omega) (k' + 1) h2).2)
    exact ⟨hT k hk, J_any hx hrd hm (fun k' _ h => hT k' h) hk⟩
end
