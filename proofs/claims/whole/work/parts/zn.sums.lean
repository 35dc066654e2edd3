section
-- needs: steps
/-! sums on both sides -/
variable {X : KXw} {n tot kn D : Nat} {kx : Nat → Nat × Nat} {M : MMw}
/-- a fault, or how far it went and which steps it laid -/
abbrev RzT : Type := (Nat × Nat) ⊕ (Nat × List (Nat × Nat))
def k_pre (u : List (Nat × Nat)) (r : RzT) : RzT := match r with | .inl e => .inl e | .inr (k, o) => .inr (k, u ++ o)
/-- steps done on a stack of height h leave height g -/
def LwS : List (Nat × Nat) → Nat → Nat → Prop
  | [], h, g => h = g
  | op :: r, h, g => ∃ f, ((op.1 = 0 ∧ op.2 ≤ 9999 ∧ h < 64 ∧ f = h + 1) ∨ (op.1 = 1 ∧ op.2 < 10 ∧ h < 64 ∧ f = h + 1) ∨ (op.1 = 2 ∧ 1 ≤ op.2 ∧ op.2 ≤ 9999 ∧ 1 ≤ h ∧ f = h) ∨ (op.1 = 3 ∧ op.2 = 0 ∧ 1 ≤ h ∧ f = h) ∨ (4 ≤ op.1 ∧ op.1 ≤ 11 ∧ op.2 = 0 ∧ h = f + 1 ∧ 1 ≤ f)) ∧ LwS r f g
theorem LwS.app : ∀ {a b : List (Nat × Nat)} {h f g : Nat}, LwS a h f → LwS b f g → LwS (a ++ b) h g
  | [], b, h, f, g, h1, h2 => by cases (show h = f from h1); exact h2
  | op :: r, b, h, f, g, h1, h2 => by
    obtain ⟨e, h3, h4⟩ := h1
    exact ⟨e, h3, LwS.app h4 h2⟩
theorem LwS.bin {t h : Nat} (h1 : 4 ≤ t) (h2 : t ≤ 11) (h3 : 1 ≤ h) : LwS [(t, 0)] (h + 1) h := ⟨h, Or.inr (Or.inr (Or.inr (Or.inr ⟨h1, h2, rfl, rfl, h3⟩))), rfl⟩
theorem LwS.un {tp : Nat → Nat} {L k h : Nat} {op : Nat × Nat} (ht : ∀ i, i < L → tp i < 256) (h1 : k_un tp L k = some op) (hh : h < 64) : LwS [op] h (h + 1) := by
  unfold k_un at h1
  by_cases h2 : k_tk tp L k = 2
  · rw [if_pos h2] at h1
    cases h1
    have := (k_vl_ok ht h2).2.2.2.2.2
    exact ⟨h + 1, Or.inl ⟨rfl, by dsimp only; omega, hh, rfl⟩, rfl⟩
  · rw [if_neg h2] at h1
    by_cases h3 : 109 ≤ k_tk tp L k ∧ k_tk tp L k ≤ 118
    · rw [if_pos h3] at h1
      cases h1
      exact ⟨h + 1, Or.inr (Or.inl ⟨rfl, by dsimp only; omega, hh, rfl⟩), rfl⟩
    · rw [if_neg h3] at h1
      cases h1
/-- the answer of the reference's methods -/
def MoQ (tp : Nat → Nat) (L rd : Nat) (M : MMw) (acc : List (Nat × Nat)) (r : RzT) (x : Int32) (M' : MMw) : Prop := match r with
  | .inl (a, i) => FlM tp L M a i x M'
  | .inr (k, o) => x = nI 1 ∧ MFr M M' ∧ MdT tp L rd M' k ∧ StM M' (acc ++ o) ∧ M' 178 24 = M 178 24
theorem MoQ.pre {tp : Nat → Nat} {L rd : Nat} {M M1 M' : MMw} {acc u : List (Nat × Nat)} {r : RzT} {x : Int32} (h : MFr M M1) (e : M1 178 24 = M 178 24) (g : MoQ tp L rd M1 (acc ++ u) r x M') : MoQ tp L rd M acc (k_pre u r) x M' := by
  rcases r with ⟨a, i⟩ | ⟨k, o⟩
  · exact FlM.tr h g
  · obtain ⟨g1, g2, g3, g4, g5⟩ := g
    exact ⟨g1, h.tr g2, g3, by rw [← List.append_assoc]; exact g4, g5.trans e⟩
/-- the answer of the class's methods -/
def CoQ (tp : Nat → Nat) (L ct : Nat) (M : MMw) (acc : List (Nat × Nat)) (r : RzT) (x : Int32) (M' : MMw) : Prop := match r with
  | .inl (a, i) => FlC tp L M a i x M'
  | .inr (k, o) => x = nI 1 ∧ CFr M M' ∧ ClT tp L ct M' k ∧ LwC M' (acc ++ o)
theorem CoQ.pre {tp : Nat → Nat} {L ct : Nat} {M M1 M' : MMw} {acc u : List (Nat × Nat)} {r : RzT} {x : Int32} (h : CFr M M1) (g : CoQ tp L ct M1 (acc ++ u) r x M') : CoQ tp L ct M acc (k_pre u r) x M' := by
  rcases r with ⟨a, i⟩ | ⟨k, o⟩
  · exact FlC.tr h g
  · obtain ⟨g1, g2, g3, g4⟩ := g
    exact ⟨g1, h.tr g2, g3, by rw [← List.append_assoc]; exact g4⟩
/-- a loop of the class: what comes behind what it reads -/
def LpQ (tp : Nat → Nat) (L ct : Nat) (M : MMw) (acc : List (Nat × Nat)) (r : RzT) (Q : Int32 → MMw → Prop) (K : Nat → MMw → Prop) : Prop := match r with
  | .inl (a, i) => ∀ x M', FlC tp L M a i x M' → Q x M'
  | .inr (k, o) => ∀ it M', CFr M M' → ClT tp L ct M' k → LwC M' (acc ++ o) → it < k → K it M'
theorem LpQ.pre {tp : Nat → Nat} {L ct : Nat} {M M1 : MMw} {acc u : List (Nat × Nat)} {r : RzT} {Q : Int32 → MMw → Prop} {K : Nat → MMw → Prop} (h : CFr M M1) (g : LpQ tp L ct M acc (k_pre u r) Q K) : LpQ tp L ct M1 (acc ++ u) r Q K := by
  rcases r with ⟨a, i⟩ | ⟨k, o⟩
  · exact fun x M' hh => g x M' (hh.tr h)
  · exact fun it M' h1 h2 h3 h4 => g it M' (h.tr h1) h2 (by rw [← List.append_assoc]; exact h3) h4
def k_wv (w : Nat) : Int32 := if w = 0 then nI 4294967295 else nI w
def k_wl (w : Nat) : Nat := if w = 0 then 0 else 1
def k_wo (w : Nat) : List (Nat × Nat) := if w = 0 then [] else [(w, 0)]
abbrev WwP (w : Nat) : Prop := w = 0 ∨ w = 4 ∨ w = 5
theorem k_wv0 : k_wv 0 = nI 4294967295 := rfl
theorem k_wv_n {w : Nat} (h : WwP w) (h0 : w ≠ 0) : k_wv w = nI w ∧ ¬ nI w = nI 4294967295 ∧ w < 16 := by
  refine ⟨if_neg h0, ?_, by unfold WwP at h; omega⟩
  rw [nI_inj (by unfold WwP at h; omega) (by omega)]
  unfold WwP at h
  omega
/-- the class's loop over + - * / -/
abbrev LsS (X : KXw) (n tot kn : Nat) (kx : Nat → Nat × Nat) (D w x it : Nat) (M : MMw) (Q : Int32 → MMw → Prop) : Prop := Lq X (callw X D) 129 9 [some (.inr (.inl 95)), some (.inl (k_wv w)), some (.inl (nI x)), some (.inl (nI it)), none] (Gk n tot kn kx) M Q
/-- put what waits, and return -/
theorem c_putw (hD : 1 ≤ D) {tp : Nat → Nat} {L ct k w : Nat} {acc : List (Nat × Nat)} {mid : Nat} {x : Int32} (hw : WwP w) (hx : nrw 1 x = x) (hl : acc.length + k_wl w ≤ 400) (hc : ClT tp L ct M k) (ha : LwC M acc) {Q : Int32 → MMw → Prop} (hQ : ∀ M', CFr M M' → ClT tp L ct M' k → LwC M' (acc ++ k_wo w) → Q x M') :
    Wq X (callw X D) mid (Gk n tot kn kx) Q (if k_wv w = nI 4294967295 then (if nrw 1 x = x then some (.inl (x, Gk n tot kn kx, M)) else none) else (bnd (callw X D 126 [.inr (.inl 100), .inl (k_wv w), .inl (nI 0)] (Gk n tot kn kx) M) fun _ _ M2 => (if nrw 1 x = x then some (.inl (x, Gk n tot kn kx, M2)) else none))) := by
  by_cases h0 : w = 0
  · subst h0
    rw [if_pos k_wv0, if_pos hx, Wq_ret]
    exact hQ M CFr.rf hc (by unfold k_wo; rw [if_pos rfl, List.append_nil]; exact ha)
  · obtain ⟨e1, e2, e3⟩ := k_wv_n hw h0
    rw [e1, if_neg e2]
    unfold k_wl at hl
    rw [if_neg h0] at hl
    refine Wq.call (c_put hD (by omega) e3 (by decide) ha) ?_
    rintro y M2 ⟨f2, g2, l2⟩
    rw [if_pos hx, Wq_ret]
    exact hQ M2 f2 (hc.cg g2 f2) (by unfold k_wo; rw [if_neg h0]; exact l2)
theorem c_putwx (hD : 1 ≤ D) {w : Nat} {mid : Nat} {x : Int32} (hx : nrw 1 x = x) (hs : SzC M) {Q : Int32 → MMw → Prop} (hQ : ∀ M', CFr M M' → M' 95 = M 95 → SzC M' → Q x M') :
    Wq X (callw X D) mid (Gk n tot kn kx) Q (if k_wv w = nI 4294967295 then (if nrw 1 x = x then some (.inl (x, Gk n tot kn kx, M)) else none) else (bnd (callw X D 126 [.inr (.inl 100), .inl (k_wv w), .inl (nI 0)] (Gk n tot kn kx) M) fun _ _ M2 => (if nrw 1 x = x then some (.inl (x, Gk n tot kn kx, M2)) else none))) := by
  by_cases h0 : k_wv w = nI 4294967295
  · rw [if_pos h0, if_pos hx, Wq_ret]
    exact hQ M CFr.rf rfl hs
  · rw [if_neg h0]
    refine Wq.call (c_putx hD hs) ?_
    rintro y M2 ⟨f2, g2, l2⟩
    rw [if_pos hx, Wq_ret]
    exact hQ M2 f2 g2 l2
theorem nrw_0 : nrw 1 (nI 0) = nI 0 := by decide +kernel
theorem nrw_1 : nrw 1 (nI 1) = nI 1 := by decide +kernel
/-- a fault inside the loop -/
theorem c_sumfail (hD : 1 ≤ D) {tp : Nat → Nat} {L a i w it : Nat} {M0 : MMw} (hit : it < 400) (h : FlC tp L M0 a i (nI 0) M) {Q : Int32 → MMw → Prop} (hQ : ∀ x M', FlC tp L M0 a i x M' → Q x M') : LsS X n tot kn kx D w 0 it M Q := by
  refine Lq.of (t_129_p95_9_ok X (callw X D) n tot kn kx _ _ _ M) ?_
  unfold t_129_p95_9
  simp only [o_nI]
  rw [if_pos (by rw [lt_i (by omega) (by omega)]; exact hit), if_pos (by rfl)]
  exact c_putwx hD nrw_0 h.2.2.2 (fun M' f e s => hQ _ M' (h.put f e s))
theorem k_t42 : ∀ rd, rd < 4 → ∀ c, c < 126 → (k_mt rd c = 142 ↔ c = 42) ∧ (k_mt rd c = 147 ↔ c = 47) ∧ (k_mt rd c = 143 ↔ c = 43) ∧ (k_mt rd c = 145 ↔ c = 45) := by decide +kernel
/-- what is good of a run of * and / -/
def GdP (tp : Nat → Nat) (L ct k : Nat) (r : RzT) : Prop := match r with
  | .inl _ => True
  | .inr (k', o) => k ≤ k' ∧ k' ≤ ct ∧ o.length + k ≤ k' ∧ k_tk tp L k' ≠ 42 ∧ k_tk tp L k' ≠ 47 ∧ ∀ h, 1 ≤ h → h < 64 → LwS o h h
theorem GdP.pre {tp : Nat → Nat} {L ct k k2 : Nat} {u : List (Nat × Nat)} {r : RzT} (hk : k + u.length ≤ k2) (hu : ∀ h, 1 ≤ h → h < 64 → LwS u h h) (h : GdP tp L ct k2 r) : GdP tp L ct k (k_pre u r) := by
  rcases r with ⟨a, i⟩ | ⟨k', o⟩
  · trivial
  · obtain ⟨h1, h2, h3, h4, h5, h6⟩ := h
    exact ⟨by omega, h2, by rw [List.length_append]; omega, h4, h5, fun h g1 g2 => (hu h g1 g2).app (h6 h g1 g2)⟩
/-- both sides on a run of * and / -/
def JoP (X : KXw) (n tot kn : Nat) (kx : Nat → Nat × Nat) (tp : Nat → Nat) (L ct rd k : Nat) (r : RzT) : Prop :=
  (∀ (D w it : Nat) (acc : List (Nat × Nat)) (M : MMw) (Q : Int32 → MMw → Prop), 2 ≤ D → WwP w → ClT tp L ct M k → LwC M acc → acc.length + k_wl w ≤ k → it < k → LpQ tp L ct M acc r Q (fun it' M' => LsS X n tot kn kx D w 1 it' M' Q) → LsS X n tot kn kx D w 1 it M Q) ∧
  (∀ (D : Nat) (acc : List (Nat × Nat)) (M : MMw), 10 ≤ D → MdT tp L rd M k → StM M acc → acc.length ≤ k → Lq X (callw X D) 160 9 [some (.inr (.inl 178)), none, none] (Gk n tot kn kx) M (MoQ tp L rd M acc r)) ∧ GdP tp L ct k r
theorem J_prodloop {tp : Nat → Nat} {L ct rd : Nat} (hx : TxP tp L ct) (hrd : rd < 2) : ∀ (c k : Nat), ct ≤ k + c → k ≤ ct → ∃ r, JoP X n tot kn kx tp L ct rd k r := by
  have hct := hx.2.2.1
  intro c
  induction c with
  | zero =>
    intro k hc hk
    have ek : k = ct := by omega
    have e0 : k_tk tp L k = 0 := by rw [ek]; exact tx_end hx
    refine ⟨.inr (k, []), fun D w it acc M Q hD hw hC hA hl hit hQ => ?_, fun D acc M hD hM hS hl => ?_, Nat.le_refl _, hk, by simp, by omega, by omega, fun h _ _ => rfl⟩
    · exact hQ it M CFr.rf hC (by rw [List.append_nil]; exact hA) hit
    · refine Lq.of (t_160_9_ok X (callw X D) n tot kn kx M) ?_
      unfold t_160_9
      rw [hM.2.2.2.1, e0, show k_mt rd 0 = 0 from rfl, if_neg (by decide +kernel), if_neg (by decide +kernel), Wq_ret]
      exact ⟨rfl, MFr.rf, hM, by rw [List.append_nil]; exact hS, rfl⟩
  | succ c ih =>
    intro k hc hk
    have hb := tx_tk (k := k) hx
    have hm := k_mt_lt rd (by omega) _ hb
    obtain ⟨m42, m47, _, _⟩ := k_t42 rd (by omega) _ hb
    by_cases t42 : k_tk tp L k = 42
    · have hkc := tx_lt hx hk (by omega)
      have hmt := m42.mpr t42
      -- the class comes to the unit
      have cls : ∀ (D w it : Nat) (acc : List (Nat × Nat)) (M : MMw) (Q : Int32 → MMw → Prop), 2 ≤ D → ClT tp L ct M k → LwC M acc → it < k → (∀ M2, CFr M M2 → ClT tp L ct M2 (k + 1) → LwC M2 acc → Wq X (callw X D) 129 (Gk n tot kn kx) Q (bnd (callw X D 127 [.inr (.inl 95)] (Gk n tot kn kx) M2) fun r7 _ M8 => (bnd (callw X D 126 [.inr (.inl 100), .inl (nI 6), .inl (nI 0)] (Gk n tot kn kx) M8) fun _ _ M10 => some (.inr (9, [some (.inr (.inl 95)), some (.inl (k_wv w)), some (.inl r7), some (.inl (nI (it + 1))), none], [], (Gk n tot kn kx), M10))))) → LsS X n tot kn kx D w 1 it M Q := fun D w it acc M Q hD hC hA hit hK => by
        refine Lq.of (t_129_p95_9_ok X (callw X D) n tot kn kx _ _ _ M) ?_
        unfold t_129_p95_9
        simp only [o_nI]
        rw [hC.2.1, t42, if_pos (by rw [lt_i (by omega) (by omega)]; omega), if_neg (by decide +kernel), if_neg (by decide +kernel), if_neg (by decide +kernel), if_pos rfl, Wq_jmp]
        refine Lq.of (t_129_p95_56_ok X (callw X D) n tot kn kx _ _ M) ?_
        unfold t_129_p95_56
        simp only [o_nI]
        refine Wq.call (c_adv (by omega) hx hkc hC) ?_
        rintro y M2 ⟨f2, c2⟩
        rw [hC.2.1, t42, if_neg (by decide +kernel), if_pos rfl, i1_nI, nI_add]
        exact hK M2 (CFr.of f2 (by decide)) c2 (hA.f9 f2)
      have mdl : ∀ (D : Nat) (acc : List (Nat × Nat)) (M : MMw) (Q : Int32 → MMw → Prop), 10 ≤ D → MdT tp L rd M k → StM M acc → (∀ M2, MFr M M2 → M2 178 24 = M 178 24 → MdT tp L rd M2 (k + 1) → StM M2 acc → Wq X (callw X D) 160 (Gk n tot kn kx) Q (bnd (callw X D 159 [.inr (.inl 178)] (Gk n tot kn kx) M2) fun r3 _ M4 => (if r3 = (0 : Int32) then some (.inl (nI 0, Gk n tot kn kx, M4)) else (bnd (callw X D 158 [.inr (.inl 178), .inl (nI 25), .inl (nI 0)] (Gk n tot kn kx) M4) fun _ _ M6 => some (.inr (9, [some (.inr (.inl 178)), none, none], [], (Gk n tot kn kx), M6)))))) → Lq X (callw X D) 160 9 [some (.inr (.inl 178)), none, none] (Gk n tot kn kx) M Q := fun D acc M Q hD hM hS hK => by
        refine Lq.of (t_160_9_ok X (callw X D) n tot kn kx M) ?_
        unfold t_160_9
        rw [hM.2.2.2.1, hmt, if_pos (by rfl), if_neg (by decide +kernel), Wq_jmp]
        refine Lq.of (t_160_45_ok X (callw X D) n tot kn kx _ M) ?_
        unfold t_160_45
        simp only [o_nI]
        refine Wq.call (m_nextK (by omega) hx.1 hx.2.1 (by omega) hM) ?_
        rintro y M2 ⟨f2, c2⟩
        rw [if_pos (by rfl)]
        exact hK M2 (MFr.of f2 (by decide)) (f2.2 24 (by decide)) c2 (hS.f8 f2 (by decide))
      cases hu : k_un tp L (k + 1) with
      | none =>
        refine ⟨.inl (1, k + 1), fun D w it acc M Q hD hw hC hA hl hit hQ => ?_, fun D acc M hD hM hS hl => ?_, trivial⟩
        · refine cls D w it acc M Q hD hC hA hit (fun M2 f2 c2 l2 => ?_)
          refine Wq.call (c_unit hD hx (by omega) c2 l2 (by omega)) ?_
          rintro y M3 ⟨h3, _⟩
          have h3 := h3 hu
          obtain rfl := h3.1
          refine Wq.call (c_putx (by omega) h3.2.2.2) ?_
          rintro y M4 ⟨f4, e4, s4⟩
          rw [Wq_jmp]
          exact c_sumfail (by omega) (by omega) ((h3.put f4 e4 s4).tr f2) hQ
        · refine mdl D acc M _ hD hM hS (fun M2 f2 e2 c2 l2 => ?_)
          refine Wq.call (m_unit hD hx hrd (by omega) c2 l2 (by omega)) ?_
          rintro y M3 ⟨h3, _⟩
          have h3 := h3 hu
          obtain rfl := h3.1
          rw [if_pos (by rfl), Wq_ret]
          exact h3.tr f2
      | some op =>
        have hk2 := k_un_lt hx (by omega) hu
        obtain ⟨r, r1, r2, r3⟩ := ih (k + 2) (by omega) (by omega)
        refine ⟨k_pre [op, (6, 0)] r, fun D w it acc M Q hD hw hC hA hl hit hQ => ?_, fun D acc M hD hM hS hl => ?_, r3.pre (k := k) (Nat.le_refl _) (fun h g1 g2 => (LwS.un hx.2.1 hu g2).app (LwS.bin (by decide) (by decide) g1))⟩
        · refine cls D w it acc M Q hD hC hA hit (fun M2 f2 c2 l2 => ?_)
          refine Wq.call (c_unit hD hx (by omega) c2 l2 (by omega)) ?_
          rintro y M3 ⟨_, h3⟩
          obtain ⟨rfl, f3, c3, l3⟩ := h3 op hu
          refine Wq.call (c_put (by omega) (by rw [List.length_append]; show acc.length + 1 < 400; omega) (by decide) (by decide) l3) ?_
          rintro y M4 ⟨f4, e4, l4⟩
          rw [Wq_jmp]
          rw [List.append_assoc] at l4
          have fa := (f2.tr f3).tr f4
          exact r1 D w (it + 1) (acc ++ [op, (6, 0)]) M4 Q hD hw (c3.cg e4 f4) l4 (by rw [List.length_append]; show acc.length + 2 + k_wl w ≤ k + 2; omega) (by omega) (hQ.pre fa)
        · refine mdl D acc M _ hD hM hS (fun M2 f2 e2 c2 l2 => ?_)
          refine Wq.call (m_unit hD hx hrd (by omega) c2 l2 (by omega)) ?_
          rintro y M3 ⟨_, h3⟩
          obtain ⟨rfl, f3, c3, l3, e3⟩ := h3 op hu
          rw [if_neg (by decide +kernel)]
          refine Wq.call (m_lay (op := (6, 0)) (by omega) (by rw [List.length_append]; show acc.length + 1 ≤ 400; omega) ⟨rfl, fun hh => (by rcases hh with hh | hh <;> cases hh)⟩ l3) ?_
          rintro y M4 l4
          rw [Wq_jmp]
          have l5 := l4.2.2
          rw [List.append_assoc] at l5
          refine Lq.mono (r2 D (acc ++ [op, (6, 0)]) M4 hD (c3.ly l4) l5 (by rw [List.length_append]; show acc.length + 2 ≤ k + 2; omega)) (fun x M' hq => ?_)
          exact MoQ.pre ((f2.tr f3).tr l4.1) (by rw [l4.2.1 24 (by decide), e3, e2]) hq
    · by_cases t47 : k_tk tp L k = 47
      · have hkc := tx_lt hx hk (by omega)
        have hmt := m47.mpr t47
        have hb1 := tx_tk (k := k + 1) hx
        have hm1 := k_mt_lt rd (by omega) _ hb1
        have cls : ∀ (D w it : Nat) (acc : List (Nat × Nat)) (M : MMw) (Q : Int32 → MMw → Prop), 2 ≤ D → ClT tp L ct M k → LwC M acc → it < k → (∀ M2, CFr M M2 → ClT tp L ct M2 (k + 1) → LwC M2 acc → Wq X (callw X D) 129 (Gk n tot kn kx) Q (bnd (callw X D 128 [.inr (.inl 95), .inl (nI 1), .inl (nI 9999)] (Gk n tot kn kx) M2) fun r3 _ M4 => (bnd (callw X D 126 [.inr (.inl 100), .inl (nI 2), .inl (M4 95 9)] (Gk n tot kn kx) M4) fun _ _ M6 => some (.inr (9, [some (.inr (.inl 95)), some (.inl (k_wv w)), some (.inl r3), some (.inl (nI (it + 1))), none], [], (Gk n tot kn kx), M6))))) → LsS X n tot kn kx D w 1 it M Q := fun D w it acc M Q hD hC hA hit hK => by
          refine Lq.of (t_129_p95_9_ok X (callw X D) n tot kn kx _ _ _ M) ?_
          unfold t_129_p95_9
          simp only [o_nI]
          rw [hC.2.1, t47, if_pos (by rw [lt_i (by omega) (by omega)]; omega), if_neg (by decide +kernel), if_neg (by decide +kernel), if_neg (by decide +kernel), if_neg (by decide +kernel), if_pos rfl, Wq_jmp]
          refine Lq.of (t_129_p95_56_ok X (callw X D) n tot kn kx _ _ M) ?_
          unfold t_129_p95_56
          simp only [o_nI]
          refine Wq.call (c_adv (by omega) hx hkc hC) ?_
          rintro y M2 ⟨f2, c2⟩
          rw [hC.2.1, t47, if_pos rfl, i1_nI, nI_add]
          exact hK M2 (CFr.of f2 (by decide)) c2 (hA.f9 f2)
        have mdl : ∀ (D : Nat) (acc : List (Nat × Nat)) (M : MMw) (Q : Int32 → MMw → Prop), 10 ≤ D → MdT tp L rd M k → StM M acc → (∀ M2, MFr M M2 → M2 178 24 = M 178 24 → MdT tp L rd M2 (k + 1) → StM M2 acc → Wq X (callw X D) 160 (Gk n tot kn kx) Q (if (M2 178 18) = (nI 2) then (if (M2 178 20) = (0 : Int32) then (bnd (callw X D 157 [.inr (.inl 178), .inl (nI 2)] (Gk n tot kn kx) M2) fun r7 _ M8 => (if nrw 1 r7 = r7 then some (.inl (r7, Gk n tot kn kx, M8)) else none)) else (bnd (callw X D 156 [.inr (.inl 178)] (Gk n tot kn kx) M2) fun _ _ M10 => (bnd (callw X D 158 [.inr (.inl 178), .inl (nI 26), .inl (M2 178 20)] (Gk n tot kn kx) M10) fun _ _ M12 => some (.inr (9, [some (.inr (.inl 178)), none, none], [], (Gk n tot kn kx), M12))))) else (bnd (callw X D 157 [.inr (.inl 178), .inl (nI 1)] (Gk n tot kn kx) M2) fun r13 _ M14 => (if nrw 1 r13 = r13 then some (.inl (r13, Gk n tot kn kx, M14)) else none)))) → Lq X (callw X D) 160 9 [some (.inr (.inl 178)), none, none] (Gk n tot kn kx) M Q := fun D acc M Q hD hM hS hK => by
          refine Lq.of (t_160_9_ok X (callw X D) n tot kn kx M) ?_
          unfold t_160_9
          rw [hM.2.2.2.1, hmt, if_neg (by decide +kernel), if_pos (by rfl), if_pos (by rfl), Wq_jmp]
          refine Lq.of (t_160_45_ok X (callw X D) n tot kn kx _ M) ?_
          unfold t_160_45
          simp only [o_nI]
          refine Wq.call (m_nextK (by omega) hx.1 hx.2.1 (by omega) hM) ?_
          rintro y M2 ⟨f2, c2⟩
          rw [if_neg (by decide +kernel)]
          exact hK M2 (MFr.of f2 (by decide)) (f2.2 24 (by decide)) c2 (hS.f8 f2 (by decide))
        have n2 := k_mt_2 rd (by omega) _ hb1
        by_cases h2 : k_tk tp L (k + 1) = 2
        · have hk2 := tx_lt hx (show k + 1 ≤ ct by omega) (by omega)
          have hv := (k_vl_ok hx.2.1 h2).2.2.2.2.2
          by_cases hv0 : k_vl tp L (k + 1) = 0
          · have hnb : k_nb tp L (k + 1) (nI 1) (nI 9999) = 2 := by unfold k_nb; rw [if_pos h2, if_pos (by rw [lt_i (by omega) (by omega)]; omega)]
            refine ⟨.inl (2, k + 1), fun D w it acc M Q hD hw hC hA hl hit hQ => ?_, fun D acc M hD hM hS hl => ?_, trivial⟩
            · refine cls D w it acc M Q hD hC hA hit (fun M2 f2 c2 l2 => ?_)
              refine Wq.call (c_numb hD hx (by omega) c2) ?_
              rintro y M3 ⟨_, h3⟩
              obtain ⟨rfl, f3, t3⟩ := h3 (by rw [hnb]; decide)
              rw [hnb] at t3
              have g3 : FlC tp L M 2 (k + 1) (nI 0) M3 := ⟨rfl, f2.tr (CFr.of f3 (by decide)), t3, (l2.f9 f3).sz (by omega)⟩
              refine Wq.call (c_putx (by omega) g3.2.2.2) ?_
              rintro y M4 ⟨f4, e4, s4⟩
              rw [Wq_jmp]
              exact c_sumfail (by omega) (by omega) (g3.put f4 e4 s4) hQ
            · refine mdl D acc M _ hD hM hS (fun M2 f2 e2 c2 l2 => ?_)
              rw [if_pos (by rw [c2.2.2.2.1, n2.mpr h2]), if_pos (by rw [c2.2.2.2.2.2 h2, hv0]; rfl)]
              refine Wq.call (m_bad (by omega) c2) ?_
              rintro y M3 ⟨rfl, g1, g2⟩
              rw [if_pos nrw_0, Wq_ret]
              exact ⟨rfl, f2.tr (MFr.of g1 (by decide)), g2⟩
          · have hnb : k_nb tp L (k + 1) (nI 1) (nI 9999) = 0 := by unfold k_nb; rw [if_pos h2, if_neg (by rw [lt_i (by omega) (by omega)]; omega), if_neg (by rw [lt_i (by omega) (by omega)]; omega)]
            obtain ⟨r, r1, r2, r3⟩ := ih (k + 2) (by omega) (by omega)
            refine ⟨k_pre [(2, k_vl tp L (k + 1))] r, fun D w it acc M Q hD hw hC hA hl hit hQ => ?_, fun D acc M hD hM hS hl => ?_, r3.pre (k := k) (by show k + 1 ≤ k + 2; omega) (fun h g1 g2 => ⟨h, Or.inr (Or.inr (Or.inl ⟨rfl, by dsimp only; omega, by dsimp only; omega, g1, rfl⟩)), rfl⟩)⟩
            · refine cls D w it acc M Q hD hC hA hit (fun M2 f2 c2 l2 => ?_)
              refine Wq.call (c_numb hD hx (by omega) c2) ?_
              rintro y M3 ⟨h3, _⟩
              obtain ⟨rfl, f3, c3, v3⟩ := h3 hnb
              rw [v3]
              refine Wq.call (c_put (by omega) (show acc.length < 400 by omega) (by decide) (by omega) (l2.f9 f3)) ?_
              rintro y M4 ⟨f4, e4, l4⟩
              rw [Wq_jmp]
              have fa := (f2.tr (CFr.of f3 (by decide))).tr f4
              exact r1 D w (it + 1) _ M4 Q hD hw (c3.cg e4 f4) l4 (by rw [List.length_append]; show acc.length + 1 + k_wl w ≤ k + 2; omega) (by omega) (hQ.pre fa)
            · refine mdl D acc M _ hD hM hS (fun M2 f2 e2 c2 l2 => ?_)
              rw [if_pos (by rw [c2.2.2.2.1, n2.mpr h2]), if_neg (by rw [c2.2.2.2.2.2 h2, z_nI, eq_i (by omega) (by omega)]; exact hv0), c2.2.2.2.2.2 h2]
              refine Wq.call (m_nextK (by omega) hx.1 hx.2.1 (by omega) c2) ?_
              rintro y M3 ⟨f3, c3⟩
              refine Wq.call (m_lay (op := (2, k_vl tp L (k + 1))) (by omega) (show acc.length ≤ 400 by omega) ⟨rfl, fun _ => rfl⟩ (l2.f8 f3 (by decide))) ?_
              rintro y M4 l4
              rw [Wq_jmp]
              refine Lq.mono (r2 D _ M4 hD (c3.ly l4) l4.2.2 (by rw [List.length_append]; show acc.length + 1 ≤ k + 2; omega)) (fun x M' hq => ?_)
              exact MoQ.pre ((f2.tr (MFr.of f3 (by decide))).tr l4.1) (by rw [l4.2.1 24 (by decide), f3.2 24 (by decide), e2]) hq
        · have hnb : k_nb tp L (k + 1) (nI 1) (nI 9999) = 1 := by unfold k_nb; rw [if_neg h2]
          refine ⟨.inl (1, k + 1), fun D w it acc M Q hD hw hC hA hl hit hQ => ?_, fun D acc M hD hM hS hl => ?_, trivial⟩
          · refine cls D w it acc M Q hD hC hA hit (fun M2 f2 c2 l2 => ?_)
            refine Wq.call (c_numb hD hx (by omega) c2) ?_
            rintro y M3 ⟨_, h3⟩
            obtain ⟨rfl, f3, t3⟩ := h3 (by rw [hnb]; decide)
            rw [hnb] at t3
            have g3 : FlC tp L M 1 (k + 1) (nI 0) M3 := ⟨rfl, f2.tr (CFr.of f3 (by decide)), t3, (l2.f9 f3).sz (by omega)⟩
            refine Wq.call (c_putx (by omega) g3.2.2.2) ?_
            rintro y M4 ⟨f4, e4, s4⟩
            rw [Wq_jmp]
            exact c_sumfail (by omega) (by omega) (g3.put f4 e4 s4) hQ
          · refine mdl D acc M _ hD hM hS (fun M2 f2 e2 c2 l2 => ?_)
            rw [if_neg (by rw [c2.2.2.2.1, eq_i (by omega) (by omega)]; exact fun e => h2 (n2.mp e))]
            refine Wq.call (m_bad (by omega) c2) ?_
            rintro y M3 ⟨rfl, g1, g2⟩
            rw [if_pos nrw_0, Wq_ret]
            exact ⟨rfl, f2.tr (MFr.of g1 (by decide)), g2⟩
      · refine ⟨.inr (k, []), fun D w it acc M Q hD hw hC hA hl hit hQ => ?_, fun D acc M hD hM hS hl => ?_, Nat.le_refl _, hk, by simp, t42, t47, fun h _ _ => rfl⟩
        · exact hQ it M CFr.rf hC (by rw [List.append_nil]; exact hA) hit
        · refine Lq.of (t_160_9_ok X (callw X D) n tot kn kx M) ?_
          unfold t_160_9
          rw [hM.2.2.2.1, if_neg (by rw [o_nI, eq_i (by omega) (by omega)]; exact fun e => t42 (m42.mp e)), if_neg (by rw [o_nI, eq_i (by omega) (by omega)]; exact fun e => t47 (m47.mp e)), Wq_ret]
          exact ⟨rfl, MFr.rf, hM, by rw [List.append_nil]; exact hS, rfl⟩
end
