section
-- needs: law
/-! all lines of a law -/
variable {X : KXw} {n tot kn D : Nat} {kx : Nat → Nat × Nat} {M : MMw}
/-- steps by their numbers -/
def LwI (acc : List (Nat × Nat)) : Nat → Nat → Nat → Nat → Prop
  | 0, _, h, g => h = g
  | n + 1, i, h, g => ∃ op f, acc[i]? = some op ∧ ((op.1 = 0 ∧ op.2 ≤ 9999 ∧ h < 64 ∧ f = h + 1) ∨ (op.1 = 1 ∧ op.2 < 10 ∧ h < 64 ∧ f = h + 1) ∨ (op.1 = 2 ∧ 1 ≤ op.2 ∧ op.2 ≤ 9999 ∧ 1 ≤ h ∧ f = h) ∨ (op.1 = 3 ∧ op.2 = 0 ∧ 1 ≤ h ∧ f = h) ∨ (4 ≤ op.1 ∧ op.1 ≤ 11 ∧ op.2 = 0 ∧ h = f + 1 ∧ 1 ≤ f)) ∧ LwI acc n (i + 1) f g
theorem LwS.ix {acc : List (Nat × Nat)} : ∀ {o : List (Nat × Nat)} {i h g : Nat}, LwS o h g → (∀ (j : Nat) (op : Nat × Nat), o[j]? = some op → acc[i + j]? = some op) → LwI acc o.length i h g
  | [], _, _, _, h1, _ => h1
  | op :: r, i, h, g, h1, h2 => by
    obtain ⟨f, h3, h4⟩ := h1
    refine ⟨op, f, h2 0 op rfl, h3, LwS.ix h4 (fun j q hq => ?_)⟩
    have := h2 (j + 1) q hq
    rw [show i + 1 + j = i + (j + 1) by omega]
    exact this
theorem LwI.mono {acc acc' : List (Nat × Nat)} (he : ∀ (j : Nat) (op : Nat × Nat), acc[j]? = some op → acc'[j]? = some op) : ∀ {n i h g : Nat}, LwI acc n i h g → LwI acc' n i h g
  | 0, _, _, _, h1 => h1
  | n + 1, i, h, g, h1 => by
    obtain ⟨op, f, h2, h3, h4⟩ := h1
    exact ⟨op, f, he i op h2, h3, LwI.mono he h4⟩
theorem k_app_l {α : Type} {a b : List α} {j : Nat} {p : α} (h : a[j]? = some p) : (a ++ b)[j]? = some p := by
  have hl : j < a.length := by
    rcases Nat.lt_or_ge j a.length with hl | hl
    · exact hl
    · rw [List.getElem?_eq_none hl] at h; cases h
  rw [List.getElem?_append, if_pos hl]
  exact h
theorem k_app_r {α : Type} {a b : List α} {j : Nat} {p : α} (h : b[j]? = some p) : (a ++ b)[a.length + j]? = some p := by
  rw [List.getElem?_append, if_neg (by omega), show a.length + j - a.length = j by omega]
  exact h
/-- a line is good -/
def GoL (rd : Nat) (acc : List (Nat × Nat)) (q : LnT) : Prop := q.1 ≤ q.2.1 ∧ q.2.1 ≤ q.2.2.1 ∧ q.2.2.1 ≤ acc.length ∧ OkW rd q.2.2.2 ∧ (rd = 1 → LwI acc (q.2.1 - q.1) q.1 0 1) ∧ (q.2.1 < q.2.2.1 → LwI acc (q.2.2.1 - q.2.1) q.2.1 0 1)
def GoLs (rd : Nat) (acc : List (Nat × Nat)) (ls : List LnT) : Prop := ∀ (j : Nat) (q : LnT), ls[j]? = some q → GoL rd acc q
theorem GoL.app {rd : Nat} {acc b : List (Nat × Nat)} {q : LnT} (h : GoL rd acc q) : GoL rd (acc ++ b) q := by
  obtain ⟨h1, h2, h3, h4, h5, h6⟩ := h
  exact ⟨h1, h2, by rw [List.length_append]; omega, h4, fun h => (h5 h).mono (fun j op hj => k_app_l hj), fun h => (h6 h).mono (fun j op hj => k_app_l hj)⟩
theorem GoL.new {rd w : Nat} {acc o1 o2 : List (Nat × Nat)} (hw : OkW rd w) (h1 : rd = 1 → LwS o1 0 1) (h2 : o2 = [] ∨ LwS o2 0 1) : GoL rd (acc ++ o1 ++ o2) (k_ln4 acc.length o1 o2 w) := by
  refine ⟨by show acc.length ≤ acc.length + o1.length; omega, by show acc.length + o1.length ≤ acc.length + o1.length + o2.length; omega, by rw [List.length_append, List.length_append]; exact Nat.le_refl _, hw, fun h => ?_, fun h => ?_⟩
  · show LwI _ (acc.length + o1.length - acc.length) acc.length 0 1
    rw [show acc.length + o1.length - acc.length = o1.length by omega]
    exact (h1 h).ix (fun j op hj => k_app_l (k_app_r hj))
  · show LwI _ (acc.length + o1.length + o2.length - (acc.length + o1.length)) (acc.length + o1.length) 0 1
    rw [show acc.length + o1.length + o2.length - (acc.length + o1.length) = o2.length by omega]
    rcases h2 with h2 | h2
    · rw [h2] at h
      have h : acc.length + o1.length < acc.length + o1.length + 0 := h
      omega
    · have e : acc.length + o1.length = (acc ++ o1).length := by rw [List.length_append]
      rw [e]
      exact h2.ix (fun j op hj => k_app_r hj)
theorem GoLs.add {rd : Nat} {acc b : List (Nat × Nat)} {ls : List LnT} {q : LnT} (h : GoLs rd acc ls) (g : GoL rd (acc ++ b) q) : GoLs rd (acc ++ b) (ls ++ [q]) := fun j p hp => by
  rcases k_app_at hp with ⟨_, hq⟩ | ⟨_, rfl⟩
  · exact (h j p hq).app
  · exact g
abbrev RzW : Type := (Nat × Nat) ⊕ (List LnT × List (Nat × Nat))
/-- all is told on the class's side: the law is copied -/
def CwK (tp : Nat → Nat) (L : Nat) (M : MMw) (acc : List (Nat × Nat)) (ls : List LnT) (r : RzW) (F : MMw → Prop) (K : MMw → Prop) : Prop := match r with
  | .inl (a, i) => ∀ M', CF3 M M' → FtC tp L a i M' → F M'
  | .inr (lx, ox) => ∀ M', CF3 M M' → LwC M' (acc ++ ox) → LnC M' (ls ++ lx) → (M' 95 2 = nI 0 ∧ M' 95 3 = -1) → K M'
def MwQ (tp : Nat → Nat) (L : Nat) (M : MMw) (acc : List (Nat × Nat)) (ls : List LnT) (r : RzW) (x : Int32) (M' : MMw) : Prop := match r with
  | .inl (a, i) => x = nI 0 ∧ MF3 M M' ∧ FtM tp L a i M'
  | .inr (lx, ox) => x = nI 1 ∧ MF3 M M' ∧ StM M' (acc ++ ox) ∧ LnM M' (ls ++ lx) ∧ M' 178 13 = nI (ls ++ lx).length
def GdW (ct rd l a : Nat) (r : RzW) : Prop := match r with
  | .inl _ => True
  | .inr (lx, ox) => l + lx.length ≤ 16 ∧ a + ox.length ≤ ct ∧ ∀ (acc : List (Nat × Nat)) (ls : List LnT), acc.length = a → ls.length = l → GoLs rd acc ls → GoLs rd (acc ++ ox) (ls ++ lx)
theorem mf3_u13 {M1 : MMw} {v : Int32} (h : MF3 M M1) : MF3 M (up M1 178 13 v) := ⟨h.1.up (by decide), fun f hf => by rw [up_at, upW_n (fun e => hf (by rw [e]; decide))]; exact h.2 f hf⟩
theorem MdT.up13 {tp : Nat → Nat} {L rd k : Nat} {v : Int32} (h : MdT tp L rd M k) : MdT tp L rd (up M 178 13 v) k := by
  obtain ⟨a1, a2, a3, a4, a5, a6⟩ := h
  refine ⟨a1.f8 (F8.rf.up (fs := [13]) (by decide)) (by decide), ?_, ?_, ?_, ?_, fun hh => ?_⟩
  all_goals rw [up_at, upW_n (by decide)]
  · exact a2
  · exact a3
  · exact a4
  · exact a5
  · exact a6 hh
theorem J_law31 {tp : Nat → Nat} {L ct rd : Nat} (hx : TxP tp L ct) (hrd : rd < 2) : ∀ (c k l a : Nat), ct ≤ k + c → k ≤ ct → l ≤ 16 → a ≤ k → ∃ r : RzW,
    (∀ (D : Nat) (acc : List (Nat × Nat)) (ls : List LnT) (M : MMw) (Q : Int32 → MMw → Prop), 22 ≤ D → ClT tp L ct M k → LwC M acc → LnC M ls → ls.length = l → acc.length = a → CwK tp L M acc ls r (fun M' => Q (nI 4294967295) M') (fun M' => Wq X (callw X D) 135 (Gk n tot kn kx) Q (bnd (callw X D 134 [.inr (.inl 31), .inr (.inl 100)] (Gk n tot kn kx) M') fun _ _ M4 => some (.inl ((M4 100 0), Gk n tot kn kx, M4)))) → Lq X (callw X D) 135 18 [some (.inr (.inl 95)), some (.inr (.inl 31)), some (.inl (nI rd)), some (.inl (nI l))] (Gk n tot kn kx) M Q) ∧
    (∀ (D : Nat) (acc : List (Nat × Nat)) (ls : List LnT) (M : MMw), 40 ≤ D → MdT tp L rd M k → StM M acc → LnM M ls → M 178 13 = nI l → ls.length = l → acc.length = a → Lq X (callw X D) 168 12 [some (.inr (.inl 178)), some (.inl (nI 1))] (Gk n tot kn kx) M (MwQ tp L M acc ls r)) ∧ GdW ct rd l a r := by
  have hct := hx.2.2.1
  have stop : ∀ (k l a : Nat), k ≤ ct → l ≤ 16 → a ≤ k → k_tk tp L k = 0 →
    (∀ (D : Nat) (acc : List (Nat × Nat)) (ls : List LnT) (M : MMw) (Q : Int32 → MMw → Prop), 22 ≤ D → ClT tp L ct M k → LwC M acc → LnC M ls → ls.length = l → acc.length = a → CwK tp L M acc ls (.inr ([], [])) (fun M' => Q (nI 4294967295) M') (fun M' => Wq X (callw X D) 135 (Gk n tot kn kx) Q (bnd (callw X D 134 [.inr (.inl 31), .inr (.inl 100)] (Gk n tot kn kx) M') fun _ _ M4 => some (.inl ((M4 100 0), Gk n tot kn kx, M4)))) → Lq X (callw X D) 135 18 [some (.inr (.inl 95)), some (.inr (.inl 31)), some (.inl (nI rd)), some (.inl (nI l))] (Gk n tot kn kx) M Q) ∧
    (∀ (D : Nat) (acc : List (Nat × Nat)) (ls : List LnT) (M : MMw), 40 ≤ D → MdT tp L rd M k → StM M acc → LnM M ls → M 178 13 = nI l → ls.length = l → acc.length = a → Lq X (callw X D) 168 12 [some (.inr (.inl 178)), some (.inl (nI 1))] (Gk n tot kn kx) M (MwQ tp L M acc ls (.inr ([], [])))) ∧ GdW ct rd l a (.inr ([], [])) := fun k l a hk hl ha t0 => by
    refine ⟨fun D acc ls M Q hD hC hA hL hll hla hQ => ?_, fun D acc ls M hD hM hS hL h13 hll hla => ?_, hl, by show a + 0 ≤ ct; omega, fun acc ls _ _ h => by rw [List.append_nil, List.append_nil]; exact h⟩
    · refine Lq.of (t_135_p95_p31_18_ok X (callw X D) n tot kn kx _ _ M) ?_
      unfold t_135_p95_p31_18
      simp only [o_nI]
      rw [hC.2.1, t0, if_neg (by rw [lt_i (by omega) (by omega)]; omega), if_pos (by rfl)]
      exact hQ M CF3.rf (by rw [List.append_nil]; exact hA) (by rw [List.append_nil]; exact hL) hC.1.2
    · refine Lq.of (t_168_12_ok X (callw X D) n tot kn kx _ M) ?_
      unfold t_168_12
      rw [if_neg (by decide +kernel), hM.2.2.2.1, t0, if_pos (by rfl), if_pos nrw_1, Wq_ret]
      exact ⟨rfl, MF3.rf, by rw [List.append_nil]; exact hS, by rw [List.append_nil]; exact hL, by rw [List.append_nil, h13, hll]⟩
  intro c
  induction c with
  | zero =>
    intro k l a hc hk hl ha
    have e0 : k_tk tp L k = 0 := by rw [show k = ct by omega]; exact tx_end hx
    exact ⟨_, stop k l a hk hl ha e0⟩
  | succ c ih =>
    intro k l a hc hk hl ha
    by_cases t0 : k_tk tp L k = 0
    · exact ⟨_, stop k l a hk hl ha t0⟩
    · have hb := tx_tk (k := k) hx
      have hmt := k_mt_lt rd (by omega) _ hb
      have m0 : k_mt rd (k_tk tp L k) ≠ 0 := by
        have h0 : ∀ rd, rd < 4 → ∀ c, c < 126 → (k_mt rd c = 0 → c = 0) := by decide +kernel
        exact fun e => t0 (h0 rd (by omega) _ hb e)
      obtain ⟨r1, a1, a2, a3⟩ := J_line (X := X) (n := n) (tot := tot) (kn := kn) (kx := kx) hx hrd hk hl
      have cls : ∀ (D : Nat) (M : MMw) (Q : Int32 → MMw → Prop), ClT tp L ct M k → Wq X (callw X D) 135 (Gk n tot kn kx) Q (bnd (callw X D 133 [.inr (.inl 95), .inl (nI rd)] (Gk n tot kn kx) M) fun r5 _ M6 => (if r5 = (0 : Int32) then some (.inl (nI 4294967295, Gk n tot kn kx, M6)) else some (.inr (18, [some (.inr (.inl 95)), some (.inr (.inl 31)), some (.inl (nI rd)), some (.inl (nI (l + 1)))], [], (Gk n tot kn kx), M6)))) → Lq X (callw X D) 135 18 [some (.inr (.inl 95)), some (.inr (.inl 31)), some (.inl (nI rd)), some (.inl (nI l))] (Gk n tot kn kx) M Q := fun D M Q hC hK => by
        refine Lq.of (t_135_p95_p31_18_ok X (callw X D) n tot kn kx _ _ M) ?_
        unfold t_135_p95_p31_18
        simp only [o_nI]
        rw [hC.2.1, if_neg (by rw [lt_i (by omega) (by omega)]; omega), if_neg (by rw [z_nI, eq_i (by omega) (by omega)]; exact t0), i1_nI, nI_add]
        exact hK
      rcases r1 with ⟨e, i⟩ | ⟨k', o1, o2⟩
      · refine ⟨.inl (e, i), fun D acc ls M Q hD hC hA hL hll hla hQ => ?_, fun D acc ls M hD hM hS hL h13 hll hla => ?_, trivial⟩
        · refine cls D M Q hC ?_
          refine Wq.call (a1 D acc ls M hD hC hA hL hll (by omega)) ?_
          rintro y M3 h3
          obtain ⟨rfl, f3, t3⟩ : y = nI 0 ∧ CF3 M M3 ∧ FtC tp L e i M3 := h3
          rw [if_pos (by rfl), Wq_ret]
          exact hQ M3 f3 t3
        · refine Lq.of (t_168_12_ok X (callw X D) n tot kn kx _ M) ?_
          unfold t_168_12
          rw [if_neg (by decide +kernel), hM.2.2.2.1, if_neg (by rw [z_nI, eq_i (by omega) (by omega)]; exact m0)]
          refine Wq.call (a2 D acc ls M hD hM hS hL h13 hll (by omega)) ?_
          rintro y M3 h3
          obtain ⟨rfl, f3, t3⟩ : y = nI 0 ∧ MF3 M M3 ∧ FtM tp L e i M3 := h3
          rw [if_pos (by rfl), Wq_jmp]
          refine Lq.of (t_168_12_ok X (callw X D) n tot kn kx _ _) ?_
          unfold t_168_12
          rw [if_pos (by rfl), if_pos nrw_0, Wq_ret]
          refine ⟨rfl, mf3_u13 f3, ?_, ?_⟩
          · rw [up_at, upW_n (by decide)]; exact t3.1
          · rw [up_at, upW_n (by decide)]; exact t3.2
      · obtain ⟨b1, b2, b3, b4, b5, b6, b7, hl16⟩ := a3
        · obtain ⟨r2, c1, c2, c3⟩ := ih k' (l + 1) (a + o1.length + o2.length) (by omega) b2 (by omega) (by omega)
          -- what the line adds stands before what follows
          refine ⟨match r2 with | .inl e => .inl e | .inr (lx, ox) => .inr (k_ln4 a o1 o2 (k_tk tp L k) :: lx, o1 ++ o2 ++ ox), fun D acc ls M Q hD hC hA hL hll hla hQ => ?_, fun D acc ls M hD hM hS hL h13 hll hla => ?_, ?_⟩
          · refine cls D M Q hC ?_
            refine Wq.call (a1 D acc ls M hD hC hA hL hll (by omega)) ?_
            rintro y M3 h3
            obtain ⟨rfl, f3, c3', l3, n3⟩ := h3
            rw [if_neg (by decide +kernel), Wq_jmp]
            refine c1 D (acc ++ o1 ++ o2) _ M3 Q hD c3' l3 n3 (by rw [List.length_append, hll]; rfl) (by rw [List.length_append, List.length_append, hla]) ?_
            rcases r2 with ⟨e, i⟩ | ⟨lx, ox⟩
            · exact fun M' g1 g2 => hQ M' (f3.tr g1) g2
            · refine fun M' g1 g2 g3 g4 => hQ M' (f3.tr g1) ?_ ?_ g4
              · rw [← List.append_assoc, ← List.append_assoc]; exact g2
              · rw [hla, List.append_assoc] at g3; exact g3
          · refine Lq.of (t_168_12_ok X (callw X D) n tot kn kx _ M) ?_
            unfold t_168_12
            rw [if_neg (by decide +kernel), hM.2.2.2.1, if_neg (by rw [z_nI, eq_i (by omega) (by omega)]; exact m0)]
            refine Wq.call (a2 D acc ls M hD hM hS hL h13 hll (by omega)) ?_
            rintro y M3 h3
            obtain ⟨rfl, f3, c3', l3, e3, n3⟩ := h3
            rw [if_neg (by decide +kernel), Wq_jmp, e3, h13, o_nI, nI_add]
            have n4 : LnM (up M3 178 13 (nI (l + 1))) (ls ++ [k_ln4 acc.length o1 o2 (k_tk tp L k)]) := fun j q hq => by rw [up_ne (by decide)]; exact n3 j q hq
            have s4 : StM (up M3 178 13 (nI (l + 1))) (acc ++ o1 ++ o2) := by
              unfold StM
              rw [up_at, upW_n (by decide), up_ne (by decide)]
              exact l3
            refine Lq.mono (c2 D (acc ++ o1 ++ o2) _ _ hD c3'.up13 s4 n4 (by rw [up_at, upW_s]) (by rw [List.length_append, hll]; rfl) (by rw [List.length_append, List.length_append, hla])) (fun x M' hq => ?_)
            rcases r2 with ⟨e, i⟩ | ⟨lx, ox⟩
            · obtain ⟨q1, q2, q3⟩ := hq
              exact ⟨q1, (mf3_u13 (v := nI (l + 1)) f3).tr q2, q3⟩
            · obtain ⟨q1, q2, q3, q4, q5⟩ := hq
              refine ⟨q1, (mf3_u13 (v := nI (l + 1)) f3).tr q2, ?_, ?_, ?_⟩
              · rw [← List.append_assoc, ← List.append_assoc]; exact q3
              · rw [hla, List.append_assoc] at q4; exact q4
              · rw [hla, List.append_assoc] at q5; exact q5
          · rcases r2 with ⟨e, i⟩ | ⟨lx, ox⟩
            · trivial
            · obtain ⟨d1, d2, d3⟩ := c3
              refine ⟨by rw [List.length_cons]; omega, by rw [List.length_append, List.length_append]; omega, fun acc ls ha hl h => ?_⟩
              have g1 : GoLs rd (acc ++ o1 ++ o2) (ls ++ [k_ln4 a o1 o2 (k_tk tp L k)]) := by
                rw [← ha, List.append_assoc]
                refine GoLs.add h ?_
                rw [← List.append_assoc]
                exact GoL.new b4 b6 b7
              have g2 := d3 (acc ++ o1 ++ o2) (ls ++ [k_ln4 a o1 o2 (k_tk tp L k)]) (by rw [List.length_append, List.length_append, ha]) (by rw [List.length_append, hl]; rfl) g1
              rw [List.append_assoc ls] at g2
              rw [← List.append_assoc, ← List.append_assoc]
              exact g2
theorem J_law37 {tp : Nat → Nat} {L ct rd : Nat} (hx : TxP tp L ct) (hrd : rd < 2) : ∀ (c k l a : Nat), ct ≤ k + c → k ≤ ct → l ≤ 16 → a ≤ k → ∃ r : RzW,
    (∀ (D : Nat) (acc : List (Nat × Nat)) (ls : List LnT) (M : MMw) (Q : Int32 → MMw → Prop), 22 ≤ D → ClT tp L ct M k → LwC M acc → LnC M ls → ls.length = l → acc.length = a → CwK tp L M acc ls r (fun M' => Q (nI 4294967295) M') (fun M' => Wq X (callw X D) 135 (Gk n tot kn kx) Q (bnd (callw X D 134 [.inr (.inl 37), .inr (.inl 100)] (Gk n tot kn kx) M') fun _ _ M4 => some (.inl ((M4 100 0), Gk n tot kn kx, M4)))) → Lq X (callw X D) 135 18 [some (.inr (.inl 95)), some (.inr (.inl 37)), some (.inl (nI rd)), some (.inl (nI l))] (Gk n tot kn kx) M Q) ∧
    (∀ (D : Nat) (acc : List (Nat × Nat)) (ls : List LnT) (M : MMw), 40 ≤ D → MdT tp L rd M k → StM M acc → LnM M ls → M 178 13 = nI l → ls.length = l → acc.length = a → Lq X (callw X D) 168 12 [some (.inr (.inl 178)), some (.inl (nI 1))] (Gk n tot kn kx) M (MwQ tp L M acc ls r)) ∧ GdW ct rd l a r := by
  have hct := hx.2.2.1
  have stop : ∀ (k l a : Nat), k ≤ ct → l ≤ 16 → a ≤ k → k_tk tp L k = 0 →
    (∀ (D : Nat) (acc : List (Nat × Nat)) (ls : List LnT) (M : MMw) (Q : Int32 → MMw → Prop), 22 ≤ D → ClT tp L ct M k → LwC M acc → LnC M ls → ls.length = l → acc.length = a → CwK tp L M acc ls (.inr ([], [])) (fun M' => Q (nI 4294967295) M') (fun M' => Wq X (callw X D) 135 (Gk n tot kn kx) Q (bnd (callw X D 134 [.inr (.inl 37), .inr (.inl 100)] (Gk n tot kn kx) M') fun _ _ M4 => some (.inl ((M4 100 0), Gk n tot kn kx, M4)))) → Lq X (callw X D) 135 18 [some (.inr (.inl 95)), some (.inr (.inl 37)), some (.inl (nI rd)), some (.inl (nI l))] (Gk n tot kn kx) M Q) ∧
    (∀ (D : Nat) (acc : List (Nat × Nat)) (ls : List LnT) (M : MMw), 40 ≤ D → MdT tp L rd M k → StM M acc → LnM M ls → M 178 13 = nI l → ls.length = l → acc.length = a → Lq X (callw X D) 168 12 [some (.inr (.inl 178)), some (.inl (nI 1))] (Gk n tot kn kx) M (MwQ tp L M acc ls (.inr ([], [])))) ∧ GdW ct rd l a (.inr ([], [])) := fun k l a hk hl ha t0 => by
    refine ⟨fun D acc ls M Q hD hC hA hL hll hla hQ => ?_, fun D acc ls M hD hM hS hL h13 hll hla => ?_, hl, by show a + 0 ≤ ct; omega, fun acc ls _ _ h => by rw [List.append_nil, List.append_nil]; exact h⟩
    · refine Lq.of (t_135_p95_p37_18_ok X (callw X D) n tot kn kx _ _ M) ?_
      unfold t_135_p95_p37_18
      simp only [o_nI]
      rw [hC.2.1, t0, if_neg (by rw [lt_i (by omega) (by omega)]; omega), if_pos (by rfl)]
      exact hQ M CF3.rf (by rw [List.append_nil]; exact hA) (by rw [List.append_nil]; exact hL) hC.1.2
    · refine Lq.of (t_168_12_ok X (callw X D) n tot kn kx _ M) ?_
      unfold t_168_12
      rw [if_neg (by decide +kernel), hM.2.2.2.1, t0, if_pos (by rfl), if_pos nrw_1, Wq_ret]
      exact ⟨rfl, MF3.rf, by rw [List.append_nil]; exact hS, by rw [List.append_nil]; exact hL, by rw [List.append_nil, h13, hll]⟩
  intro c
  induction c with
  | zero =>
    intro k l a hc hk hl ha
    have e0 : k_tk tp L k = 0 := by rw [show k = ct by omega]; exact tx_end hx
    exact ⟨_, stop k l a hk hl ha e0⟩
  | succ c ih =>
    intro k l a hc hk hl ha
    by_cases t0 : k_tk tp L k = 0
    · exact ⟨_, stop k l a hk hl ha t0⟩
    · have hb := tx_tk (k := k) hx
      have hmt := k_mt_lt rd (by omega) _ hb
      have m0 : k_mt rd (k_tk tp L k) ≠ 0 := by
        have h0 : ∀ rd, rd < 4 → ∀ c, c < 126 → (k_mt rd c = 0 → c = 0) := by decide +kernel
        exact fun e => t0 (h0 rd (by omega) _ hb e)
      obtain ⟨r1, a1, a2, a3⟩ := J_line (X := X) (n := n) (tot := tot) (kn := kn) (kx := kx) hx hrd hk hl
      have cls : ∀ (D : Nat) (M : MMw) (Q : Int32 → MMw → Prop), ClT tp L ct M k → Wq X (callw X D) 135 (Gk n tot kn kx) Q (bnd (callw X D 133 [.inr (.inl 95), .inl (nI rd)] (Gk n tot kn kx) M) fun r5 _ M6 => (if r5 = (0 : Int32) then some (.inl (nI 4294967295, Gk n tot kn kx, M6)) else some (.inr (18, [some (.inr (.inl 95)), some (.inr (.inl 37)), some (.inl (nI rd)), some (.inl (nI (l + 1)))], [], (Gk n tot kn kx), M6)))) → Lq X (callw X D) 135 18 [some (.inr (.inl 95)), some (.inr (.inl 37)), some (.inl (nI rd)), some (.inl (nI l))] (Gk n tot kn kx) M Q := fun D M Q hC hK => by
        refine Lq.of (t_135_p95_p37_18_ok X (callw X D) n tot kn kx _ _ M) ?_
        unfold t_135_p95_p37_18
        simp only [o_nI]
        rw [hC.2.1, if_neg (by rw [lt_i (by omega) (by omega)]; omega), if_neg (by rw [z_nI, eq_i (by omega) (by omega)]; exact t0), i1_nI, nI_add]
        exact hK
      rcases r1 with ⟨e, i⟩ | ⟨k', o1, o2⟩
      · refine ⟨.inl (e, i), fun D acc ls M Q hD hC hA hL hll hla hQ => ?_, fun D acc ls M hD hM hS hL h13 hll hla => ?_, trivial⟩
        · refine cls D M Q hC ?_
          refine Wq.call (a1 D acc ls M hD hC hA hL hll (by omega)) ?_
          rintro y M3 h3
          obtain ⟨rfl, f3, t3⟩ : y = nI 0 ∧ CF3 M M3 ∧ FtC tp L e i M3 := h3
          rw [if_pos (by rfl), Wq_ret]
          exact hQ M3 f3 t3
        · refine Lq.of (t_168_12_ok X (callw X D) n tot kn kx _ M) ?_
          unfold t_168_12
          rw [if_neg (by decide +kernel), hM.2.2.2.1, if_neg (by rw [z_nI, eq_i (by omega) (by omega)]; exact m0)]
          refine Wq.call (a2 D acc ls M hD hM hS hL h13 hll (by omega)) ?_
          rintro y M3 h3
          obtain ⟨rfl, f3, t3⟩ : y = nI 0 ∧ MF3 M M3 ∧ FtM tp L e i M3 := h3
          rw [if_pos (by rfl), Wq_jmp]
          refine Lq.of (t_168_12_ok X (callw X D) n tot kn kx _ _) ?_
          unfold t_168_12
          rw [if_pos (by rfl), if_pos nrw_0, Wq_ret]
          refine ⟨rfl, mf3_u13 f3, ?_, ?_⟩
          · rw [up_at, upW_n (by decide)]; exact t3.1
          · rw [up_at, upW_n (by decide)]; exact t3.2
      · obtain ⟨b1, b2, b3, b4, b5, b6, b7, hl16⟩ := a3
        · obtain ⟨r2, c1, c2, c3⟩ := ih k' (l + 1) (a + o1.length + o2.length) (by omega) b2 (by omega) (by omega)
          -- what the line adds stands before what follows
          refine ⟨match r2 with | .inl e => .inl e | .inr (lx, ox) => .inr (k_ln4 a o1 o2 (k_tk tp L k) :: lx, o1 ++ o2 ++ ox), fun D acc ls M Q hD hC hA hL hll hla hQ => ?_, fun D acc ls M hD hM hS hL h13 hll hla => ?_, ?_⟩
          · refine cls D M Q hC ?_
            refine Wq.call (a1 D acc ls M hD hC hA hL hll (by omega)) ?_
            rintro y M3 h3
            obtain ⟨rfl, f3, c3', l3, n3⟩ := h3
            rw [if_neg (by decide +kernel), Wq_jmp]
            refine c1 D (acc ++ o1 ++ o2) _ M3 Q hD c3' l3 n3 (by rw [List.length_append, hll]; rfl) (by rw [List.length_append, List.length_append, hla]) ?_
            rcases r2 with ⟨e, i⟩ | ⟨lx, ox⟩
            · exact fun M' g1 g2 => hQ M' (f3.tr g1) g2
            · refine fun M' g1 g2 g3 g4 => hQ M' (f3.tr g1) ?_ ?_ g4
              · rw [← List.append_assoc, ← List.append_assoc]; exact g2
              · rw [hla, List.append_assoc] at g3; exact g3
          · refine Lq.of (t_168_12_ok X (callw X D) n tot kn kx _ M) ?_
            unfold t_168_12
            rw [if_neg (by decide +kernel), hM.2.2.2.1, if_neg (by rw [z_nI, eq_i (by omega) (by omega)]; exact m0)]
            refine Wq.call (a2 D acc ls M hD hM hS hL h13 hll (by omega)) ?_
            rintro y M3 h3
            obtain ⟨rfl, f3, c3', l3, e3, n3⟩ := h3
            rw [if_neg (by decide +kernel), Wq_jmp, e3, h13, o_nI, nI_add]
            have n4 : LnM (up M3 178 13 (nI (l + 1))) (ls ++ [k_ln4 acc.length o1 o2 (k_tk tp L k)]) := fun j q hq => by rw [up_ne (by decide)]; exact n3 j q hq
            have s4 : StM (up M3 178 13 (nI (l + 1))) (acc ++ o1 ++ o2) := by
              unfold StM
              rw [up_at, upW_n (by decide), up_ne (by decide)]
              exact l3
            refine Lq.mono (c2 D (acc ++ o1 ++ o2) _ _ hD c3'.up13 s4 n4 (by rw [up_at, upW_s]) (by rw [List.length_append, hll]; rfl) (by rw [List.length_append, List.length_append, hla])) (fun x M' hq => ?_)
            rcases r2 with ⟨e, i⟩ | ⟨lx, ox⟩
            · obtain ⟨q1, q2, q3⟩ := hq
              exact ⟨q1, (mf3_u13 (v := nI (l + 1)) f3).tr q2, q3⟩
            · obtain ⟨q1, q2, q3, q4, q5⟩ := hq
              refine ⟨q1, (mf3_u13 (v := nI (l + 1)) f3).tr q2, ?_, ?_, ?_⟩
              · rw [← List.append_assoc, ← List.append_assoc]; exact q3
              · rw [hla, List.append_assoc] at q4; exact q4
              · rw [hla, List.append_assoc] at q5; exact q5
          · rcases r2 with ⟨e, i⟩ | ⟨lx, ox⟩
            · trivial
            · obtain ⟨d1, d2, d3⟩ := c3
              refine ⟨by rw [List.length_cons]; omega, by rw [List.length_append, List.length_append]; omega, fun acc ls ha hl h => ?_⟩
              have g1 : GoLs rd (acc ++ o1 ++ o2) (ls ++ [k_ln4 a o1 o2 (k_tk tp L k)]) := by
                rw [← ha, List.append_assoc]
                refine GoLs.add h ?_
                rw [← List.append_assoc]
                exact GoL.new b4 b6 b7
              have g2 := d3 (acc ++ o1 ++ o2) (ls ++ [k_ln4 a o1 o2 (k_tk tp L k)]) (by rw [List.length_append, List.length_append, ha]) (by rw [List.length_append, hl]; rfl) g1
              rw [List.append_assoc ls] at g2
              rw [← List.append_assoc, ← List.append_assoc]
              exact g2
end
