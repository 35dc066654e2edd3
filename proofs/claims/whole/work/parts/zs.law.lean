section
-- needs: line
/-! a law on both sides -/
variable {X : KXw} {n tot kn D : Nat} {kx : Nat → Nat × Nat} {M : MMw}
abbrev LnT : Type := Nat × Nat × Nat × Nat
theorem k_app_at {α : Type} {l : List α} {q p : α} {j : Nat} (h : (l ++ [q])[j]? = some p) : (j < l.length ∧ l[j]? = some p) ∨ (j = l.length ∧ p = q) := by
  rw [List.getElem?_append] at h
  by_cases hl : j < l.length
  · rw [if_pos hl] at h
    exact Or.inl ⟨hl, h⟩
  · rw [if_neg hl] at h
    have hj0 : j = l.length := by
      by_cases e0 : j - l.length = 0
      · omega
      · obtain ⟨v, hv⟩ : ∃ v, j - l.length = v + 1 := ⟨j - l.length - 1, by omega⟩
        rw [hv] at h
        cases h
    rw [hj0, Nat.sub_self] at h
    cases h
    exact Or.inr ⟨hj0, rfl⟩
def LnC (M : MMw) (ls : List LnT) : Prop := M 100 0 = nI ls.length ∧ ∀ (j : Nat) (q : LnT), ls[j]? = some q → M 101 j = nI q.2.2.2 ∧ M 102 j = nI q.1 ∧ M 103 j = nI q.2.1 ∧ M 104 j = nI q.2.2.1
def LnM (M : MMw) (ls : List LnT) : Prop := ∀ (j : Nat) (q : LnT), ls[j]? = some q → M 183 (4 * j) = nI q.1 ∧ M 183 (4 * j + 1) = nI q.2.1 ∧ M 183 (4 * j + 2) = nI q.2.2.1 ∧ M 183 (4 * j + 3) = nI (q.2.2.2 - 80)
theorem LnC.lt {ls : List LnT} {j : Nat} {q : LnT} (h : ls[j]? = some q) : j < ls.length := by
  rcases Nat.lt_or_ge j ls.length with hl | hl
  · exact hl
  · rw [List.getElem?_eq_none hl] at h; cases h
abbrev RzN : Type := (Nat × Nat) ⊕ (Nat × List (Nat × Nat) × List (Nat × Nat))
def k_ln4 (a : Nat) (o1 o2 : List (Nat × Nat)) (w : Nat) : LnT := (a, a + o1.length, a + o1.length + o2.length, w)
def CLQ (tp : Nat → Nat) (L ct : Nat) (M : MMw) (acc : List (Nat × Nat)) (ls : List LnT) (w : Nat) (r : RzN) (x : Int32) (M' : MMw) : Prop := match r with
  | .inl (a, i) => x = nI 0 ∧ CF3 M M' ∧ FtC tp L a i M'
  | .inr (k', o1, o2) => x = nI 1 ∧ CF3 M M' ∧ ClT tp L ct M' k' ∧ LwC M' (acc ++ o1 ++ o2) ∧ LnC M' (ls ++ [k_ln4 acc.length o1 o2 w])
def MLQ (tp : Nat → Nat) (L rd : Nat) (M : MMw) (acc : List (Nat × Nat)) (ls : List LnT) (w : Nat) (r : RzN) (x : Int32) (M' : MMw) : Prop := match r with
  | .inl (a, i) => x = nI 0 ∧ MF3 M M' ∧ FtM tp L a i M'
  | .inr (k', o1, o2) => x = nI 1 ∧ MF3 M M' ∧ MdT tp L rd M' k' ∧ StM M' (acc ++ o1 ++ o2) ∧ M' 178 13 = M 178 13 ∧ LnM M' (ls ++ [k_ln4 acc.length o1 o2 w])
/-- a word that a line begins with -/
def OkW (rd c : Nat) : Prop := (rd = 0 ∧ (c = 100 ∨ c = 101)) ∨ (rd = 1 ∧ 102 ≤ c ∧ c ≤ 104)
theorem k_okw0 : ∀ c, c < 126 → ((20 ≤ k_mt 0 c ∧ k_mt 0 c ≤ 24) ↔ (c = 100 ∨ c = 101)) ∧ (20 ≤ k_mt 0 c → k_mt 0 c ≤ 24 → k_mt 0 c = c - 80) := by decide +kernel
theorem k_okw1 : ∀ c, c < 126 → ((20 ≤ k_mt 1 c ∧ k_mt 1 c ≤ 24) ↔ (102 ≤ c ∧ c ≤ 104)) ∧ (20 ≤ k_mt 1 c → k_mt 1 c ≤ 24 → k_mt 1 c = c - 80) := by decide +kernel
theorem k_okw : ∀ rd, rd < 2 → ∀ c, c < 126 → ((20 ≤ k_mt rd c ∧ k_mt rd c ≤ 24) ↔ OkW rd c) ∧ (20 ≤ k_mt rd c → k_mt rd c ≤ 24 → k_mt rd c = c - 80) := fun rd hrd c hc => by
  by_cases h : rd = 0
  · subst h
    obtain ⟨h1, h2⟩ := k_okw0 c hc
    exact ⟨h1.trans ⟨fun g => Or.inl ⟨rfl, g⟩, fun g => g.elim (fun g => g.2) (fun g => absurd g.1 (by decide))⟩, h2⟩
  · have e : rd = 1 := by omega
    subst e
    obtain ⟨h1, h2⟩ := k_okw1 c hc
    exact ⟨h1.trans ⟨fun g => Or.inr ⟨rfl, g⟩, fun g => g.elim (fun g => absurd g.1 (by decide)) (fun g => g.2)⟩, h2⟩
def GdN (ct k l rd w : Nat) (r : RzN) : Prop := match r with
  | .inl _ => True
  | .inr (k', o1, o2) => k < k' ∧ k' ≤ ct ∧ o1.length + o2.length + k < k' ∧ OkW rd w ∧ (rd = 0 → o1 = []) ∧ (rd = 1 → LwS o1 0 1) ∧ (o2 = [] ∨ LwS o2 0 1) ∧ l < 16
theorem J_line {tp : Nat → Nat} {L ct rd k l : Nat} (hx : TxP tp L ct) (hrd : rd < 2) (hk : k ≤ ct) (hl : l ≤ 16) : ∃ r : RzN,
    (∀ (D : Nat) (acc : List (Nat × Nat)) (ls : List LnT) (M : MMw), 22 ≤ D → ClT tp L ct M k → LwC M acc → LnC M ls → ls.length = l → acc.length ≤ k → Sq X D 133 [.inr (.inl 95), .inl (nI rd)] (Gk n tot kn kx) M (CLQ tp L ct M acc ls (k_tk tp L k) r)) ∧
    (∀ (D : Nat) (acc : List (Nat × Nat)) (ls : List LnT) (M : MMw), 40 ≤ D → MdT tp L rd M k → StM M acc → LnM M ls → M 178 13 = nI l → ls.length = l → acc.length ≤ k → Sq X D 167 [.inr (.inl 178)] (Gk n tot kn kx) M (MLQ tp L rd M acc ls (k_tk tp L k) r)) ∧ GdN ct k l rd (k_tk tp L k) r := by
  have hct := hx.2.2.1
  have hb := tx_tk (k := k) hx
  have hmt := k_mt_lt rd (by omega) _ hb
  obtain ⟨ok1, ok2⟩ := k_okw rd hrd _ hb
  have cfail : ∀ (D a : Nat) (M : MMw) (Q : Int32 → MMw → Prop), 1 ≤ D → ClT tp L ct M k → (∀ M', CF3 M M' → FtC tp L a k M' → Q (nI 0) M') → Wq X (callw X D) 133 (Gk n tot kn kx) Q (bnd (callw X D 124 [.inr (.inl 95), .inl (nI a)] (Gk n tot kn kx) M) fun r1 _ M2 => (if nrw 1 r1 = r1 then some (.inl (r1, Gk n tot kn kx, M2)) else none)) := fun D a M Q hD hC hQ => by
    refine Wq.call (c_fail hD hx hk hC) ?_
    rintro x M' ⟨rfl, g1, g2⟩
    rw [if_pos nrw_0, Wq_ret]
    exact hQ M' (CF3.of (CFr.of g1 (by decide))) g2
  have mfail : ∀ (D a : Nat) (M : MMw) (Q : Int32 → MMw → Prop), 1 ≤ D → MdT tp L rd M k → (∀ M', MF3 M M' → FtM tp L a k M' → Q (nI 0) M') → Wq X (callw X D) 167 (Gk n tot kn kx) Q (bnd (callw X D 157 [.inr (.inl 178), .inl (nI a)] (Gk n tot kn kx) M) fun r3 _ M4 => (if nrw 1 r3 = r3 then some (.inl (r3, Gk n tot kn kx, M4)) else none)) := fun D a M Q hD hM hQ => by
    refine Wq.call (m_bad hD hM) ?_
    rintro x M' ⟨rfl, g1, g2⟩
    rw [if_pos nrw_0, Wq_ret]
    exact hQ M' (MF3.of (MFr.of g1 (by decide))) g2
  by_cases okw : OkW rd (k_tk tp L k)
  · have hin := ok1.mpr okw
    have hv := ok2 hin.1 hin.2
    have hkc := tx_lt hx hk (by unfold OkW at okw; omega)
    have cls0 : ∀ (D : Nat) (M : MMw) (Q : Int32 → MMw → Prop), ClT tp L ct M k → Lq X (callw X D) 133 57 [some (.inr (.inl 95)), some (.inl (nI rd)), some (.inl (M 100 0))] (Gk n tot kn kx) M Q → Sq X (D + 1) 133 [.inr (.inl 95), .inl (nI rd)] (Gk n tot kn kx) M Q := fun D M Q hC hK => by
      refine Sq.of ?_
      refine Lq.of (t_133_p95_0_ok X (callw X D) n tot kn kx _ M) ?_
      unfold t_133_p95_0
      simp only [o_nI]
      rw [hC.2.1]
      rcases okw with ⟨r0, e⟩ | ⟨r1, e1, e2⟩
      · rw [if_pos (by rw [r0]; rfl)]
        rcases e with e | e
        · rw [if_pos (by rw [e]), Wq_jmp]; exact hK
        · rw [if_neg (by rw [e]; decide +kernel), if_pos (by rw [e]), Wq_jmp]; exact hK
      · rw [if_neg (by rw [r1]; decide +kernel), if_neg (by rw [lt_i (by omega) (by omega)]; omega), if_neg (by rw [lt_i (by omega) (by omega)]; omega), Wq_jmp]
        exact hK
    by_cases hl16 : l = 16
    · refine ⟨.inl (3, k), fun D acc ls M hD hC hA hL hll hla => ?_, fun D acc ls M hD hM hS hL h13 hll hla => ?_, trivial⟩
      · obtain ⟨D', rfl⟩ : ∃ D', D = D' + 1 := ⟨D - 1, by omega⟩
        refine cls0 D' M _ hC ?_
        refine Lq.of (t_133_p95_57_ok X (callw X D') n tot kn kx _ _ M) ?_
        unfold t_133_p95_57
        simp only [o_nI]
        rw [hL.1, if_neg (by rw [lt_i (by omega) (by omega)]; omega)]
        exact cfail D' 3 M _ (by omega) hC (fun M' f t => ⟨rfl, f, t⟩)
      · refine Sq.mk (k := 39) hD (fun D' hD' => ?_)
        refine Lq.of (t_167_0_ok X (callw X D') n tot kn kx M) ?_
        unfold t_167_0
        simp only [o_nI]
        rw [hM.2.2.2.1, m_isIn (by omega), bnd_some, if_neg (by
          rw [if_neg (by rw [lt_i (by omega) (by omega)]; omega), if_neg (by rw [lt_i (by omega) (by omega)]; omega)]
          decide +kernel), h13, if_pos (by rw [hl16])]
        exact mfail D' 3 M _ (by omega) hM (fun M' f t => ⟨rfl, f, t⟩)
    · have hl2 : l < 16 := by omega
      -- the line has begun
      have cls : ∀ (D : Nat) (acc : List (Nat × Nat)) (ls : List LnT) (M : MMw) (Q : Int32 → MMw → Prop), 3 ≤ D → ClT tp L ct M k → LwC M acc → LnC M ls → ls.length = l → (∀ M2, CF3 M M2 → ClT tp L ct M2 (k + 1) → LwC M2 acc → M2 100 0 = nI l → M2 101 = upW (M 101) l (nI (k_tk tp L k)) → M2 102 = upW (M 102) l (nI acc.length) → M2 103 = M 103 → M2 104 = M 104 → Wq X (callw X D) 133 (Gk n tot kn kx) Q (if nI rd = (0 : Int32) then some (.inr (115, [some (.inr (.inl 95)), none, some (.inl (nI l))], [], (Gk n tot kn kx), M2)) else (bnd (callw X D 129 [.inr (.inl 95)] (Gk n tot kn kx) M2) fun r3 _ M4 => (if r3 = (0 : Int32) then some (.inl (nI 0, Gk n tot kn kx, M4)) else some (.inr (115, [some (.inr (.inl 95)), none, some (.inl (nI l))], [], (Gk n tot kn kx), M4)))))) → Sq X (D + 1) 133 [.inr (.inl 95), .inl (nI rd)] (Gk n tot kn kx) M Q := fun D acc ls M Q hD hC hA hL hll hK => by
        refine cls0 D M Q hC ?_
        refine Lq.of (t_133_p95_57_ok X (callw X D) n tot kn kx _ _ M) ?_
        unfold t_133_p95_57
        simp only [o_nI]
        rw [hL.1, hll, if_pos (by rw [lt_i (by omega) (by omega)]; omega), inb_nI hl2 (by decide)]
        simp only [if_true]
        rw [hC.2.1, hA.1, nI_clamp (by omega)]
        refine Wq.call (c_adv (by omega) hx hkc ((hC.ne (c := 101) (by decide)).ne (c := 102) (by decide))) ?_
        rintro y M2 ⟨f2, c2⟩
        refine hK M2 (((CF3.rf.up (by decide)).up (by decide)).tr (CF3.of (CFr.of f2 (by decide)))) c2 (((hA.ne (c := 101) (by decide) (Or.inl (by decide))).ne (c := 102) (by decide) (Or.inl (by decide))).f9 f2) ?_ ?_ ?_ ?_ ?_
        · rw [f2.1 100 (by decide), up_ne (by decide), up_ne (by decide), hL.1, hll]
        · rw [f2.1 101 (by decide), up_ne (by decide), up_at]
        · rw [f2.1 102 (by decide), up_at, up_ne (by decide)]
        · rw [f2.1 103 (by decide), up_ne (by decide), up_ne (by decide)]
        · rw [f2.1 104 (by decide), up_ne (by decide), up_ne (by decide)]
      have mdl : ∀ (D : Nat) (acc : List (Nat × Nat)) (M : MMw) (Q : Int32 → MMw → Prop), 39 ≤ D → MdT tp L rd M k → StM M acc → M 178 13 = nI l → (∀ M2, MF3 M M2 → M2 178 24 = nI 0 → MdT tp L rd M2 (k + 1) → StM M2 acc → M2 178 13 = nI l → M2 183 = upW (upW (M 183) (4 * l + 3) (nI (k_tk tp L k - 80))) (4 * l) (nI acc.length) → Wq X (callw X D) 167 (Gk n tot kn kx) Q (if nI rd = nI 1 then (bnd (callw X D 161 [.inr (.inl 178)] (Gk n tot kn kx) M2) fun r9 _ M10 => (if r9 = (0 : Int32) then some (.inl (nI 0, Gk n tot kn kx, M10)) else some (.inr (93, [some (.inr (.inl 178))], [], (Gk n tot kn kx), M10)))) else some (.inr (93, [some (.inr (.inl 178))], [], (Gk n tot kn kx), M2)))) → Sq X (D + 1) 167 [.inr (.inl 178)] (Gk n tot kn kx) M Q := fun D acc M Q hD hM hS h13 hK => by
        refine Sq.of ?_
        refine Lq.of (t_167_0_ok X (callw X D) n tot kn kx M) ?_
        unfold t_167_0
        simp only [o_nI]
        have e13 : up M 178 24 (nI 0) 178 13 = nI l := by rw [up_at, upW_n (by decide)]; exact h13
        have e18 : up M 178 24 (nI 0) 178 18 = nI (k_tk tp L k - 80) := by rw [up_at, upW_n (by decide), hM.2.2.2.1, hv]
        rw [hM.2.2.2.1, m_isIn (by omega), bnd_some, if_neg (by
          rw [if_neg (by rw [lt_i (by omega) (by omega)]; omega), if_neg (by rw [lt_i (by omega) (by omega)]; omega)]
          decide +kernel), h13, if_neg (by rw [eq_i (by omega) (by omega)]; exact hl16), e13, e18, nI_mul, nI_add, inb_nI (show 4 * l + 3 < 64 by omega) (by decide), if_pos rfl, nI_clamp (by omega)]
        refine Wq.call (m_nextK (by omega) hx.1 hx.2.1 (by omega) ((hM.up24).ne (c := 183) (by decide))) ?_
        rintro y M2 ⟨f2, c2⟩
        have e213 : M2 178 13 = nI l := by rw [f2.2 13 (by decide), up_ne (by decide)]; exact e13
        have s2 : StM M2 acc := ((hS.up24).ne (c := 183) (by decide) (by decide)).f8 f2 (by decide)
        have f3 : MF3 M M2 := ((MF3.of MFr.rf.up24).up).tr (MF3.of (MFr.of f2 (by decide)))
        rw [e213, nI_mul, inb_nI (show 4 * l < 64 by omega) (by decide), if_pos rfl, nI_clamp (by omega), c2.2.1, s2.1]
        refine hK _ f3.up ?_ (c2.ne (c := 183) (by decide)) (s2.ne (c := 183) (by decide) (by decide)) (by rw [up_ne (by decide)]; exact e213) ?_
        · rw [up_ne (by decide), f2.2 24 (by decide), up_ne (by decide), up_at, upW_s]
        · rw [up_at, f2.1 183 (by decide), up_at, up_ne (by decide)]
      -- what the class and the reference then have in their rows
      have cln : ∀ (acc o1 o2 : List (Nat × Nat)) (ls : List LnT) (M M1 M2 : MMw), LnC M ls → ls.length = l → M1 101 = upW (M 101) l (nI (k_tk tp L k)) → M1 102 = upW (M 102) l (nI acc.length) → M1 103 = M 103 → M1 104 = M 104 → M2 100 0 = nI (l + 1) → M2 103 l = nI (acc ++ o1).length → M2 104 l = nI ((acc ++ o1).length + o2.length) → (∀ j, j ≠ l → M2 103 j = M1 103 j ∧ M2 104 j = M1 104 j) → M2 101 = M1 101 → M2 102 = M1 102 → LnC M2 (ls ++ [k_ln4 acc.length o1 o2 (k_tk tp L k)]) := fun acc o1 o2 ls M M1 M2 hL hll g101 g102 g103 g104 h0 h103 h104 hj h101 h102 => by
        refine ⟨by rw [h0, List.length_append, hll]; rfl, fun j q hq => ?_⟩
        rcases k_app_at hq with ⟨hlt, hq⟩ | ⟨rfl, rfl⟩
        · obtain ⟨x1, x2⟩ := hj j (by omega)
          rw [h101, h102, g101, g102, upW_n (by omega), upW_n (by omega), x1, x2, g103, g104]
          exact hL.2 j q hq
        · rw [hll, h101, h102, g101, g102, upW_s, upW_s, h103, h104, List.length_append]
          exact ⟨rfl, rfl, rfl, rfl⟩
      have mln : ∀ (acc o1 o2 : List (Nat × Nat)) (ls : List LnT) (M M1 M2 : MMw), LnM M ls → ls.length = l → M1 183 = upW (upW (M 183) (4 * l + 3) (nI (k_tk tp L k - 80))) (4 * l) (nI acc.length) → M2 183 (4 * l + 1) = nI (acc ++ o1).length → M2 183 (4 * l + 2) = nI ((acc ++ o1).length + o2.length) → (∀ j, j ≠ 4 * l + 1 → j ≠ 4 * l + 2 → M2 183 j = M1 183 j) → LnM M2 (ls ++ [k_ln4 acc.length o1 o2 (k_tk tp L k)]) := fun acc o1 o2 ls M M1 M2 hL hll g183 h1 h2 hj j q hq => by
        rcases k_app_at hq with ⟨hlt, hq⟩ | ⟨rfl, rfl⟩
        · rw [hj (4 * j) (by omega) (by omega), hj (4 * j + 1) (by omega) (by omega), hj (4 * j + 2) (by omega) (by omega), hj (4 * j + 3) (by omega) (by omega), g183]
          rw [upW_n (show 4 * j ≠ 4 * l by omega), upW_n (show 4 * j ≠ 4 * l + 3 by omega), upW_n (show 4 * j + 1 ≠ 4 * l by omega), upW_n (show 4 * j + 1 ≠ 4 * l + 3 by omega), upW_n (show 4 * j + 2 ≠ 4 * l by omega), upW_n (show 4 * j + 2 ≠ 4 * l + 3 by omega), upW_n (show 4 * j + 3 ≠ 4 * l by omega), upW_n (show 4 * j + 3 ≠ 4 * l + 3 by omega)]
          exact hL j q hq
        · rw [hll, h1, h2, hj (4 * l) (by omega) (by omega), hj (4 * l + 3) (by omega) (by omega), g183, upW_s, upW_n (show 4 * l + 3 ≠ 4 * l by omega), upW_s, List.length_append]
          exact ⟨rfl, rfl, rfl, rfl⟩
      by_cases hr0 : rd = 0
      · obtain ⟨r2, s1, s2, s3⟩ := J_sec2 (X := X) (n := n) (tot := tot) (kn := kn) (kx := kx) hx hrd (show k + 1 ≤ ct by omega) hl2
        rcases r2 with ⟨a, i⟩ | ⟨k', o⟩
        · refine ⟨.inl (a, i), fun D acc ls M hD hC hA hL hll hla => ?_, fun D acc ls M hD hM hS hL h13 hll hla => ?_, trivial⟩
          · obtain ⟨D', rfl⟩ : ∃ D', D = D' + 1 := ⟨D - 1, by omega⟩
            refine cls D' acc ls M _ (by omega) hC hA hL hll (fun M2 f2 c2 l2 e0 e1 e2 e3 e4 => ?_)
            rw [if_pos (by rw [hr0]; rfl), Wq_jmp]
            refine Lq.mono (s1 D' acc M2 (by omega) c2 l2 (by omega) e0) (fun x M' hq => ?_)
            obtain ⟨q1, q2, q3⟩ : x = nI 0 ∧ CF3 M2 M' ∧ FtC tp L a i M' := hq
            exact ⟨q1, f2.tr q2, q3⟩
          · obtain ⟨D', rfl⟩ : ∃ D', D = D' + 1 := ⟨D - 1, by omega⟩
            refine mdl D' acc M _ (by omega) hM hS h13 (fun M2 f2 e24 c2 l2 e0 e1 => ?_)
            rw [if_neg (by rw [hr0]; decide +kernel), Wq_jmp]
            refine Lq.mono (s2 D' acc M2 (by omega) c2 l2 (by omega) e0 e24) (fun x M' hq => ?_)
            obtain ⟨q1, q2, q3⟩ : x = nI 0 ∧ MF3 M2 M' ∧ FtM tp L a i M' := hq
            exact ⟨q1, f2.tr q2, q3⟩
        · obtain ⟨d1, d2, d3, d4⟩ := s3
          refine ⟨.inr (k', [], o), fun D acc ls M hD hC hA hL hll hla => ?_, fun D acc ls M hD hM hS hL h13 hll hla => ?_, by omega, d2, by show 0 + o.length + k < k'; omega, okw, fun _ => rfl, fun h => (by omega), d4, hl2⟩
          · obtain ⟨D', rfl⟩ : ∃ D', D = D' + 1 := ⟨D - 1, by omega⟩
            refine cls D' acc ls M _ (by omega) hC hA hL hll (fun M2 f2 c2 l2 e0 e1 e2 e3 e4 => ?_)
            rw [if_pos (by rw [hr0]; rfl), Wq_jmp]
            refine Lq.mono (s1 D' acc M2 (by omega) c2 l2 (by omega) e0) (fun x M' hq => ?_)
            obtain ⟨q1, q2, q3, q4, q5, q6, q7, q8, q9, q10⟩ := hq
            refine ⟨q1, f2.tr q2, q3, by rw [List.append_nil]; exact q4, ?_⟩
            exact cln acc [] o ls M M2 M' hL hll e1 e2 e3 e4 q5 (by rw [List.append_nil]; exact q6) (by rw [List.append_nil]; exact q7) q8 q9 q10
          · obtain ⟨D', rfl⟩ : ∃ D', D = D' + 1 := ⟨D - 1, by omega⟩
            refine mdl D' acc M _ (by omega) hM hS h13 (fun M2 f2 e24 c2 l2 e0 e1 => ?_)
            rw [if_neg (by rw [hr0]; decide +kernel), Wq_jmp]
            refine Lq.mono (s2 D' acc M2 (by omega) c2 l2 (by omega) e0 e24) (fun x M' hq => ?_)
            obtain ⟨q1, q2, q3, q4, q5, q6, q7, q8⟩ := hq
            refine ⟨q1, f2.tr q2, q3, by rw [List.append_nil]; exact q4, by rw [q5, e0, h13], ?_⟩
            exact mln acc [] o ls M M2 M' hL hll e1 (by rw [List.append_nil]; exact q6) (by rw [List.append_nil]; exact q7) q8
      · have hr1 : rd = 1 := by omega
        obtain ⟨r1, a1, a2, a3⟩ := J_sum (X := X) (n := n) (tot := tot) (kn := kn) (kx := kx) hx hrd (show k + 1 ≤ ct by omega)
        rcases r1 with ⟨a, i⟩ | ⟨k2, P⟩
        · refine ⟨.inl (a, i), fun D acc ls M hD hC hA hL hll hla => ?_, fun D acc ls M hD hM hS hL h13 hll hla => ?_, trivial⟩
          · obtain ⟨D', rfl⟩ : ∃ D', D = D' + 1 := ⟨D - 1, by omega⟩
            refine cls D' acc ls M _ (by omega) hC hA hL hll (fun M2 f2 c2 l2 e0 e1 e2 e3 e4 => ?_)
            rw [if_neg (by rw [hr1]; decide +kernel)]
            refine Wq.call (a1 D' acc M2 (by omega) c2 l2 (by omega)) ?_
            rintro y M3 h3
            have h3 : FlC tp L M2 a i y M3 := h3
            obtain rfl := h3.1
            rw [if_pos (by rfl), Wq_ret]
            exact ⟨rfl, f2.tr (CF3.of h3.2.1), h3.2.2.1⟩
          · obtain ⟨D', rfl⟩ : ∃ D', D = D' + 1 := ⟨D - 1, by omega⟩
            refine mdl D' acc M _ (by omega) hM hS h13 (fun M2 f2 e24 c2 l2 e0 e1 => ?_)
            rw [if_pos (by rw [hr1])]
            refine Wq.call (a2 D' acc M2 (by omega) c2 l2 (by omega)) ?_
            rintro y M3 h3
            have h3 : FlM tp L M2 a i y M3 := h3
            obtain rfl := h3.1
            rw [if_pos (by rfl), Wq_ret]
            exact ⟨rfl, f2.tr (MF3.of h3.2.1), h3.2.2⟩
        · obtain ⟨b1, b2, b3, b4⟩ := a3
          obtain ⟨r2, s1, s2, s3⟩ := J_sec2 (X := X) (n := n) (tot := tot) (kn := kn) (kx := kx) hx hrd b2 hl2
          rcases r2 with ⟨a, i⟩ | ⟨k', o⟩
          · refine ⟨.inl (a, i), fun D acc ls M hD hC hA hL hll hla => ?_, fun D acc ls M hD hM hS hL h13 hll hla => ?_, trivial⟩
            · obtain ⟨D', rfl⟩ : ∃ D', D = D' + 1 := ⟨D - 1, by omega⟩
              refine cls D' acc ls M _ (by omega) hC hA hL hll (fun M2 f2 c2 l2 e0 e1 e2 e3 e4 => ?_)
              rw [if_neg (by rw [hr1]; decide +kernel)]
              refine Wq.call (a1 D' acc M2 (by omega) c2 l2 (by omega)) ?_
              rintro y M3 h3
              obtain ⟨rfl, f3, c3, l3⟩ : y = nI 1 ∧ CFr M2 M3 ∧ ClT tp L ct M3 k2 ∧ LwC M3 (acc ++ P) := h3
              rw [if_neg (by decide +kernel), Wq_jmp]
              refine Lq.mono (s1 D' (acc ++ P) M3 (by omega) c3 l3 (by rw [List.length_append]; omega) (by rw [f3.2.2 0 (by decide)]; exact e0)) (fun x M' hq => ?_)
              obtain ⟨q1, q2, q3⟩ : x = nI 0 ∧ CF3 M3 M' ∧ FtC tp L a i M' := hq
              exact ⟨q1, (f2.tr (CF3.of f3)).tr q2, q3⟩
            · obtain ⟨D', rfl⟩ : ∃ D', D = D' + 1 := ⟨D - 1, by omega⟩
              refine mdl D' acc M _ (by omega) hM hS h13 (fun M2 f2 e24 c2 l2 e0 e1 => ?_)
              rw [if_pos (by rw [hr1])]
              refine Wq.call (a2 D' acc M2 (by omega) c2 l2 (by omega)) ?_
              rintro y M3 h3
              obtain ⟨rfl, f3, c3, l3, e3⟩ : y = nI 1 ∧ MFr M2 M3 ∧ MdT tp L rd M3 k2 ∧ StM M3 (acc ++ P) ∧ M3 178 24 = M2 178 24 := h3
              rw [if_neg (by decide +kernel), Wq_jmp]
              refine Lq.mono (s2 D' (acc ++ P) M3 (by omega) c3 l3 (by rw [List.length_append]; omega) (by rw [f3.2 13 (by decide)]; exact e0) (by rw [e3, e24])) (fun x M' hq => ?_)
              obtain ⟨q1, q2, q3⟩ : x = nI 0 ∧ MF3 M3 M' ∧ FtM tp L a i M' := hq
              exact ⟨q1, (f2.tr (MF3.of f3)).tr q2, q3⟩
          · obtain ⟨d1, d2, d3, d4⟩ := s3
            refine ⟨.inr (k', P, o), fun D acc ls M hD hC hA hL hll hla => ?_, fun D acc ls M hD hM hS hL h13 hll hla => ?_, by omega, d2, by omega, okw, fun h => (by omega), fun _ => b4 0 (by omega), d4, hl2⟩
            · obtain ⟨D', rfl⟩ : ∃ D', D = D' + 1 := ⟨D - 1, by omega⟩
              refine cls D' acc ls M _ (by omega) hC hA hL hll (fun M2 f2 c2 l2 e0 e1 e2 e3 e4 => ?_)
              rw [if_neg (by rw [hr1]; decide +kernel)]
              refine Wq.call (a1 D' acc M2 (by omega) c2 l2 (by omega)) ?_
              rintro y M3 h3
              obtain ⟨rfl, f3, c3, l3⟩ : y = nI 1 ∧ CFr M2 M3 ∧ ClT tp L ct M3 k2 ∧ LwC M3 (acc ++ P) := h3
              rw [if_neg (by decide +kernel), Wq_jmp]
              refine Lq.mono (s1 D' (acc ++ P) M3 (by omega) c3 l3 (by rw [List.length_append]; omega) (by rw [f3.2.2 0 (by decide)]; exact e0)) (fun x M' hq => ?_)
              obtain ⟨q1, q2, q3, q4, q5, q6, q7, q8, q9, q10⟩ := hq
              refine ⟨q1, (f2.tr (CF3.of f3)).tr q2, q3, q4, ?_⟩
              exact cln acc P o ls M M3 M' hL hll (by rw [f3.1 101 (by decide)]; exact e1) (by rw [f3.1 102 (by decide)]; exact e2) (by rw [f3.1 103 (by decide)]; exact e3) (by rw [f3.1 104 (by decide)]; exact e4) q5 q6 q7 q8 q9 q10
            · obtain ⟨D', rfl⟩ : ∃ D', D = D' + 1 := ⟨D - 1, by omega⟩
              refine mdl D' acc M _ (by omega) hM hS h13 (fun M2 f2 e24 c2 l2 e0 e1 => ?_)
              rw [if_pos (by rw [hr1])]
              refine Wq.call (a2 D' acc M2 (by omega) c2 l2 (by omega)) ?_
              rintro y M3 h3
              obtain ⟨rfl, f3, c3, l3, e3⟩ : y = nI 1 ∧ MFr M2 M3 ∧ MdT tp L rd M3 k2 ∧ StM M3 (acc ++ P) ∧ M3 178 24 = M2 178 24 := h3
              rw [if_neg (by decide +kernel), Wq_jmp]
              have e313 : M3 178 13 = nI l := by rw [f3.2 13 (by decide)]; exact e0
              refine Lq.mono (s2 D' (acc ++ P) M3 (by omega) c3 l3 (by rw [List.length_append]; omega) e313 (by rw [e3, e24])) (fun x M' hq => ?_)
              obtain ⟨q1, q2, q3, q4, q5, q6, q7, q8⟩ := hq
              refine ⟨q1, (f2.tr (MF3.of f3)).tr q2, q3, q4, by rw [q5, e313, h13], ?_⟩
              exact mln acc P o ls M M3 M' hL hll (by rw [f3.1 183 (by decide)]; exact e1) q6 q7 q8
  · refine ⟨.inl (1, k), fun D acc ls M hD hC hA hL hll hla => ?_, fun D acc ls M hD hM hS hL h13 hll hla => ?_, trivial⟩
    · obtain ⟨D', rfl⟩ : ∃ D', D = D' + 1 := ⟨D - 1, by omega⟩
      refine Sq.of ?_
      refine Lq.of (t_133_p95_0_ok X (callw X D') n tot kn kx _ M) ?_
      unfold t_133_p95_0
      simp only [o_nI]
      rw [hC.2.1]
      have fl := cfail D' 1 M (CLQ tp L ct M acc ls (k_tk tp L k) (.inl (1, k))) (by omega) hC (fun M' f t => ⟨rfl, f, t⟩)
      by_cases hr0 : rd = 0
      · rw [if_pos (by rw [hr0]; rfl), if_neg (by rw [eq_i (by omega) (by omega)]; exact fun e => okw (Or.inl ⟨hr0, Or.inl e⟩)), if_neg (by rw [eq_i (by omega) (by omega)]; exact fun e => okw (Or.inl ⟨hr0, Or.inr e⟩))]
        exact fl
      · have hr1 : rd = 1 := by omega
        rw [if_neg (by rw [hr1]; decide +kernel)]
        by_cases h2 : k_tk tp L k < 102
        · rw [if_pos (by rw [lt_i (by omega) (by omega)]; exact h2)]
          exact fl
        · rw [if_neg (by rw [lt_i (by omega) (by omega)]; exact h2), if_pos (by
            rw [lt_i (by omega) (by omega)]
            refine Classical.byContradiction (fun hh => okw (Or.inr ⟨hr1, by omega, by omega⟩)))]
          exact fl
    · refine Sq.mk (k := 39) hD (fun D' hD' => ?_)
      refine Lq.of (t_167_0_ok X (callw X D') n tot kn kx M) ?_
      unfold t_167_0
      simp only [o_nI]
      have e0 : (if nI (k_mt rd (k_tk tp L k)) < nI 20 then nI 0 else if nI 24 < nI (k_mt rd (k_tk tp L k)) then nI 0 else nI 1) = nI 0 := by
        by_cases h5 : k_mt rd (k_tk tp L k) < 20
        · rw [if_pos (by rw [lt_i (by omega) (by omega)]; exact h5)]
        · rw [if_neg (by rw [lt_i (by omega) (by omega)]; exact h5), if_pos (by
            rw [lt_i (by omega) (by omega)]
            refine Classical.byContradiction (fun hh => okw (ok1.mp ⟨by omega, by omega⟩)))]
      rw [hM.2.2.2.1, m_isIn (by omega), bnd_some, e0, if_pos (by rfl)]
      exact mfail D' 1 M _ (by omega) hM (fun M' f t => ⟨rfl, f, t⟩)
end
