section
-- needs: mfull
/-! the reference's table of sets that can be served together -/
variable {X : KXw} {n tot kn D : Nat} {kx : Nat → Nat × Nat} {M : MMw}
/-- a row of yes and no, as P says -/
def TbP (M : MMw) (P : Nat → Prop) : Prop := ∀ u, u < 4096 → ∃ b, M 190 u = b2i b ∧ (b = true ↔ P u)
theorem TbP.cg {M : MMw} {P Q : Nat → Prop} (h : TbP M P) (e : ∀ u, u < 4096 → (P u ↔ Q u)) : TbP M Q := fun u hu => by
  obtain ⟨b, h1, h2⟩ := h u hu
  exact ⟨b, h1, h2.trans (e u hu)⟩
theorem TbP.set {M : MMw} {P Q : Nat → Prop} {k : Nat} (h : TbP M P) (b : Bool) (e : ∀ u, u < 4096 → u ≠ k → (P u ↔ Q u)) (hk : b = true ↔ Q k) : TbP (up M 190 k (b2i b)) Q := fun u hu => by
  rw [up_at]
  by_cases hx : u = k
  · subst hx
    rw [upW_s]; exact ⟨b, rfl, hk⟩
  · rw [upW_n hx]
    obtain ⟨c, h1, h2⟩ := h u hu
    exact ⟨c, h1, h2.trans (e u hu hx)⟩
/-- tool t and man m can be taken besides v for a work of kind k -/
def q_gt (W : Nat → Int32) (k v t m : Nat) : Prop := t < q_n W 96 ∧ m < q_n W 97 ∧ v.testBit t = false ∧ v.testBit (8 + m) = false ∧ q_kd W t = k ∧ q_serve W t m = true
def q_tmx (v t m : Nat) : Nat := v ||| 2 ^ t ||| 2 ^ (8 + m)
theorem q_tmx_lt {v t m : Nat} (hv : v < 4096) (ht : t < 8) (hm : m < 4) : q_tmx v t m < 4096 := by
  unfold q_tmx
  exact Nat.or_lt_two_pow (n := 12) (Nat.or_lt_two_pow (n := 12) hv (Nat.pow_lt_pow_right (by decide) (by omega))) (Nat.pow_lt_pow_right (by decide) (by omega))
theorem q_tmx_gt {v t m : Nat} (h : v.testBit t = false) : v < q_tmx v t m := by
  have h1 : v ≤ q_tmx v t m := Nat.le_trans Nat.left_le_or Nat.left_le_or
  have h2 : v ≠ q_tmx v t m := fun e => by
    have h3 := congrArg (fun x => x.testBit t) e
    unfold q_tmx at h3
    simp only [Nat.testBit_or, h, pow_tb] at h3
    rw [decide_eq_true trivial, Bool.false_or, Bool.true_or] at h3
    cases h3
  omega
/-- the table who serves whom -/
def SvP (W : Nat → Int32) (M : MMw) : Prop := ∀ t m, t < q_n W 96 → m < q_n W 97 → M 191 (4 * t + m) = b2i (q_serve W t m)
theorem m_takesOne (hD : 2 ≤ D) {W : Nat → Int32} {R : Nat → Prop} {k : Nat} (hk : k < 4) (hW : M 179 = W) (hy : q_invY W) (hS : SvP W M) (hR : TbP M R) : Sq X D 246 [.inr (.inl 178), .inl (nI k)] (Gk n tot kn kx) M (fun x M' => (∃ b, x = b2i b ∧ (b = true ↔ ∃ v t m, v < 4096 ∧ R v ∧ q_gt W k v t m)) ∧ TbP M' (fun u => ∃ v t m, v < 4096 ∧ R v ∧ q_gt W k v t m ∧ u = q_tmx v t m) ∧ Fr [190] M M') :=
  Sq.mk (k := 1) hD (fun D' hD' => by
    obtain ⟨w1, w2⟩ := hy.1.1
    obtain ⟨w3, w4⟩ := hy.1.2.1
    have hw : ∀ M1 : MMw, Fr [190] M M1 → M1 179 = W := fun M1 hf => by rw [hf 179 (by decide)]; exact hW
    have mloop : ∀ (v t : Nat) (P : Nat → Prop) (F : Prop) (Q : Int32 → MMw → Prop), v < 4096 → t < q_n W 96 → v.testBit t = false → q_kd W t = k →
        (∀ (M1 : MMw) (f : Bool), Fr [190] M M1 → (f = true ↔ F ∨ ∃ m', m' < q_n W 97 ∧ q_gt W k v t m') → TbP M1 (fun u => P u ∨ ∃ m', m' < q_n W 97 ∧ q_gt W k v t m' ∧ u = q_tmx v t m') → Lq X (callw X D') 246 32 [some (.inr (.inl 178)), some (.inl (nI k)), some (.inl (b2i f)), some (.inl (nI v)), some (.inl (nI (t + 1))), none] (Gk n tot kn kx) M1 Q) →
        ∀ (c m : Nat) (M1 : MMw) (f : Bool), m + c = q_n W 97 → Fr [190] M M1 → (f = true ↔ F ∨ ∃ m', m' < m ∧ q_gt W k v t m') → TbP M1 (fun u => P u ∨ ∃ m', m' < m ∧ q_gt W k v t m' ∧ u = q_tmx v t m') → Lq X (callw X D') 246 71 [some (.inr (.inl 178)), some (.inl (nI k)), some (.inl (b2i f)), some (.inl (nI v)), some (.inl (nI t)), some (.inl (nI m))] (Gk n tot kn kx) M1 Q := by
      intro v t P F Q hv ht hvt hkd hend c
      induction c with
      | zero =>
        intro m M1 f hm hf h1 h2
        refine Lq.of (t_246_71_ok X (callw X D') n tot kn kx _ _ _ _ _ M1) ?_
        unfold t_246_71
        rw [hw M1 hf, w3, if_neg (by rw [lt_i (by omega) (by omega)]; omega), Wq_jmp, i1_nI, nI_add]
        have e : m = q_n W 97 := by omega
        subst e
        exact hend M1 f hf h1 h2
      | succ c ih =>
        intro m M1 f hm hf h1 h2
        refine Lq.of (t_246_71_ok X (callw X D') n tot kn kx _ _ _ _ _ M1) ?_
        unfold t_246_71
        have hmN : m < q_n W 97 := by omega
        have noG : ¬ q_gt W k v t m → Lq X (callw X D') 246 71 [some (.inr (.inl 178)), some (.inl (nI k)), some (.inl (b2i f)), some (.inl (nI v)), some (.inl (nI t)), some (.inl (nI (m + 1)))] (Gk n tot kn kx) M1 Q := fun hg => by
          refine ih (m + 1) M1 f (by omega) hf (h1.trans ?_) (h2.cg (fun u hu => ?_))
          · constructor
            · rintro (h | ⟨m', h, h'⟩)
              · exact Or.inl h
              · exact Or.inr ⟨m', by omega, h'⟩
            · rintro (h | ⟨m', h, h'⟩)
              · exact Or.inl h
              · by_cases e : m' = m
                · subst e; exact absurd h' hg
                · exact Or.inr ⟨m', by omega, h'⟩
          · constructor
            · rintro (h | ⟨m', h, h'⟩)
              · exact Or.inl h
              · exact Or.inr ⟨m', by omega, h'⟩
            · rintro (h | ⟨m', h, h', h''⟩)
              · exact Or.inl h
              · by_cases e : m' = m
                · subst e; exact absurd h' hg
                · exact Or.inr ⟨m', by omega, h', h''⟩
        simp only [o_nI, z_nI]
        rw [hw M1 hf, w3, if_pos (by rw [lt_i (by omega) (by omega)]; omega), nI_add 8 m, nI_tb (by omega) (by omega)]
        cases hb : v.testBit (8 + m) with
        | true =>
          rw [if_pos (by rfl), Wq_jmp, i1_nI, nI_add]
          exact noG (fun hg => by have := hg.2.2.2.1; rw [hb] at this; cases this)
        | false =>
          rw [if_neg (by decide +kernel), nI_mul, nI_add, inb_nI (show 4 * t + m < 32 by omega) (by decide), if_pos rfl, nI_clamp (by omega), hf 191 (by decide), hS t m ht hmN]
          cases hs : q_serve W t m with
          | false =>
            rw [if_pos (by rfl), Wq_jmp, i1_nI, nI_add]
            exact noG (fun hg => by have := hg.2.2.2.2.2; rw [hs] at this; cases this)
          | true =>
            have hl := q_tmx_lt (v := v) (t := t) (m := m) hv (by omega) (by omega)
            have en : nI v ||| nI 1 <<< (nI t &&& 31) ||| nI 256 <<< (nI m &&& 31) = nI (q_tmx v t m) := by
              rw [nI_shl (by omega), nI_shl (by omega), nI_or, nI_or, Nat.one_mul, show 256 * 2 ^ m = 2 ^ (8 + m) by rw [Nat.pow_add]]
              rfl
            have hg : q_gt W k v t m := ⟨ht, hmN, hvt, hb, hkd, hs⟩
            rw [if_neg (by decide +kernel), en, inb_nI hl (by decide), if_pos rfl, nI_clamp (by omega), Wq_jmp, i1_nI, nI_add]
            refine ih (m + 1) _ true (by omega) (hf.up (by decide)) (iff_of_true rfl (Or.inr ⟨m, by omega, hg⟩)) ?_
            refine TbP.set h2 true (fun u hu hne => ?_) (iff_of_true rfl (Or.inr ⟨m, by omega, hg, rfl⟩))
            constructor
            · rintro (h | ⟨m', h, h'⟩)
              · exact Or.inl h
              · exact Or.inr ⟨m', by omega, h'⟩
            · rintro (h | ⟨m', h, h', h''⟩)
              · exact Or.inl h
              · by_cases e : m' = m
                · subst e; exact absurd h'' hne
                · exact Or.inr ⟨m', by omega, h', h''⟩
    have tloop : ∀ (v : Nat) (P : Nat → Prop) (F : Prop) (Q : Int32 → MMw → Prop), v < 4096 →
        (∀ (M1 : MMw) (f : Bool), Fr [190] M M1 → (f = true ↔ F ∨ ∃ t m, q_gt W k v t m) → TbP M1 (fun u => P u ∨ ∃ t m, q_gt W k v t m ∧ u = q_tmx v t m) → Lq X (callw X D') 246 6 [some (.inr (.inl 178)), some (.inl (nI k)), some (.inl (b2i f)), some (.inl (nI v + -1)), none, none] (Gk n tot kn kx) M1 Q) →
        ∀ (c t : Nat) (M1 : MMw) (f : Bool), t + c = q_n W 96 → Fr [190] M M1 → (f = true ↔ F ∨ ∃ t' m', t' < t ∧ q_gt W k v t' m') → TbP M1 (fun u => P u ∨ ∃ t' m', t' < t ∧ q_gt W k v t' m' ∧ u = q_tmx v t' m') → Lq X (callw X D') 246 32 [some (.inr (.inl 178)), some (.inl (nI k)), some (.inl (b2i f)), some (.inl (nI v)), some (.inl (nI t)), none] (Gk n tot kn kx) M1 Q := by
      intro v P F Q hv hend c
      induction c with
      | zero =>
        intro t M1 f ht hf h1 h2
        refine Lq.of (t_246_32_ok X (callw X D') n tot kn kx _ _ _ _ M1) ?_
        unfold t_246_32
        rw [hw M1 hf, w1, if_neg (by rw [lt_i (by omega) (by omega)]; omega), Wq_jmp, im1_nI]
        refine Lq.of (t_246_150_ok X (callw X D') n tot kn kx _ _ _ M1) ?_
        unfold t_246_150
        rw [Wq_jmp]
        refine hend M1 f hf (h1.trans ?_) (h2.cg (fun u hu => ?_))
        · constructor
          · rintro (h | ⟨t', m', h, h'⟩)
            · exact Or.inl h
            · exact Or.inr ⟨t', m', h'⟩
          · rintro (h | ⟨t', m', h'⟩)
            · exact Or.inl h
            · exact Or.inr ⟨t', m', by have := h'.1; omega, h'⟩
        · constructor
          · rintro (h | ⟨t', m', h, h'⟩)
            · exact Or.inl h
            · exact Or.inr ⟨t', m', h'⟩
          · rintro (h | ⟨t', m', h'⟩)
            · exact Or.inl h
            · exact Or.inr ⟨t', m', by have := h'.1.1; omega, h'⟩
      | succ c ih =>
        intro t M1 f ht hf h1 h2
        refine Lq.of (t_246_32_ok X (callw X D') n tot kn kx _ _ _ _ M1) ?_
        unfold t_246_32
        have htN : t < q_n W 96 := by omega
        have kk := (hy.2.2.2.1 t (by omega)).1
        have k4 := kk.2.2.2
        have noT : (∀ m, ¬ q_gt W k v t m) → Lq X (callw X D') 246 32 [some (.inr (.inl 178)), some (.inl (nI k)), some (.inl (b2i f)), some (.inl (nI v)), some (.inl (nI (t + 1))), none] (Gk n tot kn kx) M1 Q := fun hg => by
          refine ih (t + 1) M1 f (by omega) hf (h1.trans ?_) (h2.cg (fun u hu => ?_))
          · constructor
            · rintro (h | ⟨t', m', h, h'⟩)
              · exact Or.inl h
              · exact Or.inr ⟨t', m', by omega, h'⟩
            · rintro (h | ⟨t', m', h, h'⟩)
              · exact Or.inl h
              · by_cases e : t' = t
                · subst e; exact absurd h' (hg m')
                · exact Or.inr ⟨t', m', by omega, h'⟩
          · constructor
            · rintro (h | ⟨t', m', h, h'⟩)
              · exact Or.inl h
              · exact Or.inr ⟨t', m', by omega, h'⟩
            · rintro (h | ⟨t', m', h, h', h''⟩)
              · exact Or.inl h
              · by_cases e : t' = t
                · subst e; exact absurd h' (hg m')
                · exact Or.inr ⟨t', m', by omega, h', h''⟩
        simp only [o_nI]
        rw [hw M1 hf, w1, if_pos (by rw [lt_i (by omega) (by omega)]; omega), nI_tb (by omega) (by omega)]
        cases hb : v.testBit t with
        | true =>
          rw [if_pos (by rfl), Wq_jmp, i1_nI, nI_add]
          exact noT (fun m hg => by have := hg.2.2.1; rw [hb] at this; cases this)
        | false =>
          rw [if_neg (by decide +kernel), m_ofTool (by omega) (by omega), bnd_some, hw M1 hf, Nat.add_zero, kk.2.2.1]
          by_cases e : q_kd W t = k
          · rw [if_pos (by rw [← e]; rfl), Wq_jmp]
            refine mloop v t (fun u => P u ∨ ∃ t' m', t' < t ∧ q_gt W k v t' m' ∧ u = q_tmx v t' m') (F ∨ ∃ t' m', t' < t ∧ q_gt W k v t' m') Q hv htN hb e ?_ (q_n W 97) 0 M1 f (by omega) hf (h1.trans ?_) (h2.cg (fun u hu => ?_))
            · intro M2 f2 hf2 g1 g2
              refine ih (t + 1) M2 f2 (by omega) hf2 (g1.trans ?_) (g2.cg (fun u hu => ?_))
              · constructor
                · rintro ((h | ⟨t', m', h, h'⟩) | ⟨m', h, h'⟩)
                  · exact Or.inl h
                  · exact Or.inr ⟨t', m', by omega, h'⟩
                  · exact Or.inr ⟨t, m', by omega, h'⟩
                · rintro (h | ⟨t', m', h, h'⟩)
                  · exact Or.inl (Or.inl h)
                  · by_cases e : t' = t
                    · subst e; exact Or.inr ⟨m', h'.2.1, h'⟩
                    · exact Or.inl (Or.inr ⟨t', m', by omega, h'⟩)
              · constructor
                · rintro ((h | ⟨t', m', h, h'⟩) | ⟨m', h, h'⟩)
                  · exact Or.inl h
                  · exact Or.inr ⟨t', m', by omega, h'⟩
                  · exact Or.inr ⟨t, m', by omega, h'⟩
                · rintro (h | ⟨t', m', h, h', h''⟩)
                  · exact Or.inl (Or.inl h)
                  · by_cases e : t' = t
                    · subst e; exact Or.inr ⟨m', h'.2.1, h', h''⟩
                    · exact Or.inl (Or.inr ⟨t', m', by omega, h', h''⟩)
            · exact ⟨fun h => Or.inl h, fun h => h.elim id (fun ⟨m', h, _⟩ => absurd h (Nat.not_lt_zero m'))⟩
            · exact ⟨fun h => Or.inl h, fun h => h.elim id (fun ⟨m', h, _⟩ => absurd h (Nat.not_lt_zero m'))⟩
          · rw [if_neg (by
              intro he
              rw [eq_i (by omega) (by omega)] at he
              exact e he), Wq_jmp, i1_nI, nI_add]
            exact noT (fun m hg => e hg.2.2.2.2.1)
    have vloop : ∀ (c : Nat) (M1 : MMw) (f : Bool), c ≤ 4096 → Fr [190] M M1 → (f = true ↔ ∃ v t m, c ≤ v ∧ v < 4096 ∧ R v ∧ q_gt W k v t m) → TbP M1 (fun u => (u < c ∧ R u) ∨ ∃ v t m, c ≤ v ∧ v < 4096 ∧ R v ∧ q_gt W k v t m ∧ u = q_tmx v t m) → Lq X (callw X D') 246 6 [some (.inr (.inl 178)), some (.inl (nI k)), some (.inl (b2i f)), some (.inl (nI c + -1)), none, none] (Gk n tot kn kx) M1 (fun x M' => (∃ b, x = b2i b ∧ (b = true ↔ ∃ v t m, v < 4096 ∧ R v ∧ q_gt W k v t m)) ∧ TbP M' (fun u => ∃ v t m, v < 4096 ∧ R v ∧ q_gt W k v t m ∧ u = q_tmx v t m) ∧ Fr [190] M M') := by
      intro c
      induction c with
      | zero =>
        intro M1 f hc hf h1 h2
        refine Lq.of (t_246_6_ok X (callw X D') n tot kn kx _ _ _ M1) ?_
        unfold t_246_6
        rw [if_pos (by decide +kernel), b2i_nrw, if_pos rfl, Wq_ret]
        refine ⟨⟨f, rfl, h1.trans ?_⟩, h2.cg (fun u hu => ?_), hf⟩
        · exact ⟨fun ⟨v, t, m, _, h⟩ => ⟨v, t, m, h⟩, fun ⟨v, t, m, h⟩ => ⟨v, t, m, Nat.zero_le _, h⟩⟩
        · exact ⟨fun h => h.elim (fun h => absurd h.1 (Nat.not_lt_zero u)) (fun ⟨v, t, m, _, h⟩ => ⟨v, t, m, h⟩), fun ⟨v, t, m, h⟩ => Or.inr ⟨v, t, m, Nat.zero_le _, h⟩⟩
      | succ v ih =>
        intro M1 f hc hf h1 h2
        rw [nI_dec]
        refine Lq.of (t_246_6_ok X (callw X D') n tot kn kx _ _ _ M1) ?_
        unfold t_246_6
        have v4 : v < 4096 := by omega
        obtain ⟨b, b1, b2⟩ := h2 v v4
        have b3 : b = true ↔ R v := b2.trans ⟨fun h => h.elim (fun h => h.2) (fun ⟨v', t, m, g1, _, _, g4, g5⟩ => by have := q_tmx_gt (m := m) g4.2.2.1; omega), fun h => Or.inl ⟨by omega, h⟩⟩
        simp only [o_nI, z_nI]
        rw [if_neg (by rw [lt_i (by omega) (by omega)]; omega), inb_nI v4 (by decide), if_pos rfl, if_pos rfl, nI_clamp (by omega), b1]
        cases b with
        | false =>
          have nR : ¬ R v := fun h => by have := b3.mpr h; cases this
          rw [if_pos (by rfl), Wq_jmp, im1_nI]
          refine Lq.of (t_246_150_ok X (callw X D') n tot kn kx _ _ _ M1) ?_
          unfold t_246_150
          rw [Wq_jmp]
          refine ih M1 f (by omega) hf (h1.trans ?_) (h2.cg (fun u hu => ?_))
          · constructor
            · rintro ⟨v', t, m, g1, g2⟩; exact ⟨v', t, m, by omega, g2⟩
            · rintro ⟨v', t, m, g1, g2⟩
              by_cases e : v' = v
              · subst e; exact absurd g2.2.1 nR
              · exact ⟨v', t, m, by omega, g2⟩
          · constructor
            · rintro (⟨g1, g2⟩ | ⟨v', t, m, g1, g2⟩)
              · by_cases e : u = v
                · subst e; exact absurd g2 nR
                · exact Or.inl ⟨by omega, g2⟩
              · exact Or.inr ⟨v', t, m, by omega, g2⟩
            · rintro (⟨g1, g2⟩ | ⟨v', t, m, g1, g2⟩)
              · exact Or.inl ⟨by omega, g2⟩
              · by_cases e : v' = v
                · subst e; exact absurd g2.2.1 nR
                · exact Or.inr ⟨v', t, m, by omega, g2⟩
        | true =>
          have hRv : R v := b3.mp rfl
          rw [if_neg (by decide +kernel), Wq_jmp]
          refine tloop v (fun u => (u < v ∧ R u) ∨ ∃ v' t m, v + 1 ≤ v' ∧ v' < 4096 ∧ R v' ∧ q_gt W k v' t m ∧ u = q_tmx v' t m) (∃ v' t m, v + 1 ≤ v' ∧ v' < 4096 ∧ R v' ∧ q_gt W k v' t m) _ v4 ?_ (q_n W 96) 0 _ f (by omega) (hf.up (by decide)) (h1.trans ?_) ?_
          · intro M2 f2 hf2 g1 g2
            refine ih M2 f2 (by omega) hf2 (g1.trans ?_) (g2.cg (fun u hu => ?_))
            · constructor
              · rintro (⟨v', t, m, h, h'⟩ | ⟨t, m, h⟩)
                · exact ⟨v', t, m, by omega, h'⟩
                · exact ⟨v, t, m, Nat.le_refl _, v4, hRv, h⟩
              · rintro ⟨v', t, m, h, h'⟩
                by_cases e : v' = v
                · subst e; exact Or.inr ⟨t, m, h'.2.2⟩
                · exact Or.inl ⟨v', t, m, by omega, h'⟩
            · constructor
              · rintro ((h | ⟨v', t, m, h, h'⟩) | ⟨t, m, h⟩)
                · exact Or.inl h
                · exact Or.inr ⟨v', t, m, by omega, h'⟩
                · exact Or.inr ⟨v, t, m, Nat.le_refl _, v4, hRv, h⟩
              · rintro (h | ⟨v', t, m, h, h'⟩)
                · exact Or.inl (Or.inl h)
                · by_cases e : v' = v
                  · subst e; exact Or.inr ⟨t, m, h'.2.2⟩
                  · exact Or.inl (Or.inr ⟨v', t, m, by omega, h'⟩)
          · exact ⟨fun h => Or.inl h, fun h => h.elim id (fun ⟨t', m', h, _⟩ => absurd h (Nat.not_lt_zero t'))⟩
          · refine TbP.set h2 false (fun u hu hne => ?_) ⟨fun h => (by cases h), ?_⟩
            · constructor
              · rintro (⟨g1, g2⟩ | h)
                · exact Or.inl (Or.inl ⟨by omega, g2⟩)
                · exact Or.inl (Or.inr h)
              · rintro ((⟨g1, g2⟩ | h) | ⟨t', m', h, _⟩)
                · exact Or.inl ⟨by omega, g2⟩
                · exact Or.inr h
                · exact absurd h (Nat.not_lt_zero t')
            · rintro ((⟨g1, g2⟩ | ⟨v', t, m, g1, _, _, g4, g5⟩) | ⟨t', m', h, _⟩)
              · omega
              · have := q_tmx_gt (m := m) g4.2.2.1; omega
              · exact absurd h (Nat.not_lt_zero t')
    refine Lq.of (t_246_0_ok X (callw X D') n tot kn kx _ M) ?_
    unfold t_246_0
    rw [Wq_jmp]
    show Lq X (callw X D') 246 6 [some (.inr (.inl 178)), some (.inl (nI k)), some (.inl (b2i false)), some (.inl (nI 4095)), none, none] (Gk n tot kn kx) M _
    rw [← nI_dec 4095]
    refine vloop 4096 M false (Nat.le_refl _) Fr.rf ⟨fun h => (by cases h), fun ⟨v, t, m, h1, h2, _⟩ => by omega⟩ (hR.cg (fun u hu => ⟨fun h => Or.inl ⟨hu, h⟩, ?_⟩))
    rintro (h | ⟨v, t, m, h1, h2, _⟩)
    · exact h.2
    · omega)
end
