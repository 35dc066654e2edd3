section
-- needs: next
/-! the reference reads a token -/
variable {X : KXw} {n tot kn D : Nat} {kx : Nat → Nat × Nat} {M : MMw}
def k_sp (tp : Nat → Nat) (L p : Nat) : Nat := if p < L then k_st tp L p else p
/-- the token at p is read -/
def NxP (tp : Nat → Nat) (L rd p : Nat) (M M' : MMw) : Prop := F8 [17, 18, 19, 20] M M' ∧ M' 178 17 = nI (k_sp tp L p) ∧ M' 178 18 = nI (k_mt rd (k_tok tp L p)) ∧ M' 178 19 = nI p ∧ (k_tok tp L p = 2 → M' 178 20 = nI (k_vn tp p (k_st tp L p - p)))
theorem k_see_t {tp : Nat → Nat} {L i : Nat} (h : i < L) : k_see tp L i = nI (tp i) := if_pos h
theorem k_see_n {tp : Nat → Nat} {L i : Nat} (h : ¬ i < L) : k_see tp L i = -1 := if_neg h
theorem k_mt_s {rd c : Nat} (h1 : 2 < c) (h2 : c < 100) : k_mt rd c = 100 + c := by
  unfold k_mt
  rw [if_neg (by omega), if_pos h2]
theorem m_next0 (hD : 9 ≤ D) {tp : Nat → Nat} {L rd a0 : Nat} (hL : L ≤ 400) (ht : ∀ i, i < L → tp i < 256) (hrd : rd < 4) (hT : TpM M tp L) (h12 : M 178 12 = nI rd) (h17 : M 178 17 = nI a0) (ha0 : a0 ≤ L) : Sq X D 156 [.inr (.inl 178)] (Gk n tot kn kx) M (fun _ M' => NxP tp L rd (k_ab tp L a0) M M') :=
  Sq.mk (k := 8) hD (fun D' hD' => by
    have ctx : ∀ M1 : MMw, F8 [17, 18, 19, 20] M M1 → TpM M1 tp L ∧ M1 178 12 = nI rd := fun M1 hf => ⟨hT.f8 hf (by decide), by rw [hf.2 12 (by decide)]; exact h12⟩
    have letters : ∀ (p : Nat), p < L → k_let (tp p) = true → ∀ (c a : Nat) (M1 : MMw), a + c = L → p ≤ a → k_go (fun j => k_let (tp j)) L a = k_st tp L p → F8 [17, 18, 19, 20] M M1 → M1 178 17 = nI a → M1 178 19 = nI p → Lq X (callw X D') 156 76 [some (.inr (.inl 178)), none, none] (Gk n tot kn kx) M1 (fun _ M' => NxP tp L rd p M M') := by
      intro p hp hlp c
      have fin : ∀ (a : Nat) (M1 : MMw), a ≤ L → p ≤ a → a = k_st tp L p → F8 [17, 18, 19, 20] M M1 → M1 178 17 = nI a → M1 178 19 = nI p → Wq X (callw X D') 156 (Gk n tot kn kx) (fun _ M' => NxP tp L rd p M M') (bnd (callw X D' 154 [.inr (.inl 178)] (Gk n tot kn kx) M1) fun r5 _ M6 => some (.inl (0, Gk n tot kn kx, up M6 178 18 r5))) := fun a M1 ha hpa hst hf e17 e19 => by
        obtain ⟨hT1, e12⟩ := ctx M1 hf
        rw [m_word hD' hrd (by have := (k_wq_is (tp := tp) (p := p) (e := a)).1; omega) e12 (fun D2 hD2 => m_isQ hD2 hL ht hT1 hpa ha e17 e19), bnd_some, Wq_ret]
        have etok : k_tok tp L p = k_cw (k_wq tp p a) := by
          unfold k_tok
          rw [if_pos hp, if_pos hlp, ← hst]
          exact k_cw_eq
        refine ⟨hf.up (by decide), ?_, ?_, ?_, fun h2 => ?_⟩
        · rw [up_at, upW_n (by decide), e17, hst]; unfold k_sp; rw [if_pos hp]
        · rw [up_at, upW_s, etok]
        · rw [up_at, upW_n (by decide)]; exact e19
        · rw [etok] at h2
          unfold k_cw at h2
          split at h2 <;> omega
      induction c with
      | zero =>
        intro a M1 ha hpa hgo hf e17 e19
        obtain ⟨hT1, e12⟩ := ctx M1 hf
        refine Lq.of (t_156_76_ok X (callw X D') n tot kn kx M1) ?_
        unfold t_156_76
        rw [e17, m_see (by omega) hL (by omega) hT1, bnd_some, m_isLet (by omega) ht, bnd_some, decide_eq_false (show ¬ a < L by omega), Bool.false_and, if_pos (by rfl)]
        rw [k_go_e (fun hh => by omega)] at hgo
        exact fin a M1 (by omega) hpa hgo hf e17 e19
      | succ c ih =>
        intro a M1 ha hpa hgo hf e17 e19
        obtain ⟨hT1, e12⟩ := ctx M1 hf
        refine Lq.of (t_156_76_ok X (callw X D') n tot kn kx M1) ?_
        unfold t_156_76
        rw [e17, m_see (by omega) hL (by omega) hT1, bnd_some, m_isLet (by omega) ht, bnd_some, decide_eq_true (show a < L by omega), Bool.true_and]
        cases hl : k_let (tp a) with
        | false =>
          rw [if_pos (by rfl)]
          rw [k_go_e (fun hh => by have := hh.2; rw [hl] at this; cases this)] at hgo
          exact fin a M1 (by omega) hpa hgo hf e17 e19
        | true =>
          rw [if_neg (by decide +kernel), e17, o_nI, nI_add, Wq_jmp]
          rw [k_go_s (p := fun j => k_let (tp j)) (by omega) hl] at hgo
          exact ih (a + 1) _ (by omega) (by omega) hgo (hf.up (by decide)) (by rw [up_at, upW_s]) (by rw [up_at, upW_n (by decide)]; exact e19)
    have digits : ∀ (p : Nat), p < L → k_let (tp p) = false → k_dig (tp p) = true → ∀ (c a : Nat) (M1 : MMw), a + c = L → p ≤ a → (∀ j, p ≤ j → j < a → k_dig (tp j) = true) → k_go (fun j => k_dig (tp j)) L a = k_st tp L p → F8 [17, 18, 19, 20] M M1 → M1 178 17 = nI a → M1 178 19 = nI p → M1 178 20 = k_vI tp p (k_n4 (a - p)) → Lq X (callw X D') 156 126 [some (.inr (.inl 178)), none, none] (Gk n tot kn kx) M1 (fun _ M' => NxP tp L rd p M M') := by
      intro p hp hlp hdp c
      have fin : ∀ (a : Nat) (M1 : MMw), a ≤ L → p ≤ a → a = k_st tp L p → (∀ j, p ≤ j → j < a → k_dig (tp j) = true) → F8 [17, 18, 19, 20] M M1 → M1 178 17 = nI a → M1 178 19 = nI p → M1 178 20 = k_vI tp p (k_n4 (a - p)) → Wq X (callw X D') 156 (Gk n tot kn kx) (fun _ M' => NxP tp L rd p M M') (if M1 178 17 - M1 178 19 < Int32.ofNat 5 then some (.inl (0, Gk n tot kn kx, up M1 178 18 (Int32.ofNat 2))) else some (.inl (0, Gk n tot kn kx, up M1 178 18 (Int32.ofNat 1)))) := fun a M1 ha hpa hst hdd hf e17 e19 e20 => by
        simp only [o_nI]
        rw [e17, e19, nI_sub hpa]
        simp (disch := omega) only [lt_i, eq_i]
        have etok : k_tok tp L p = if a - p ≤ 4 then 2 else 1 := by
          unfold k_tok
          rw [if_pos hp, hlp, if_neg (by decide), if_pos hdp, ← hst]
        have esp : k_sp tp L p = a := by unfold k_sp; rw [if_pos hp]; exact hst.symm
        by_cases h4 : a - p ≤ 4
        · rw [if_pos (by omega), Wq_ret]
          rw [if_pos h4] at etok
          rw [show k_n4 (a - p) = a - p by have := k_n4_b (a - p); omega] at e20
          refine ⟨hf.up (by decide), ?_, ?_, ?_, fun _ => ?_⟩
          · rw [up_at, upW_n (by decide), e17, esp]
          · rw [up_at, upW_s, etok]; rfl
          · rw [up_at, upW_n (by decide)]; exact e19
          · rw [up_at, upW_n (by decide), e20, ← hst]
            exact k_vI_eq (fun j hj => hdd (p + j) (by omega) (by omega))
        · rw [if_neg (by omega), Wq_ret]
          rw [if_neg h4] at etok
          refine ⟨hf.up (by decide), ?_, ?_, ?_, fun h2 => ?_⟩
          · rw [up_at, upW_n (by decide), e17, esp]
          · rw [up_at, upW_s, etok]; rfl
          · rw [up_at, upW_n (by decide)]; exact e19
          · rw [etok] at h2; cases h2
      induction c with
      | zero =>
        intro a M1 ha hpa hdd hgo hf e17 e19 e20
        obtain ⟨hT1, e12⟩ := ctx M1 hf
        refine Lq.of (t_156_126_ok X (callw X D') n tot kn kx M1) ?_
        unfold t_156_126
        have hfin := fin a M1 (by omega) hpa (by rw [k_go_e (fun hh => by omega)] at hgo; exact hgo) hdd hf e17 e19 e20
        rw [show callw X D' 147 [.inr (.inl 178), .inl (M1 178 17)] (Gk n tot kn kx) M1 = some (k_see tp L a, Gk n tot kn kx, M1) by rw [e17]; exact m_see (by omega) hL (by omega) hT1, bnd_some, m_isDig (by omega) ht, bnd_some, decide_eq_false (show ¬ a < L by omega), Bool.false_and, if_pos (by rfl)]
        exact hfin
      | succ c ih =>
        intro a M1 ha hpa hdd hgo hf e17 e19 e20
        obtain ⟨hT1, e12⟩ := ctx M1 hf
        refine Lq.of (t_156_126_ok X (callw X D') n tot kn kx M1) ?_
        unfold t_156_126
        have hsee : callw X D' 147 [.inr (.inl 178), .inl (M1 178 17)] (Gk n tot kn kx) M1 = some (k_see tp L a, Gk n tot kn kx, M1) := by rw [e17]; exact m_see (by omega) hL (by omega) hT1
        rw [hsee, bnd_some, m_isDig (by omega) ht, bnd_some, decide_eq_true (show a < L by omega), Bool.true_and]
        cases hl : k_dig (tp a) with
        | false =>
          rw [if_pos (by rfl)]
          exact fin a M1 (by omega) hpa (by rw [k_go_e (fun hh => by have := hh.2; rw [hl] at this; cases this)] at hgo; exact hgo) hdd hf e17 e19 e20
        | true =>
          rw [k_go_s (p := fun j => k_dig (tp j)) (by omega) hl] at hgo
          have hdd2 : ∀ j, p ≤ j → j < a + 1 → k_dig (tp j) = true := fun j j1 j2 => by
            by_cases e : j = a
            · rw [e]; exact hl
            · exact hdd j j1 (by omega)
          rw [if_neg (by decide +kernel)]
          simp only [o_nI]
          by_cases h4 : a < p + 4
          · rw [if_pos (by rw [e17, e19, nI_add, lt_i (by omega) (by omega)]; exact h4), hsee, bnd_some, k_see_t (by omega), Wq_jmp]
            refine ih (a + 1) _ (by omega) (by omega) hdd2 hgo ((hf.up (by decide)).up (by decide)) ?_ ?_ ?_
            · rw [up_at, upW_s, up_at, upW_n (by decide), e17, nI_add]
            · rw [up_at, upW_n (by decide), up_at, upW_n (by decide)]; exact e19
            · rw [up_at, upW_n (by decide), up_at, upW_s, e20, show k_n4 (a + 1 - p) = k_n4 (a - p) + 1 by have := k_n4_b (a - p); have := k_n4_b (a + 1 - p); omega, k_vI, show k_n4 (a - p) = a - p by have := k_n4_b (a - p); omega, show p + (a - p) = a by omega]
          · rw [if_neg (by rw [e17, e19, nI_add, lt_i (by omega) (by omega)]; exact h4), Wq_jmp]
            refine ih (a + 1) _ (by omega) (by omega) hdd2 hgo (hf.up (by decide)) ?_ ?_ ?_
            · rw [up_at, upW_s, e17, nI_add]
            · rw [up_at, upW_n (by decide)]; exact e19
            · rw [up_at, upW_n (by decide), e20]
              congr 1
              have := k_n4_b (a - p)
              have := k_n4_b (a + 1 - p)
              omega
    have start : ∀ (a : Nat) (M1 : MMw), a ≤ L → ¬ (a < L ∧ k_blk (tp a) = true) → F8 [17, 18, 19, 20] M M1 → M1 178 17 = nI a → Lq X (callw X D') 156 0 [some (.inr (.inl 178)), none, none] (Gk n tot kn kx) M1 (fun _ M' => NxP tp L rd a M M') := by
      intro a M1 ha hb hf e17
      obtain ⟨hT1, e12⟩ := ctx M1 hf
      refine Lq.of (t_156_0_ok X (callw X D') n tot kn kx M1) ?_
      unfold t_156_0
      have hsee : callw X D' 147 [.inr (.inl 178), .inl (M1 178 17)] (Gk n tot kn kx) M1 = some (k_see tp L a, Gk n tot kn kx, M1) := by rw [e17]; exact m_see (by omega) hL ha hT1
      have hf2 : F8 [17, 18, 19, 20] M (up M1 178 19 (M1 178 17)) := hf.up (by decide)
      obtain ⟨hT2, _⟩ := ctx _ hf2
      have e172 : up M1 178 19 (M1 178 17) 178 17 = nI a := by rw [up_at, upW_n (by decide)]; exact e17
      have e192 : up M1 178 19 (M1 178 17) 178 19 = nI a := by rw [up_at, upW_s]; exact e17
      have hsee2 : callw X D' 147 [.inr (.inl 178), .inl (up M1 178 19 (M1 178 17) 178 17)] (Gk n tot kn kx) (up M1 178 19 (M1 178 17)) = some (k_see tp L a, Gk n tot kn kx, up M1 178 19 (M1 178 17)) := by rw [e172]; exact m_see (by omega) hL ha hT2
      rw [hsee, bnd_some]
      simp only [o_nI]
      by_cases hl : a < L
      · have hbt := ht a hl
        have hb2 : ¬ (tp a = 32) ∧ ¬ (tp a = 10) := by
          constructor
          · intro e; exact hb ⟨hl, by unfold k_blk; rw [e]; rfl⟩
          · intro e; exact hb ⟨hl, by unfold k_blk; rw [e]; rfl⟩
        rw [k_see_t hl, if_neg (by rw [eq_i (by omega) (by omega)]; exact hb2.1), hsee, bnd_some, k_see_t hl, if_neg (by rw [eq_i (by omega) (by omega)]; exact hb2.2), hsee2, bnd_some, if_neg (by rw [k_see_t hl, nI_inj (by omega) (by omega)]; omega), m_isLet (by omega) ht, bnd_some, decide_eq_true hl, Bool.true_and]
        cases hlet : k_let (tp a) with
        | true =>
          rw [if_neg (by decide +kernel), Wq_jmp]
          exact letters a hl hlet (L - a) a _ (by omega) (Nat.le_refl _) (by unfold k_st; rw [hlet, if_pos rfl, k_go_s (p := fun j => k_let (tp j)) hl hlet]) hf2 e172 e192
        | false =>
          rw [if_pos (by rfl), m_isDig (by omega) ht, bnd_some, decide_eq_true hl, Bool.true_and]
          cases hdig : k_dig (tp a) with
          | true =>
            rw [if_neg (by decide +kernel), Wq_jmp]
            exact digits a hl hlet hdig (L - a) a _ (by omega) (Nat.le_refl _) (fun j j1 j2 => by omega) (by unfold k_st; rw [hlet, if_neg (by decide), hdig, if_pos rfl, k_go_s (p := fun j => k_dig (tp j)) hl hdig]) (hf2.up (by decide)) (by rw [up_at, upW_n (by decide)]; exact e172) (by rw [up_at, upW_n (by decide)]; exact e192) (by rw [up_at, upW_s, Nat.sub_self]; rfl)
          | false =>
            rw [if_pos (by rfl), k_see_t hl, e172]
            have est : k_st tp L a = a + 1 := by
              unfold k_st
              rw [hlet, if_neg (by decide), hdig, if_neg (by decide)]
            have esp : k_sp tp L a = a + 1 := by unfold k_sp; rw [if_pos hl, est]
            have etok : k_tok tp L a = if k_sgn (tp a) = true then tp a else 1 := by
              unfold k_tok
              rw [if_pos hl, hlet, if_neg (by decide), hdig, if_neg (by decide)]
            have good : k_sgn (tp a) = true → Wq X (callw X D') 156 (Gk n tot kn kx) (fun _ M' => NxP tp L rd a M M') (some (.inl (0, Gk n tot kn kx, up (up (up M1 178 19 (M1 178 17)) 178 17 (nI a + nI 1)) 178 18 (nI 100 + nI (tp a))))) := fun hs => by
              have hr := k_sgn_r _ hbt hs
              rw [if_pos hs] at etok
              rw [Wq_ret]
              refine ⟨(hf2.up (by decide)).up (by decide), ?_, ?_, ?_, fun h2 => ?_⟩
              · rw [up_at, upW_n (by decide), up_at, upW_s, nI_add, esp]
              · rw [up_at, upW_s, nI_add, etok, k_mt_s (by omega) (by omega)]
              · rw [up_at, upW_n (by decide), up_at, upW_n (by decide)]; exact e192
              · omega
            by_cases s59 : tp a = 59
            · rw [if_pos (by rw [s59])]
              exact good (by rw [s59]; decide)
            rw [if_neg (by rw [eq_i (by omega) (by omega)]; exact s59)]
            by_cases s43 : tp a = 43
            · rw [if_pos (by rw [s43])]
              exact good (by rw [s43]; decide)
            rw [if_neg (by rw [eq_i (by omega) (by omega)]; exact s43)]
            by_cases s45 : tp a = 45
            · rw [if_pos (by rw [s45])]
              exact good (by rw [s45]; decide)
            rw [if_neg (by rw [eq_i (by omega) (by omega)]; exact s45)]
            by_cases s42 : tp a = 42
            · rw [if_pos (by rw [s42])]
              exact good (by rw [s42]; decide)
            rw [if_neg (by rw [eq_i (by omega) (by omega)]; exact s42)]
            by_cases s47 : tp a = 47
            · rw [if_pos (by rw [s47])]
              exact good (by rw [s47]; decide)
            rw [if_neg (by rw [eq_i (by omega) (by omega)]; exact s47)]
            by_cases s40 : tp a = 40
            · rw [if_pos (by rw [s40])]
              exact good (by rw [s40]; decide)
            rw [if_neg (by rw [eq_i (by omega) (by omega)]; exact s40)]
            by_cases s41 : tp a = 41
            · rw [if_pos (by rw [s41])]
              exact good (by rw [s41]; decide)
            rw [if_neg (by rw [eq_i (by omega) (by omega)]; exact s41)]
            by_cases s60 : tp a = 60
            · rw [if_pos (by rw [s60])]
              exact good (by rw [s60]; decide)
            rw [if_neg (by rw [eq_i (by omega) (by omega)]; exact s60)]
            by_cases s61 : tp a = 61
            · rw [if_pos (by rw [s61])]
              exact good (by rw [s61]; decide)
            rw [if_neg (by rw [eq_i (by omega) (by omega)]; exact s61)]
            by_cases s62 : tp a = 62
            · rw [if_pos (by rw [s62])]
              exact good (by rw [s62]; decide)
            rw [if_neg (by rw [eq_i (by omega) (by omega)]; exact s62)]
            have hs : k_sgn (tp a) = false := by
              cases hh : k_sgn (tp a) with
              | false => rfl
              | true =>
                unfold k_sgn at hh
                rw [List.contains_iff_mem] at hh
                simp only [List.mem_cons, List.not_mem_nil, or_false] at hh
                omega
            rw [hs, if_neg (by decide)] at etok
            rw [Wq_ret]
            refine ⟨(hf2.up (by decide)).up (by decide), ?_, ?_, ?_, fun h2 => ?_⟩
            · rw [up_at, upW_n (by decide), up_at, upW_s, nI_add, esp]
            · rw [up_at, upW_s, etok]; rfl
            · rw [up_at, upW_n (by decide), up_at, upW_n (by decide)]; exact e192
            · omega
      · rw [k_see_n hl, if_neg (by decide +kernel), hsee, bnd_some, k_see_n hl, if_neg (by decide +kernel), hsee2, bnd_some, k_see_n hl, if_pos (by rw [m1n]), Wq_ret]
        have etok : k_tok tp L a = 0 := by unfold k_tok; rw [if_neg hl]
        refine ⟨hf2.up (by decide), ?_, ?_, ?_, fun h2 => ?_⟩
        · rw [up_at, upW_n (by decide), e172]; unfold k_sp; rw [if_neg hl]
        · rw [up_at, upW_s, etok]; rfl
        · rw [up_at, upW_n (by decide)]; exact e192
        · omega
    have loop : ∀ (c a : Nat) (M1 : MMw), a + c = L → F8 [17, 18, 19, 20] M M1 → M1 178 17 = nI a → Lq X (callw X D') 156 0 [some (.inr (.inl 178)), none, none] (Gk n tot kn kx) M1 (fun _ M' => NxP tp L rd (k_ab tp L a) M M') := by
      intro c
      induction c with
      | zero =>
        intro a M1 ha hf e17
        have e : k_ab tp L a = a := k_go_e (fun hh => by omega)
        rw [e]
        exact start a M1 (by omega) (fun hh => by omega) hf e17
      | succ c ih =>
        intro a M1 ha hf e17
        by_cases hb : k_blk (tp a) = true
        · have e : k_ab tp L a = k_ab tp L (a + 1) := k_go_s (by omega) hb
          rw [e]
          obtain ⟨hT1, e12⟩ := ctx M1 hf
          have hbt := ht a (by omega)
          have hsee : callw X D' 147 [.inr (.inl 178), .inl (M1 178 17)] (Gk n tot kn kx) M1 = some (k_see tp L a, Gk n tot kn kx, M1) := by rw [e17]; exact m_see (by omega) hL (by omega) hT1
          have hn := ih (a + 1) (up M1 178 17 (nI (a + 1))) (by omega) (hf.up (by decide)) (by rw [up_at, upW_s])
          refine Lq.of (t_156_0_ok X (callw X D') n tot kn kx M1) ?_
          unfold t_156_0
          simp only [o_nI]
          rw [hsee, bnd_some, k_see_t (by omega)]
          by_cases h32 : tp a = 32
          · rw [if_pos (by rw [h32]), Wq_jmp, e17, nI_add]
            exact hn
          · rw [if_neg (by rw [eq_i (by omega) (by omega)]; exact h32), hsee, bnd_some, k_see_t (by omega)]
            have h10 : tp a = 10 := by
              unfold k_blk at hb
              rw [decide_eq_false h32, Bool.false_or, decide_eq_true_eq] at hb
              exact hb
            rw [if_pos (by rw [h10]), Wq_jmp, e17, nI_add]
            exact hn
        · have e : k_ab tp L a = a := k_go_e (fun hh => hb hh.2)
          rw [e]
          exact start a M1 (by omega) (fun hh => hb hh.2) hf e17
    exact loop (L - a0) a0 M (by omega) F8.rf h17)
/-- the reference stands at token k -/
def MdT (tp : Nat → Nat) (L rd : Nat) (M : MMw) (k : Nat) : Prop := TpM M tp L ∧ M 178 12 = nI rd ∧ M 178 17 = nI (k_sp tp L (k_pl tp L k)) ∧ M 178 18 = nI (k_mt rd (k_tk tp L k)) ∧ M 178 19 = nI (k_pl tp L k) ∧ (k_tk tp L k = 2 → M 178 20 = nI (k_vl tp L k))
theorem m_first (hD : 9 ≤ D) {tp : Nat → Nat} {L rd : Nat} (hL : L ≤ 400) (ht : ∀ i, i < L → tp i < 256) (hrd : rd < 4) (hT : TpM M tp L) (h12 : M 178 12 = nI rd) (h17 : M 178 17 = nI 0) : Sq X D 156 [.inr (.inl 178)] (Gk n tot kn kx) M (fun _ M' => F8 [17, 18, 19, 20] M M' ∧ MdT tp L rd M' 0) := by
  refine Sq.mono (m_next0 hD hL ht hrd hT h12 h17 (Nat.zero_le _)) ?_
  rintro x M' ⟨h1, h2, h3, h4, h5⟩
  exact ⟨h1, hT.f8 h1 (by decide), by rw [h1.2 12 (by decide)]; exact h12, h2, h3, h4, h5⟩
theorem m_nextK (hD : 9 ≤ D) {tp : Nat → Nat} {L rd k : Nat} (hL : L ≤ 400) (ht : ∀ i, i < L → tp i < 256) (hrd : rd < 4) (h : MdT tp L rd M k) : Sq X D 156 [.inr (.inl 178)] (Gk n tot kn kx) M (fun _ M' => F8 [17, 18, 19, 20] M M' ∧ MdT tp L rd M' (k + 1)) := by
  obtain ⟨hT, h12, h17, _⟩ := h
  have pb := (k_pl_b (tp := tp) (L := L) k).1
  have hle : k_sp tp L (k_pl tp L k) ≤ L := by
    unfold k_sp
    split
    · rename_i hh; exact (k_st_b hh).2
    · exact pb
  have e : k_ab tp L (k_sp tp L (k_pl tp L k)) = k_pl tp L (k + 1) := by
    rw [k_pl]
    unfold k_sp
    by_cases hh : k_pl tp L k < L
    · rw [if_pos hh, if_pos hh]
    · rw [if_neg hh, if_neg hh]
      exact k_go_e (fun h => hh h.1)
  refine Sq.mono (m_next0 hD hL ht hrd hT h12 h17 hle) ?_
  rintro x M' ⟨h1, h2, h3, h4, h5⟩
  rw [e] at h2 h3 h4 h5
  exact ⟨h1, hT.f8 h1 (by decide), by rw [h1.2 12 (by decide)]; exact h12, h2, h3, h4, h5⟩
end
