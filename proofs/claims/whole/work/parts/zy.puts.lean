section
-- needs: rota2
/-! what a text changes of the row -/
/-- where law k stands in the row -/
abbrev LwX (k i : Nat) : Prop := i = 100 + k ∨ (266 + 16 * k ≤ i ∧ i < 282 + 16 * k) ∨ (298 + 16 * k ≤ i ∧ i < 314 + 16 * k) ∨ (330 + 16 * k ≤ i ∧ i < 346 + 16 * k) ∨ (362 + 16 * k ≤ i ∧ i < 378 + 16 * k) ∨ (394 + 820 * k ≤ i ∧ i < 1214 + 820 * k)
theorem CRcrew.cg {M M' : MMw} {c : Nat} {W W' : Nat → Int32} (hM : ∀ d, c ≤ d → d ≤ c + 7 → M' d = M d) (hW : ∀ i, (16 ≤ i ∧ i < 98) ∨ i = 102 ∨ i = 103 ∨ (130 ≤ i ∧ i < 138) → W' i = W i) (h : CRcrew M c W) : CRcrew M' c W' := by
  obtain ⟨h1, h2, h3, h4, a1, a2, a3, a4, a5, a6, a7⟩ := h
  refine ⟨?_, ?_, ?_, ?_, a1.ch (hM _ (by omega) (by omega)) ?_, a2.ch (hM _ (by omega) (by omega)) ?_, a3.ch (hM _ (by omega) (by omega)) ?_, a4.ch (hM _ (by omega) (by omega)) ?_, a5.ch (hM _ (by omega) (by omega)) ?_, a6.ch (hM _ (by omega) (by omega)) ?_, a7.ch (hM _ (by omega) (by omega)) ?_⟩
  · rw [hM _ (by omega) (by omega), h1, hW _ (by omega)]
  · rw [hM _ (by omega) (by omega), h2, hW _ (by omega)]
  · rw [hM _ (by omega) (by omega), h3, hW _ (by omega)]
  · rw [hM _ (by omega) (by omega), h4, hW _ (by omega)]
  all_goals (intro t ht; exact hW _ (by omega))
theorem CRhull.cg {M M' : MMw} {c : Nat} {W W' : Nat → Int32} (hM : ∀ d, c ≤ d → d ≤ c + 5 → M' d = M d) (hW : ∀ i, i = 98 ∨ (104 ≤ i ∧ i < 130) ∨ (142 ≤ i ∧ i < 166) → W' i = W i) (hn : q_n W 98 ≤ 8) (hn2 : q_n W 104 ≤ 12) (h : CRhull M c W) : CRhull M' c W' := by
  obtain ⟨h1, h2, a1, a2, a3, a4, a5⟩ := h
  have w98 : q_n W' 98 = q_n W 98 := q_n_eq (hW _ (by omega))
  have w104 : q_n W' 104 = q_n W 104 := q_n_eq (hW _ (by omega))
  refine ⟨?_, ?_, ?_, ?_, ?_, ?_, ?_⟩
  · rw [hM _ (by omega) (by omega), h1, hW _ (by omega)]
  · rw [hM _ (by omega) (by omega), h2, hW _ (by omega)]
  · rw [w98]; exact a1.ch (hM _ (by omega) (by omega)) (fun t ht => hW _ (by omega))
  · rw [w98]; exact a2.ch (hM _ (by omega) (by omega)) (fun t ht => hW _ (by omega))
  · rw [w98]; exact a3.ch (hM _ (by omega) (by omega)) (fun t ht => hW _ (by omega))
  · rw [w104]; exact a4.ch (hM _ (by omega) (by omega)) (fun t ht => hW _ (by omega))
  · rw [w104]; exact a5.ch (hM _ (by omega) (by omega)) (fun t ht => hW _ (by omega))
theorem CRrota.cg {M M' : MMw} {c : Nat} {W W' : Nat → Int32} (hM : ∀ d, c ≤ d → d ≤ c + 5 → M' d = M d) (hW : ∀ i, i = 99 ∨ (166 ≤ i ∧ i < 266) → W' i = W i) (hn : q_n W 99 ≤ 20) (h : CRrota M c W) : CRrota M' c W' := by
  obtain ⟨h1, a1, a2, a3, a4, a5⟩ := h
  have w99 : q_n W' 99 = q_n W 99 := q_n_eq (hW _ (by omega))
  refine ⟨?_, ?_, ?_, ?_, ?_, ?_⟩
  · rw [hM _ (by omega) (by omega), h1, hW _ (by omega)]
  all_goals rw [w99]
  · exact a1.ch (hM _ (by omega) (by omega)) (fun t ht => hW _ (by omega))
  · exact a2.ch (hM _ (by omega) (by omega)) (fun t ht => hW _ (by omega))
  · exact a3.ch (hM _ (by omega) (by omega)) (fun t ht => hW _ (by omega))
  · exact a4.ch (hM _ (by omega) (by omega)) (fun t ht => hW _ (by omega))
  · exact a5.ch (hM _ (by omega) (by omega)) (fun t ht => hW _ (by omega))
theorem q_S_cg {W W' : Nat → Int32} {k i : Nat} (hW : ∀ i, LwX k i → W' i = W i) (hk : k < 2) (hi : i < 410) : q_S W' k i = q_S W k i := by
  unfold q_S
  rw [hW _ (by unfold LwX; omega), hW _ (by unfold LwX; omega)]
theorem q_law.cg {W W' C : Nat → Int32} {k : Nat} (hk : k < 2) (hW : ∀ i, LwX k i → W' i = W i) (h : q_law W k C) : q_law W' k C := by
  obtain ⟨l, hl, hw, h2⟩ := h
  refine ⟨l, hl, by rw [hW _ (by unfold LwX; omega)]; exact hw, fun i hi => ?_⟩
  obtain ⟨f, m, t, w, h1, h2, h3, h4, h5, h6, h7, h8, h9, h10, h11⟩ := h2 i hi
  refine ⟨f, m, t, w, h1, h2, h3, ?_, ?_, ?_, ?_, h8, h9, fun a => ?_, fun a => ?_⟩
  · rw [hW _ (by unfold LwX; omega)]; exact h4
  · rw [hW _ (by unfold LwX; omega)]; exact h5
  · rw [hW _ (by unfold LwX; omega)]; exact h6
  · rw [hW _ (by unfold LwX; omega)]; exact h7
  · exact q_wf_cong (fun j a b => ⟨(q_S_cg hW hk (by omega)).symm, rfl⟩) (h10 a)
  · exact q_wf_cong (fun j a b => ⟨(q_S_cg hW hk (by omega)).symm, rfl⟩) (h11 a)
theorem CRlaw.cg {M M' : MMw} {c k : Nat} {W W' : Nat → Int32} (hk : k < 2) (hM : ∀ d, c ≤ d → d ≤ c + 5 → M' d = M d) (hW : ∀ i, LwX k i → W' i = W i) (h : CRlaw M c W k) : CRlaw M' c W' k := by
  obtain ⟨h1, h5, h6⟩ := h
  have hc := h6.cnt.2
  have w99 : W' (100 + k) = W (100 + k) := hW _ (by unfold LwX; omega)
  refine ⟨?_, ?_, ?_⟩
  · rw [hM _ (by omega) (by omega), h1, w99]
  · intro t ht
    rw [q_n_eq w99] at ht
    obtain ⟨a1, a2, a3, a4⟩ := h5 t ht
    refine ⟨?_, ?_, ?_, ?_⟩
    · rw [hM _ (by omega) (by omega), a1, hW _ (by unfold LwX; omega)]
    · rw [hM _ (by omega) (by omega), a2, hW _ (by unfold LwX; omega)]
    · rw [hM _ (by omega) (by omega), a3, hW _ (by unfold LwX; omega)]
    · rw [hM _ (by omega) (by omega), a4, hW _ (by unfold LwX; omega)]
  · rw [hM _ (by omega) (by omega)]; exact h6.cg hk hW
theorem q_top.cg {W W' : Nat → Int32} (hW : ∀ i, (i < 266 ∧ i ≠ 100 ∧ i ≠ 101) → W' i = W i) (h : q_top W) : q_top W' := by
  obtain ⟨a, b, c, d, e⟩ := h
  exact ⟨q_lt_eq (hW _ (by omega)) a, q_lt_eq (hW _ (by omega)) b, q_lt_eq (hW _ (by omega)) c, q_lt_eq (hW _ (by omega)) d, q_lt_eq (hW _ (by omega)) e⟩
theorem q_kb.cg {W W' : Nat → Int32} {t : Nat} (hW : ∀ i, (i < 266 ∧ i ≠ 100 ∧ i ≠ 101) → W' i = W i) (ht : t < 8) (h : q_kb W t) : q_kb W' t := by
  have e1 : W' (17 + 10 * t) = W (17 + 10 * t) := hW _ (by omega)
  have e2 : W' (16 + 10 * t) = W (16 + 10 * t) := hW _ (by omega)
  unfold q_kb
  rw [q_n_eq e1, q_n_eq e2, e1, e2]
  exact h
theorem q_invY.cg {W W' : Nat → Int32} (hW : ∀ i, (i < 266 ∧ i ≠ 100 ∧ i ≠ 101) → W' i = W i) (h : q_invY W) : q_invY W' := by
  obtain ⟨h0, h1, h2, h3, h4, h5, h6, h7⟩ := h
  obtain ⟨t1, t2, t3, t4, t5⟩ := id h0
  have b1 := t1.2; have b2 := t2.2; have b3 := t3.2; have b4 := t4.2; have b5 := t5.2
  have e96 : q_n W' 96 = q_n W 96 := q_n_eq (hW _ (by omega))
  have e97 : q_n W' 97 = q_n W 97 := q_n_eq (hW _ (by omega))
  have e98 : q_n W' 98 = q_n W 98 := q_n_eq (hW _ (by omega))
  have e99 : q_n W' 99 = q_n W 99 := q_n_eq (hW _ (by omega))
  have e104 : q_n W' 104 = q_n W 104 := q_n_eq (hW _ (by omega))
  refine ⟨h0.cg hW, q_lt_eq (hW _ (by omega)) h1, q_lt_eq (hW _ (by omega)) h2, fun t ht => ?_, fun m hm => ?_, fun i hi => ?_, fun j hj => ?_, fun i hi => ?_⟩
  · obtain ⟨a, b, c, d⟩ := h3 t ht
    exact ⟨a.cg hW ht, q_lt_eq (hW _ (by omega)) b, q_lt_eq (hW _ (by omega)) c, q_lt_eq (hW _ (by omega)) d⟩
  · obtain ⟨a, b⟩ := h4 m hm
    exact ⟨q_lt_eq (hW _ (by omega)) a, q_lt_eq (hW _ (by omega)) b⟩
  · rw [e98] at hi
    obtain ⟨a, b, c, d⟩ := h5 i hi
    refine ⟨q_lt_eq (hW _ (by omega)) a, q_lt_eq (hW _ (by omega)) b, ?_, q_lt_eq (hW _ (by omega)) d⟩
    rw [q_n_eq (hW (143 + 3 * i) (by omega))]
    exact c
  · rw [e104] at hj
    obtain ⟨a, b, c⟩ := h6 j hj
    rw [e98]
    refine ⟨q_lt_eq (hW _ (by omega)) a, q_lt_eq (hW _ (by omega)) b, ?_⟩
    rw [q_n_eq (hW (105 + 2 * j) (by omega)), q_n_eq (hW (106 + 2 * j) (by omega))]
    exact c
  · rw [e99] at hi
    obtain ⟨a, b, c, d, e, f⟩ := h7 i hi
    rw [e96, e97, e98]
    refine ⟨q_lt_eq (hW _ (by omega)) a, q_lt_eq (hW _ (by omega)) b, q_lt_eq (hW _ (by omega)) c, q_lt_eq (hW _ (by omega)) d, q_lt_eq (hW _ (by omega)) e, ?_⟩
    rw [q_n_eq (hW (170 + 5 * i) (by omega))]
    exact f
theorem q_invM.cg {W W' : Nat → Int32} (hW : ∀ i, i < 97 ∨ i = 98 ∨ (142 ≤ i ∧ i < 166) → W' i = W i) (hn : q_n W 98 ≤ 8) (h : q_invM W) : q_invM W' := by
  obtain ⟨h1, h2, h3, h4, h5⟩ := h
  have e96 : q_n W' 96 = q_n W 96 := q_n_eq (hW _ (by omega))
  have e98 : q_n W' 98 = q_n W 98 := q_n_eq (hW _ (by omega))
  refine ⟨q_lt_eq (hW _ (by omega)) h1, q_lt_eq (hW _ (by omega)) h2, fun b hb => q_lt_eq (hW _ (by omega)) (h3 b hb), fun t ht => ?_, fun i hi => ?_⟩
  · obtain ⟨a, b, c⟩ := h4 t ht
    refine ⟨q_lt_eq (hW _ (by omega)) a, q_lt_eq (hW _ (by omega)) b, ?_⟩
    rw [e96, hW _ (by omega)]; exact c
  · rw [e98] at hi
    obtain ⟨a, b, c⟩ := h5 i hi
    refine ⟨q_lt_eq (hW _ (by omega)) a, ?_⟩
    rw [q_n_eq (hW (8 + i) (by omega)), q_n_eq (hW (143 + 3 * i) (by omega))]; exact ⟨b, c.cg (by omega) (fun k hk => hW k (by omega))⟩
theorem q_invY.build {W W' : Nat → Int32} (h : q_invY W) (hW : ∀ i, (16 ≤ i ∧ i < 98) ∨ i = 102 ∨ i = 103 ∨ (130 ≤ i ∧ i < 138) → W' i = W i) (n98 : q_lt W' 98 9) (n99 : q_lt W' 99 21) (n104 : q_lt W' 104 13)
    (hw : ∀ i, i < q_n W' 98 → q_lt W' (142 + 3 * i) 4 ∧ q_lt W' (143 + 3 * i) 4 ∧ 1 ≤ q_n W' (143 + 3 * i) ∧ q_lt W' (144 + 3 * i) (2 ^ i))
    (hc : ∀ j, j < q_n W' 104 → q_lt W' (105 + 2 * j) (q_n W' 98) ∧ q_lt W' (106 + 2 * j) (q_n W' 98) ∧ q_n W' (105 + 2 * j) ≠ q_n W' (106 + 2 * j))
    (hr : ∀ i, i < q_n W' 99 → q_lt W' (166 + 5 * i) (q_n W' 96) ∧ q_lt W' (167 + 5 * i) (q_n W' 97) ∧ q_lt W' (168 + 5 * i) (q_n W' 98) ∧ q_lt W' (169 + 5 * i) 10000 ∧ q_lt W' (170 + 5 * i) 100 ∧ 1 ≤ q_n W' (170 + 5 * i)) : q_invY W' := by
  obtain ⟨⟨t1, t2, _, _, _⟩, h1, h2, h3, h4, _, _, _⟩ := h
  refine ⟨⟨q_lt_eq (hW _ (by omega)) t1, q_lt_eq (hW _ (by omega)) t2, n98, n99, n104⟩, q_lt_eq (hW _ (by omega)) h1, q_lt_eq (hW _ (by omega)) h2, fun t ht => ?_, fun m hm => ?_, hw, hc, hr⟩
  · obtain ⟨a, b, c, d⟩ := h3 t ht
    refine ⟨?_, q_lt_eq (hW _ (by omega)) b, q_lt_eq (hW _ (by omega)) c, q_lt_eq (hW _ (by omega)) d⟩
    have e1 : W' (17 + 10 * t) = W (17 + 10 * t) := hW _ (by omega)
    have e2 : W' (16 + 10 * t) = W (16 + 10 * t) := hW _ (by omega)
    unfold q_kb
    rw [q_n_eq e1, q_n_eq e2, e1, e2]
    exact a
  · obtain ⟨a, b⟩ := h4 m hm
    exact ⟨q_lt_eq (hW _ (by omega)) a, q_lt_eq (hW _ (by omega)) b⟩
/-- steps by their numbers are steps on the row and on the class's code -/
theorem LwI.wf {acc : List (Nat × Nat)} {S : Nat → Int32 × Int32} {C : Nat → Int32} (hS : ∀ (j : Nat) (op : Nat × Nat), acc[j]? = some op → StO op (S j).1 (S j).2 ∧ C j = nI (k_code op)) : ∀ {n i h g : Nat}, LwI acc n i h g → q_wf S C n i h g
  | 0, _, _, _, h1 => h1
  | n + 1, i, h, g, h1 => by
    obtain ⟨op, f, h2, h3, h4⟩ := h1
    obtain ⟨⟨s1, s2⟩, s3⟩ := hS i op h2
    refine ⟨f, ?_, LwI.wf hS h4⟩
    obtain ⟨a, b⟩ := op
    unfold k_code at s3
    dsimp only at s2 s3 h3
    rcases h3 with ⟨e, e2, e3, e4⟩ | ⟨e, e2, e3, e4⟩ | ⟨e, e2, e3, e4, e5⟩ | ⟨e, e2, e3, e4⟩ | ⟨e, e2, e3, e4, e5⟩
    · subst e
      exact Or.inl ⟨b, e2, s1, s2 (Or.inl rfl), by rw [s3, Nat.zero_add], e3, e4⟩
    · subst e
      exact Or.inr (Or.inl ⟨b, e2, s1, by rw [s3, Nat.add_comm], e3, e4⟩)
    · subst e
      exact Or.inr (Or.inr (Or.inl ⟨b, e2, e3, s1, s2 (Or.inr rfl), by rw [s3, Nat.add_comm], e4, e5⟩))
    · subst e; subst e2
      exact Or.inr (Or.inr (Or.inr (Or.inl ⟨s1, s3, e3, e4⟩)))
    · subst e3
      refine Or.inr (Or.inr (Or.inr (Or.inr ⟨(k_s (a, 0), a), ?_, s1, s3, e4, e5⟩)))
      have h12 : a = 4 ∨ a = 5 ∨ a = 6 ∨ a = 7 ∨ a = 8 ∨ a = 9 ∨ a = 10 ∨ a = 11 := by omega
      rcases h12 with h | h | h | h | h | h | h | h <;> subst h <;> decide
variable {X : KXw} {n tot kn D : Nat} {kx : Nat → Nat × Nat} {M : MMw}
/-- the reference lays a law into its row -/
def PlW (M M' : MMw) (k l a : Nat) : Prop := Fr [179] M M' ∧ M' 179 (100 + k) = nI l ∧ (∀ i, i < l → M' 179 (266 + 16 * k + i) = M 183 (4 * i) ∧ M' 179 (298 + 16 * k + i) = M 183 (4 * i + 1) ∧ M' 179 (330 + 16 * k + i) = M 183 (4 * i + 2) ∧ M' 179 (362 + 16 * k + i) = M 183 (4 * i + 3)) ∧ (∀ i, i < 2 * a → M' 179 (394 + 820 * k + i) = M 184 i) ∧ ∀ i, ¬ LwX k i → M' 179 i = M 179 i
theorem m_putsLaw (hD : 1 ≤ D) {k l a : Nat} (hk : k < 2) (hl : l ≤ 16) (ha : a ≤ 400) (h13 : M 178 13 = nI l) (h14 : M 178 14 = nI a) : Sq X D 174 [.inr (.inl 178), .inl (nI k)] (Gk n tot kn kx) M (fun x M' => x = nI l ∧ PlW M M' k l a) :=
  Sq.mk (k := 0) hD (fun D' hD' => by
    have steps : ∀ (c j : Nat) (M1 : MMw), j + c = 2 * a → Fr [179] M M1 → M1 179 (100 + k) = nI l → (∀ i, i < l → M1 179 (266 + 16 * k + i) = M 183 (4 * i) ∧ M1 179 (298 + 16 * k + i) = M 183 (4 * i + 1) ∧ M1 179 (330 + 16 * k + i) = M 183 (4 * i + 2) ∧ M1 179 (362 + 16 * k + i) = M 183 (4 * i + 3)) → (∀ i, i < j → M1 179 (394 + 820 * k + i) = M 184 i) → (∀ i, ¬ LwX k i → M1 179 i = M 179 i) → Lq X (callw X D') 174 129 [some (.inr (.inl 178)), some (.inl (nI k)), some (.inl (nI j))] (Gk n tot kn kx) M1 (fun x M' => x = nI l ∧ PlW M M' k l a) := by
      intro c
      induction c with
      | zero =>
        intro j M1 hj hf h1 h2 h3 h4
        refine Lq.of (t_174_129_ok X (callw X D') n tot kn kx _ _ M1) ?_
        unfold t_174_129
        simp only [o_nI]
        rw [hf 178 (by decide), h14, h13, nI_mul, if_neg (by rw [lt_i (by omega) (by omega)]; omega), Wq_ret]
        exact ⟨rfl, hf, h1, h2, fun i hi => h3 i (by omega), h4⟩
      | succ c ih =>
        intro j M1 hj hf h1 h2 h3 h4
        refine Lq.of (t_174_129_ok X (callw X D') n tot kn kx _ _ M1) ?_
        unfold t_174_129
        simp only [o_nI]
        rw [hf 178 (by decide), h14, nI_mul, if_pos (by rw [lt_i (by omega) (by omega)]; omega), inb_nI (show j < 820 by omega) (by decide), if_pos rfl, nI_mul, nI_add, nI_add, inb_nI (show 394 + 820 * k + j < 2834 by omega) (by decide), if_pos rfl, nI_clamp (by omega), nI_clamp (by omega), hf 184 (by decide), Wq_jmp, i1_nI, nI_add]
        refine ih (j + 1) _ (by omega) (hf.up (by decide)) ?_ (fun i hi => ?_) (fun i hi => ?_) (fun i hi => ?_)
        · rw [up_at, upW_n (by omega)]; exact h1
        · rw [up_at, upW_n (by omega), upW_n (by omega), upW_n (by omega), upW_n (by omega)]; exact h2 i hi
        · rw [up_at]
          by_cases e : i = j
          · subst e; rw [upW_s]
          · rw [upW_n (by omega)]; exact h3 i (by omega)
        · rw [up_at, upW_n (by unfold LwX at hi; omega)]; exact h4 i hi
    have lines : ∀ (c j : Nat) (M1 : MMw), j + c = l → Fr [179] M M1 → M1 179 (100 + k) = nI l → (∀ i, i < j → M1 179 (266 + 16 * k + i) = M 183 (4 * i) ∧ M1 179 (298 + 16 * k + i) = M 183 (4 * i + 1) ∧ M1 179 (330 + 16 * k + i) = M 183 (4 * i + 2) ∧ M1 179 (362 + 16 * k + i) = M 183 (4 * i + 3)) → (∀ i, ¬ LwX k i → M1 179 i = M 179 i) → Lq X (callw X D') 174 15 [some (.inr (.inl 178)), some (.inl (nI k)), some (.inl (nI j))] (Gk n tot kn kx) M1 (fun x M' => x = nI l ∧ PlW M M' k l a) := by
      intro c
      induction c with
      | zero =>
        intro j M1 hj hf h1 h2 h4
        refine Lq.of (t_174_15_ok X (callw X D') n tot kn kx _ _ M1) ?_
        unfold t_174_15
        rw [hf 178 (by decide), h13, if_neg (by rw [lt_i (by omega) (by omega)]; omega), Wq_jmp, o_nI]
        exact steps (2 * a) 0 M1 (by omega) hf h1 (fun i hi => h2 i (by omega)) (fun i hi => absurd hi (Nat.not_lt_zero i)) h4
      | succ c ih =>
        intro j M1 hj hf h1 h2 h4
        refine Lq.of (t_174_15_ok X (callw X D') n tot kn kx _ _ M1) ?_
        unfold t_174_15
        simp only [o_nI, nI_mul, nI_add]
        have e : ∀ a b, a < b → b < 2 ^ 31 → inb (nI a) b = true := fun a b h1 h2 => inb_nI h1 h2
        rw [hf 178 (by decide), h13, if_pos (by rw [lt_i (by omega) (by omega)]; omega), e (4 * j) 64 (by omega) (by decide), e (266 + 16 * k + j) 2834 (by omega) (by decide), e (4 * j + 1) 64 (by omega) (by decide), e (298 + 16 * k + j) 2834 (by omega) (by decide), e (4 * j + 2) 64 (by omega) (by decide), e (330 + 16 * k + j) 2834 (by omega) (by decide), e (4 * j + 3) 64 (by omega) (by decide), e (362 + 16 * k + j) 2834 (by omega) (by decide)]
        simp only [if_true]
        rw [nI_clamp (show 266 + 16 * k + j < 2 ^ 31 by omega), nI_clamp (show 298 + 16 * k + j < 2 ^ 31 by omega), nI_clamp (show 330 + 16 * k + j < 2 ^ 31 by omega), nI_clamp (show 362 + 16 * k + j < 2 ^ 31 by omega), nI_clamp (show 4 * j < 2 ^ 31 by omega), nI_clamp (show 4 * j + 1 < 2 ^ 31 by omega), nI_clamp (show 4 * j + 2 < 2 ^ 31 by omega), nI_clamp (show 4 * j + 3 < 2 ^ 31 by omega), hf 183 (by decide), Wq_jmp, i1_nI, nI_add]
        refine ih (j + 1) _ (by omega) ((((hf.up (by decide)).up (by decide)).up (by decide)).up (by decide)) ?_ (fun i hi => ?_) (fun i hi => ?_)
        · rw [up_at, upW_n (by omega), up_at, upW_n (by omega), up_at, upW_n (by omega), up_at, upW_n (by omega)]; exact h1
        · rw [up_at, up_at, up_at, up_at]
          by_cases e : i = j
          · subst e
            rw [upW_n (show 266 + 16 * k + i ≠ 362 + 16 * k + i by omega), upW_n (show 266 + 16 * k + i ≠ 330 + 16 * k + i by omega), upW_n (show 266 + 16 * k + i ≠ 298 + 16 * k + i by omega), upW_s, upW_n (show 298 + 16 * k + i ≠ 362 + 16 * k + i by omega), upW_n (show 298 + 16 * k + i ≠ 330 + 16 * k + i by omega), upW_s, upW_n (show 330 + 16 * k + i ≠ 362 + 16 * k + i by omega), upW_s, upW_s]
            exact ⟨rfl, rfl, rfl, rfl⟩
          · rw [upW_n (show 266 + 16 * k + i ≠ 362 + 16 * k + j by omega), upW_n (show 266 + 16 * k + i ≠ 330 + 16 * k + j by omega), upW_n (show 266 + 16 * k + i ≠ 298 + 16 * k + j by omega), upW_n (show 266 + 16 * k + i ≠ 266 + 16 * k + j by omega), upW_n (show 298 + 16 * k + i ≠ 362 + 16 * k + j by omega), upW_n (show 298 + 16 * k + i ≠ 330 + 16 * k + j by omega), upW_n (show 298 + 16 * k + i ≠ 298 + 16 * k + j by omega), upW_n (show 298 + 16 * k + i ≠ 266 + 16 * k + j by omega), upW_n (show 330 + 16 * k + i ≠ 362 + 16 * k + j by omega), upW_n (show 330 + 16 * k + i ≠ 330 + 16 * k + j by omega), upW_n (show 330 + 16 * k + i ≠ 298 + 16 * k + j by omega), upW_n (show 330 + 16 * k + i ≠ 266 + 16 * k + j by omega), upW_n (show 362 + 16 * k + i ≠ 362 + 16 * k + j by omega), upW_n (show 362 + 16 * k + i ≠ 330 + 16 * k + j by omega), upW_n (show 362 + 16 * k + i ≠ 298 + 16 * k + j by omega), upW_n (show 362 + 16 * k + i ≠ 266 + 16 * k + j by omega)]
            exact h2 i (by omega)
        · rw [up_at, upW_n (by unfold LwX at hi; omega), up_at, upW_n (by unfold LwX at hi; omega), up_at, upW_n (by unfold LwX at hi; omega), up_at, upW_n (by unfold LwX at hi; omega)]; exact h4 i hi
    refine Lq.of (t_174_0_ok X (callw X D') n tot kn kx _ M) ?_
    unfold t_174_0
    simp only [o_nI]
    rw [nI_add, inb_nI (show 100 + k < 2834 by omega) (by decide), if_pos rfl, nI_clamp (by omega), h13, Wq_jmp]
    exact lines l 0 _ (by omega) (Fr.rf.up (by decide)) (by rw [up_at, upW_s]) (fun i hi => absurd hi (Nat.not_lt_zero i)) (fun i hi => by rw [up_at, upW_n (by unfold LwX at hi; omega)]))
/-- .. a hull .. -/
def PhW (M M' : MMw) (w : Nat) : Prop := Fr [178, 179] M M' ∧ (∀ f, f ≠ 4 → M' 178 f = M 178 f) ∧ M' 178 4 = nI 0 ∧ M' 179 98 = nI w ∧ M' 179 99 = nI 0 ∧ M' 179 104 = nI 0 ∧ (∀ i, i < 3 * w → M' 179 (142 + i) = M 185 i) ∧ (∀ i, i < 8 → M' 179 (8 + i) = nI 0) ∧ ∀ i, i ≠ 98 → i ≠ 99 → i ≠ 104 → ¬ (142 ≤ i ∧ i < 166) → ¬ (8 ≤ i ∧ i < 16) → M' 179 i = M 179 i
theorem m_putsHull (hD : 2 ≤ D) {w : Nat} (hw : w ≤ 8) (h15 : M 178 15 = nI w) : Sq X D 175 [.inr (.inl 178)] (Gk n tot kn kx) M (fun x M' => x = nI w ∧ PhW M M' w) :=
  Sq.mk (k := 1) hD (fun D' hD' => by
    have dones : ∀ (c j : Nat) (M1 : MMw), j + c = 8 → Fr [179] M M1 → M1 179 98 = nI w → M1 179 99 = nI 0 → M1 179 104 = nI 0 → (∀ i, i < 3 * w → M1 179 (142 + i) = M 185 i) → (∀ i, i < j → M1 179 (8 + i) = nI 0) → (∀ i, i ≠ 98 → i ≠ 99 → i ≠ 104 → ¬ (142 ≤ i ∧ i < 166) → ¬ (8 ≤ i ∧ i < 16) → M1 179 i = M 179 i) → Lq X (callw X D') 175 63 [some (.inr (.inl 178)), some (.inl (nI j))] (Gk n tot kn kx) M1 (fun x M' => x = nI w ∧ PhW M M' w) := by
      intro c
      induction c with
      | zero =>
        intro j M1 hj hf h1 h2 h3 h4 h5 h6
        refine Lq.of (t_175_63_ok X (callw X D') n tot kn kx _ M1) ?_
        unfold t_175_63
        simp only [o_nI]
        rw [if_neg (by rw [lt_i (by omega) (by omega)]; omega), m_forget hD', bnd_some, Wq_ret]
        refine ⟨by rw [up_at, upW_n (by decide), hf 178 (by decide)]; exact h15, (hf.mono (by decide)).up (by decide), fun f hf2 => by rw [up_at, upW_n hf2, hf 178 (by decide)], by rw [up_at, upW_s], ?_⟩
        rw [up_ne (by decide)]
        exact ⟨h1, h2, h3, h4, fun i hi => h5 i (by omega), h6⟩
      | succ c ih =>
        intro j M1 hj hf h1 h2 h3 h4 h5 h6
        refine Lq.of (t_175_63_ok X (callw X D') n tot kn kx _ M1) ?_
        unfold t_175_63
        simp only [o_nI]
        rw [if_pos (by rw [lt_i (by omega) (by omega)]; omega), nI_add, inb_nI (show 8 + j < 2834 by omega) (by decide), if_pos rfl, nI_clamp (by omega), Wq_jmp, i1_nI, nI_add]
        refine ih (j + 1) _ (by omega) (hf.up (by decide)) ?_ ?_ ?_ (fun i hi => ?_) (fun i hi => ?_) (fun i a1 a2 a3 a4 a5 => ?_)
        · rw [up_at, upW_n (by omega)]; exact h1
        · rw [up_at, upW_n (by omega)]; exact h2
        · rw [up_at, upW_n (by omega)]; exact h3
        · rw [up_at, upW_n (by omega)]; exact h4 i hi
        · rw [up_at]
          by_cases e : i = j
          · subst e; rw [upW_s]
          · rw [upW_n (by omega)]; exact h5 i (by omega)
        · rw [up_at, upW_n (by omega)]; exact h6 i a1 a2 a3 a4 a5
    have rows : ∀ (c j : Nat) (M1 : MMw), j + c = 3 * w → Fr [179] M M1 → M1 179 98 = nI w → M1 179 99 = nI 0 → M1 179 104 = nI 0 → (∀ i, i < j → M1 179 (142 + i) = M 185 i) → (∀ i, i ≠ 98 → i ≠ 99 → i ≠ 104 → ¬ (142 ≤ i ∧ i < 166) → ¬ (8 ≤ i ∧ i < 16) → M1 179 i = M 179 i) → Lq X (callw X D') 175 29 [some (.inr (.inl 178)), some (.inl (nI j))] (Gk n tot kn kx) M1 (fun x M' => x = nI w ∧ PhW M M' w) := by
      intro c
      induction c with
      | zero =>
        intro j M1 hj hf h1 h2 h3 h4 h6
        refine Lq.of (t_175_29_ok X (callw X D') n tot kn kx _ M1) ?_
        unfold t_175_29
        simp only [o_nI]
        rw [hf 178 (by decide), h15, nI_mul, if_neg (by rw [lt_i (by omega) (by omega)]; omega), Wq_jmp]
        exact dones 8 0 M1 (by omega) hf h1 h2 h3 (fun i hi => h4 i (by omega)) (fun i hi => absurd hi (Nat.not_lt_zero i)) h6
      | succ c ih =>
        intro j M1 hj hf h1 h2 h3 h4 h6
        refine Lq.of (t_175_29_ok X (callw X D') n tot kn kx _ M1) ?_
        unfold t_175_29
        simp only [o_nI]
        rw [hf 178 (by decide), h15, nI_mul, if_pos (by rw [lt_i (by omega) (by omega)]; omega), inb_nI (show j < 100 by omega) (by decide), if_pos rfl, nI_add, inb_nI (show 142 + j < 2834 by omega) (by decide), if_pos rfl, nI_clamp (by omega), nI_clamp (by omega), hf 185 (by decide), Wq_jmp, i1_nI, nI_add]
        refine ih (j + 1) _ (by omega) (hf.up (by decide)) ?_ ?_ ?_ (fun i hi => ?_) (fun i a1 a2 a3 a4 a5 => ?_)
        · rw [up_at, upW_n (by omega)]; exact h1
        · rw [up_at, upW_n (by omega)]; exact h2
        · rw [up_at, upW_n (by omega)]; exact h3
        · rw [up_at]
          by_cases e : i = j
          · subst e; rw [upW_s]
          · rw [upW_n (by omega)]; exact h4 i (by omega)
        · rw [up_at, upW_n (by omega)]; exact h6 i a1 a2 a3 a4 a5
    refine Lq.of (t_175_0_ok X (callw X D') n tot kn kx M) ?_
    unfold t_175_0
    simp only [o_nI]
    rw [h15, Wq_jmp]
    refine rows (3 * w) 0 _ (by omega) (((Fr.rf.up (by decide)).up (by decide)).up (by decide)) ?_ ?_ ?_ (fun i hi => absurd hi (Nat.not_lt_zero i)) (fun i a1 a2 a3 _ _ => ?_)
    · rw [up_at, upW_n (by decide), up_at, upW_n (by decide), up_at, upW_s]
    · rw [up_at, upW_n (by decide), up_at, upW_s]
    · rw [up_at, upW_s]
    · rw [up_at, upW_n a3, up_at, upW_n a2, up_at, upW_n a1])
/-- .. and a rota -/
def PrW (M M' : MMw) (w : Nat) : Prop := Fr [178, 179] M M' ∧ (∀ f, f ≠ 4 → M' 178 f = M 178 f) ∧ M' 178 4 = nI 0 ∧ M' 179 99 = nI w ∧ (∀ i, i < 5 * w → M' 179 (166 + i) = M 185 i) ∧ ∀ i, i ≠ 99 → ¬ (166 ≤ i ∧ i < 266) → M' 179 i = M 179 i
theorem m_putsRota (hD : 2 ≤ D) {w : Nat} (hw : w ≤ 20) (h15 : M 178 15 = nI w) : Sq X D 176 [.inr (.inl 178)] (Gk n tot kn kx) M (fun x M' => x = nI w ∧ PrW M M' w) :=
  Sq.mk (k := 1) hD (fun D' hD' => by
    have rows : ∀ (c j : Nat) (M1 : MMw), j + c = 5 * w → Fr [179] M M1 → M1 179 99 = nI w → (∀ i, i < j → M1 179 (166 + i) = M 185 i) → (∀ i, i ≠ 99 → ¬ (166 ≤ i ∧ i < 266) → M1 179 i = M 179 i) → Lq X (callw X D') 176 13 [some (.inr (.inl 178)), some (.inl (nI j))] (Gk n tot kn kx) M1 (fun x M' => x = nI w ∧ PrW M M' w) := by
      intro c
      induction c with
      | zero =>
        intro j M1 hj hf h1 h4 h6
        refine Lq.of (t_176_13_ok X (callw X D') n tot kn kx _ M1) ?_
        unfold t_176_13
        simp only [o_nI]
        rw [hf 178 (by decide), h15, nI_mul, if_neg (by rw [lt_i (by omega) (by omega)]; omega), m_forget hD', bnd_some, Wq_ret]
        refine ⟨by rw [up_at, upW_n (by decide), hf 178 (by decide)]; exact h15, (hf.mono (by decide)).up (by decide), fun f hf2 => by rw [up_at, upW_n hf2, hf 178 (by decide)], by rw [up_at, upW_s], ?_⟩
        rw [up_ne (by decide)]
        exact ⟨h1, fun i hi => h4 i (by omega), h6⟩
      | succ c ih =>
        intro j M1 hj hf h1 h4 h6
        refine Lq.of (t_176_13_ok X (callw X D') n tot kn kx _ M1) ?_
        unfold t_176_13
        simp only [o_nI]
        rw [hf 178 (by decide), h15, nI_mul, if_pos (by rw [lt_i (by omega) (by omega)]; omega), inb_nI (show j < 100 by omega) (by decide), if_pos rfl, nI_add, inb_nI (show 166 + j < 2834 by omega) (by decide), if_pos rfl, nI_clamp (by omega), nI_clamp (by omega), hf 185 (by decide), Wq_jmp, i1_nI, nI_add]
        refine ih (j + 1) _ (by omega) (hf.up (by decide)) ?_ (fun i hi => ?_) (fun i a1 a2 => ?_)
        · rw [up_at, upW_n (by omega)]; exact h1
        · rw [up_at]
          by_cases e : i = j
          · subst e; rw [upW_s]
          · rw [upW_n (by omega)]; exact h4 i (by omega)
        · rw [up_at, upW_n (by omega)]; exact h6 i a1 a2
    refine Lq.of (t_176_0_ok X (callw X D') n tot kn kx M) ?_
    unfold t_176_0
    simp only [o_nI]
    rw [h15, Wq_jmp]
    exact rows (5 * w) 0 _ (by omega) (Fr.rf.up (by decide)) (by rw [up_at, upW_s]) (fun i hi => absurd hi (Nat.not_lt_zero i)) (fun i a1 _ => by rw [up_at, upW_n a1]))
theorem c_beginWorks (hD : 1 ≤ D) : Sq X D 139 [.inr (.inl 10)] (Gk n tot kn kx) M (fun _ M' => Fr [15] M M' ∧ ∀ i, i < 8 → M' 15 i = nI 0) :=
  Sq.mk (k := 0) hD (fun D' hD' => by
    have loop : ∀ (c j : Nat) (M1 : MMw), j + c = 8 → Fr [15] M M1 → (∀ i, i < j → M1 15 i = nI 0) → Lq X (callw X D') 139 2 [some (.inr (.inl 10)), some (.inl (nI j))] (Gk n tot kn kx) M1 (fun _ M' => Fr [15] M M' ∧ ∀ i, i < 8 → M' 15 i = nI 0) := by
      intro c
      induction c with
      | zero =>
        intro j M1 hj hf h1
        refine Lq.of (t_139_p10_2_ok X (callw X D') n tot kn kx _ M1) ?_
        unfold t_139_p10_2
        simp only [o_nI]
        rw [if_neg (by rw [lt_i (by omega) (by omega)]; omega), Wq_ret]
        exact ⟨hf, fun i hi => h1 i (by omega)⟩
      | succ c ih =>
        intro j M1 hj hf h1
        refine Lq.of (t_139_p10_2_ok X (callw X D') n tot kn kx _ M1) ?_
        unfold t_139_p10_2
        simp only [o_nI]
        rw [if_pos (by rw [lt_i (by omega) (by omega)]; omega), inb_nI (show j < 8 by omega) (by decide), if_pos rfl, nI_clamp (by omega), Wq_jmp, i1_nI, nI_add]
        refine ih (j + 1) _ (by omega) (hf.up (by decide)) (fun i hi => ?_)
        rw [up_at]
        by_cases e : i = j
        · subst e; rw [upW_s]
        · rw [upW_n (by omega)]; exact h1 i (by omega)
    refine Lq.of (t_139_p10_0_ok X (callw X D') n tot kn kx M) ?_
    unfold t_139_p10_0
    rw [Wq_jmp, o_nI]
    exact loop 8 0 M (by omega) Fr.rf (fun i hi => absurd hi (Nat.not_lt_zero i)))
end
