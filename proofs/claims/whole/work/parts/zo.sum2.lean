section
-- needs: sums
/-! sums: products, then + and - -/
variable {X : KXw} {n tot kn D : Nat} {kx : Nat → Nat × Nat} {M : MMw}
def GdU (tp : Nat → Nat) (L ct k : Nat) (r : RzT) : Prop := match r with
  | .inl _ => True
  | .inr (k', o) => k < k' ∧ k' ≤ ct ∧ o.length + k ≤ k' ∧ k_tk tp L k' ≠ 42 ∧ k_tk tp L k' ≠ 47 ∧ ∀ h, h + 1 < 64 → LwS o h (h + 1)
theorem J_prod {tp : Nat → Nat} {L ct rd k : Nat} (hx : TxP tp L ct) (hrd : rd < 2) (hk : k ≤ ct) : ∃ r,
    (∀ (D w it : Nat) (acc : List (Nat × Nat)) (M : MMw) (Q : Int32 → MMw → Prop), 2 ≤ D → WwP w → ClT tp L ct M k → LwC M acc → acc.length + k_wl w ≤ k → it ≤ k → LpQ tp L ct M acc r Q (fun it' M' => LsS X n tot kn kx D w 1 it' M' Q) → Wq X (callw X D) 129 (Gk n tot kn kx) Q (bnd (callw X D 127 [.inr (.inl 95)] (Gk n tot kn kx) M) fun r1 _ M2 => some (.inr (9, [some (.inr (.inl 95)), some (.inl (k_wv w)), some (.inl r1), some (.inl (nI it)), none], [], (Gk n tot kn kx), M2)))) ∧
    (∀ (D : Nat) (acc : List (Nat × Nat)) (M : MMw), 11 ≤ D → MdT tp L rd M k → StM M acc → acc.length ≤ k → Sq X D 160 [.inr (.inl 178)] (Gk n tot kn kx) M (MoQ tp L rd M acc r)) ∧ GdU tp L ct k r := by
  have hct := hx.2.2.1
  cases hu : k_un tp L k with
  | none =>
    refine ⟨.inl (1, k), fun D w it acc M Q hD hw hC hA hl hit hQ => ?_, fun D acc M hD hM hS hl => ?_, trivial⟩
    · refine Wq.call (c_unit hD hx hk hC hA (by omega)) ?_
      rintro y M3 ⟨h3, _⟩
      have h3 := h3 hu
      obtain rfl := h3.1
      rw [Wq_jmp]
      by_cases hi : it < 400
      · exact c_sumfail (by omega) hi h3 hQ
      · refine Lq.of (t_129_p95_9_ok X (callw X D) n tot kn kx _ _ _ M3) ?_
        unfold t_129_p95_9
        simp only [o_nI]
        rw [if_neg (by rw [lt_i (by omega) (by omega)]; exact hi)]
        exact c_putwx (by omega) nrw_0 h3.2.2.2 (fun M' f e s => hQ _ M' (h3.put f e s))
    · refine Sq.mk (k := 10) hD (fun D' hD' => ?_)
      refine Lq.of (t_160_0_ok X (callw X D') n tot kn kx M) ?_
      unfold t_160_0
      refine Wq.call (m_unit hD' hx hrd hk hM hS hl) ?_
      rintro y M3 ⟨h3, _⟩
      have h3 := h3 hu
      obtain rfl := h3.1
      rw [if_pos (by rfl), Wq_ret]
      exact h3
  | some op =>
    have hk2 := k_un_lt hx hk hu
    obtain ⟨r, r1, r2, r3⟩ := J_prodloop (X := X) (n := n) (tot := tot) (kn := kn) (kx := kx) hx hrd ct (k + 1) (by omega) (by omega)
    refine ⟨k_pre [op] r, fun D w it acc M Q hD hw hC hA hl hit hQ => ?_, fun D acc M hD hM hS hl => ?_, ?_⟩
    · refine Wq.call (c_unit hD hx hk hC hA (by omega)) ?_
      rintro y M3 ⟨_, h3⟩
      obtain ⟨rfl, f3, c3, l3⟩ := h3 op hu
      rw [Wq_jmp]
      exact r1 D w it _ M3 Q hD hw c3 l3 (by rw [List.length_append]; show acc.length + 1 + k_wl w ≤ k + 1; omega) (by omega) (hQ.pre f3)
    · refine Sq.mk (k := 10) hD (fun D' hD' => ?_)
      refine Lq.of (t_160_0_ok X (callw X D') n tot kn kx M) ?_
      unfold t_160_0
      refine Wq.call (m_unit hD' hx hrd hk hM hS hl) ?_
      rintro y M3 ⟨_, h3⟩
      obtain ⟨rfl, f3, c3, l3, e3⟩ := h3 op hu
      rw [if_neg (by decide +kernel), Wq_jmp]
      refine Lq.mono (r2 D' _ M3 hD' c3 l3 (by rw [List.length_append]; show acc.length + 1 ≤ k + 1; omega)) (fun x M' hq => ?_)
      exact MoQ.pre f3 e3 hq
    · rcases r with ⟨a, i⟩ | ⟨k', o⟩
      · trivial
      · obtain ⟨h1, h2, h3, h4, h5, h6⟩ := r3
        exact ⟨by omega, h2, by rw [List.length_append]; show 1 + o.length + k ≤ k'; omega, h4, h5, fun h hh => (LwS.un hx.2.1 hu (by omega)).app (h6 (h + 1) (by omega) hh)⟩
def GdL (ct k : Nat) (r : RzT) : Prop := match r with
  | .inl _ => True
  | .inr (k', o) => k ≤ k' ∧ k' ≤ ct ∧ o.length + k ≤ k' ∧ ∀ h, 1 ≤ h → h + 1 < 64 → LwS o h h
/-- both sides on a run of + and - -/
def JoS (X : KXw) (n tot kn : Nat) (kx : Nat → Nat × Nat) (tp : Nat → Nat) (L ct rd k : Nat) (r : RzT) : Prop :=
  (∀ (D w it : Nat) (acc : List (Nat × Nat)) (M : MMw) (Q : Int32 → MMw → Prop), 2 ≤ D → WwP w → ClT tp L ct M k → LwC M acc → acc.length + k_wl w ≤ k → it < k → (∀ x M', CoQ tp L ct M (acc ++ k_wo w) r x M' → Q x M') → LsS X n tot kn kx D w 1 it M Q) ∧
  (∀ (D : Nat) (acc : List (Nat × Nat)) (M : MMw), 11 ≤ D → MdT tp L rd M k → StM M acc → acc.length ≤ k → Lq X (callw X D) 161 9 [some (.inr (.inl 178)), none] (Gk n tot kn kx) M (MoQ tp L rd M acc r)) ∧ GdL ct k r
theorem CoQ.fr {tp : Nat → Nat} {L ct : Nat} {M M1 M' : MMw} {acc : List (Nat × Nat)} {r : RzT} {x : Int32} (h : CFr M M1) (g : CoQ tp L ct M1 acc r x M') : CoQ tp L ct M acc r x M' := by
  rcases r with ⟨a, i⟩ | ⟨k, o⟩
  · exact FlC.tr h g
  · obtain ⟨g1, g2, g3, g4⟩ := g
    exact ⟨g1, h.tr g2, g3, g4⟩
theorem J_sumloop {tp : Nat → Nat} {L ct rd : Nat} (hx : TxP tp L ct) (hrd : rd < 2) : ∀ (c k : Nat), ct ≤ k + c → k ≤ ct → k_tk tp L k ≠ 42 → k_tk tp L k ≠ 47 → ∃ r, JoS X n tot kn kx tp L ct rd k r := by
  have hct := hx.2.2.1
  have stop : ∀ k, k ≤ ct → k_tk tp L k ≠ 42 → k_tk tp L k ≠ 47 → k_tk tp L k ≠ 43 → k_tk tp L k ≠ 45 → JoS X n tot kn kx tp L ct rd k (.inr (k, [])) := fun k hk t42 t47 t43 t45 => by
    have hb := tx_tk (k := k) hx
    have hm := k_mt_lt rd (by omega) _ hb
    obtain ⟨_, _, m43, m45⟩ := k_t42 rd (by omega) _ hb
    refine ⟨fun D w it acc M Q hD hw hC hA hl hit hQ => ?_, fun D acc M hD hM hS hl => ?_, Nat.le_refl _, hk, by simp, fun h _ _ => rfl⟩
    · refine Lq.of (t_129_p95_9_ok X (callw X D) n tot kn kx _ _ _ M) ?_
      unfold t_129_p95_9
      simp only [o_nI]
      rw [hC.2.1, if_pos (by rw [lt_i (by omega) (by omega)]; omega), if_neg (by decide +kernel), if_neg (by rw [eq_i (by omega) (by omega)]; exact t43), if_neg (by rw [eq_i (by omega) (by omega)]; exact t45), if_neg (by rw [eq_i (by omega) (by omega)]; exact t42), if_neg (by rw [eq_i (by omega) (by omega)]; exact t47)]
      exact c_putw (by omega) hw nrw_1 (by omega) hC hA (fun M' f c l => hQ _ M' ⟨rfl, f, c, by rw [List.append_nil]; exact l⟩)
    · refine Lq.of (t_161_9_ok X (callw X D) n tot kn kx M) ?_
      unfold t_161_9
      rw [hM.2.2.2.1, if_neg (by rw [o_nI, eq_i (by omega) (by omega)]; exact fun e => t43 (m43.mp e)), if_neg (by rw [o_nI, eq_i (by omega) (by omega)]; exact fun e => t45 (m45.mp e)), Wq_ret]
      exact ⟨rfl, MFr.rf, hM, by rw [List.append_nil]; exact hS, rfl⟩
  intro c
  induction c with
  | zero =>
    intro k hc hk t42 t47
    have e0 : k_tk tp L k = 0 := by rw [show k = ct by omega]; exact tx_end hx
    exact ⟨_, stop k hk t42 t47 (by omega) (by omega)⟩
  | succ c ih =>
    intro k hc hk t42 t47
    have hb := tx_tk (k := k) hx
    have hm := k_mt_lt rd (by omega) _ hb
    obtain ⟨_, _, m43, m45⟩ := k_t42 rd (by omega) _ hb
    by_cases ht : k_tk tp L k = 43 ∨ k_tk tp L k = 45
    · have hkc := tx_lt hx hk (by omega)
      obtain ⟨r1, a1, a2, a3⟩ := J_prod (X := X) (n := n) (tot := tot) (kn := kn) (kx := kx) hx hrd (show k + 1 ≤ ct by omega)
      obtain ⟨p, hp, hp2⟩ : ∃ p, (k_tk tp L k = 43 → p = 4) ∧ (k_tk tp L k = 45 → p = 5) := ⟨if k_tk tp L k = 43 then 4 else 5, fun h => if_pos h, fun h => if_neg (by omega)⟩
      have hpw : WwP p := by unfold WwP; omega
      have hp0 : p ≠ 0 := by omega
      -- the class
      have cls : ∀ (D w it : Nat) (acc : List (Nat × Nat)) (M : MMw) (Q : Int32 → MMw → Prop), 2 ≤ D → WwP w → ClT tp L ct M k → LwC M acc → acc.length + k_wl w ≤ k → it < k → (∀ M2, CFr M M2 → ClT tp L ct M2 (k + 1) → LwC M2 (acc ++ k_wo w) → Wq X (callw X D) 129 (Gk n tot kn kx) Q (bnd (callw X D 127 [.inr (.inl 95)] (Gk n tot kn kx) M2) fun r1 _ M2 => some (.inr (9, [some (.inr (.inl 95)), some (.inl (k_wv p)), some (.inl r1), some (.inl (nI (it + 1))), none], [], (Gk n tot kn kx), M2)))) → LsS X n tot kn kx D w 1 it M Q := fun D w it acc M Q hD hw hC hA hl hit hK => by
        refine Lq.of (t_129_p95_9_ok X (callw X D) n tot kn kx _ _ _ M) ?_
        unfold t_129_p95_9
        simp only [o_nI]
        rw [hC.2.1, if_pos (by rw [lt_i (by omega) (by omega)]; omega), if_neg (by decide +kernel)]
        have jump : Lq X (callw X D) 129 56 [some (.inr (.inl 95)), some (.inl (k_wv w)), none, some (.inl (nI it)), none] (Gk n tot kn kx) M Q := by
          refine Lq.of (t_129_p95_56_ok X (callw X D) n tot kn kx _ _ M) ?_
          unfold t_129_p95_56
          simp only [o_nI]
          refine Wq.call (c_adv (by omega) hx hkc hC) ?_
          rintro y M2 ⟨f2, c2⟩
          have l2 := hA.f9 f2
          have f2' := CFr.of f2 (by decide)
          rw [hC.2.1, if_neg (by rw [eq_i (by omega) (by omega)]; exact t47), if_neg (by rw [eq_i (by omega) (by omega)]; exact t42), i1_nI, nI_add]
          by_cases w0 : w = 0
          · subst w0
            have hk0 := hK M2 f2' c2 (by unfold k_wo; rw [if_pos rfl, List.append_nil]; exact l2)
            rw [if_pos k_wv0]
            by_cases e43 : k_tk tp L k = 43
            · rw [if_pos (by rw [e43])]
              rw [hp e43] at hk0
              exact hk0
            · rw [if_neg (by rw [eq_i (by omega) (by omega)]; exact e43)]
              rw [hp2 (by omega)] at hk0
              exact hk0
          · obtain ⟨e1, e2, e3⟩ := k_wv_n hw w0
            unfold k_wl at hl
            rw [if_neg w0] at hl
            rw [e1, if_neg e2]
            refine Wq.call (c_put (by omega) (show acc.length < 400 by omega) e3 (by decide) l2) ?_
            rintro y M3 ⟨f3, g3, l3⟩
            have hk0 := hK M3 (f2'.tr f3) (c2.cg g3 f3) (by unfold k_wo; rw [if_neg w0]; exact l3)
            by_cases e43 : k_tk tp L k = 43
            · rw [if_pos (by rw [e43])]
              rw [hp e43] at hk0
              exact hk0
            · rw [if_neg (by rw [eq_i (by omega) (by omega)]; exact e43)]
              rw [hp2 (by omega)] at hk0
              exact hk0
        by_cases e43 : k_tk tp L k = 43
        · rw [if_pos (by rw [e43]), Wq_jmp]; exact jump
        · rw [if_neg (by rw [eq_i (by omega) (by omega)]; exact e43), if_pos (by rw [show k_tk tp L k = 45 by omega]), Wq_jmp]; exact jump
      have mdl : ∀ (D : Nat) (acc : List (Nat × Nat)) (M : MMw) (Q : Int32 → MMw → Prop), 11 ≤ D → MdT tp L rd M k → StM M acc → (∀ M2, MFr M M2 → M2 178 24 = M 178 24 → MdT tp L rd M2 (k + 1) → StM M2 acc → Wq X (callw X D) 161 (Gk n tot kn kx) Q (bnd (callw X D 160 [.inr (.inl 178)] (Gk n tot kn kx) M2) fun r3 _ M4 => (if r3 = (0 : Int32) then some (.inl (nI 0, Gk n tot kn kx, M4)) else (bnd (callw X D 158 [.inr (.inl 178), .inl (nI (19 + p)), .inl (nI 0)] (Gk n tot kn kx) M4) fun _ _ M6 => some (.inr (9, [some (.inr (.inl 178)), none], [], (Gk n tot kn kx), M6)))))) → Lq X (callw X D) 161 9 [some (.inr (.inl 178)), none] (Gk n tot kn kx) M Q := fun D acc M Q hD hM hS hK => by
        refine Lq.of (t_161_9_ok X (callw X D) n tot kn kx M) ?_
        unfold t_161_9
        have jump : Lq X (callw X D) 161 29 [some (.inr (.inl 178)), none] (Gk n tot kn kx) M Q := by
          refine Lq.of (t_161_29_ok X (callw X D) n tot kn kx M) ?_
          unfold t_161_29
          simp only [o_nI]
          rw [hM.2.2.2.1]
          by_cases e43 : k_tk tp L k = 43
          · rw [if_pos (by rw [m43.mpr e43])]
            refine Wq.call (m_nextK (by omega) hx.1 hx.2.1 (by omega) hM) ?_
            rintro y M2 ⟨f2, c2⟩
            have hk0 := hK M2 (MFr.of f2 (by decide)) (f2.2 24 (by decide)) c2 (hS.f8 f2 (by decide))
            rw [hp e43] at hk0
            exact hk0
          · rw [if_neg (by rw [eq_i (by omega) (by omega)]; exact fun e => e43 (m43.mp e))]
            refine Wq.call (m_nextK (by omega) hx.1 hx.2.1 (by omega) hM) ?_
            rintro y M2 ⟨f2, c2⟩
            have hk0 := hK M2 (MFr.of f2 (by decide)) (f2.2 24 (by decide)) c2 (hS.f8 f2 (by decide))
            rw [hp2 (by omega)] at hk0
            exact hk0
        rw [hM.2.2.2.1]
        by_cases e43 : k_tk tp L k = 43
        · rw [if_pos (by rw [m43.mpr e43]; rfl), Wq_jmp]; exact jump
        · rw [if_neg (by rw [o_nI, eq_i (by omega) (by omega)]; exact fun e => e43 (m43.mp e)), if_pos (by rw [m45.mpr (by omega)]; rfl), Wq_jmp]; exact jump
      rcases r1 with ⟨a, i⟩ | ⟨k2, P⟩
      · refine ⟨.inl (a, i), fun D w it acc M Q hD hw hC hA hl hit hQ => ?_, fun D acc M hD hM hS hl => ?_, trivial⟩
        · refine cls D w it acc M Q hD hw hC hA hl hit (fun M2 f2 c2 l2 => ?_)
          refine a1 D p (it + 1) _ M2 Q hD hpw c2 l2 ?_ (by omega) (fun x M' h => hQ x M' (FlC.tr f2 h))
          rw [List.length_append]
          unfold k_wo k_wl at *
          rw [if_neg hp0]
          split at hl
          · rename_i hw0; rw [if_pos hw0]; show acc.length + 0 + 1 ≤ k + 1; omega
          · rename_i hw0; rw [if_neg hw0]; show acc.length + 1 + 1 ≤ k + 1; omega
        · refine mdl D acc M _ hD hM hS (fun M2 f2 e2 c2 l2 => ?_)
          refine Wq.call (a2 D acc M2 hD c2 l2 (by omega)) ?_
          rintro y M3 h3
          have h3 : FlM tp L M2 a i y M3 := h3
          obtain rfl := h3.1
          rw [if_pos (by rfl), Wq_ret]
          exact h3.tr f2
      · obtain ⟨b1, b2, b3, b4, b5, b6⟩ := a3
        obtain ⟨r2, c1, c2, c3⟩ := ih k2 (by omega) b2 b4 b5
        refine ⟨k_pre (P ++ [(p, 0)]) r2, fun D w it acc M Q hD hw hC hA hl hit hQ => ?_, fun D acc M hD hM hS hl => ?_, ?_⟩
        · have lwo : (acc ++ k_wo w).length + k_wl p ≤ k + 1 := by
            rw [List.length_append]
            unfold k_wo k_wl at *
            rw [if_neg hp0]
            split at hl
            · rename_i hw0; rw [if_pos hw0]; show acc.length + 0 + 1 ≤ k + 1; omega
            · rename_i hw0; rw [if_neg hw0]; show acc.length + 1 + 1 ≤ k + 1; omega
          refine cls D w it acc M Q hD hw hC hA hl hit (fun M2 f2 cc2 l2 => ?_)
          refine a1 D p (it + 1) _ M2 Q hD hpw cc2 l2 lwo (by omega) (fun it' M' g1 g2 g3 g4 => ?_)
          refine c1 D p it' (acc ++ k_wo w ++ P) M' Q hD hpw g2 g3 (by rw [List.length_append]; omega) g4 (fun x M'' hq => ?_)
          refine hQ x M'' (CoQ.pre (f2.tr g1) ?_)
          have ek : k_wo p = [(p, 0)] := if_neg hp0
          rw [ek, List.append_assoc] at hq
          exact hq
        · refine mdl D acc M _ hD hM hS (fun M2 f2 e2 cc2 l2 => ?_)
          refine Wq.call (a2 D acc M2 hD cc2 l2 (by omega)) ?_
          rintro y M3 h3
          obtain ⟨rfl, f3, m3, s3, e3⟩ : y = nI 1 ∧ MFr M2 M3 ∧ MdT tp L rd M3 k2 ∧ StM M3 (acc ++ P) ∧ M3 178 24 = M2 178 24 := h3
          rw [if_neg (by decide +kernel)]
          refine Wq.call (m_lay (op := (p, 0)) (by omega) (by rw [List.length_append]; omega) ⟨?_, fun hh => (by dsimp only at hh; omega)⟩ s3) ?_
          · congr 1
            rcases hpw with h | h | h
            · exact absurd h hp0
            · rw [h]; rfl
            · rw [h]; rfl
          · rintro y M4 l4
            rw [Wq_jmp]
            have l5 := l4.2.2
            rw [List.append_assoc] at l5
            refine Lq.mono (c2 D _ M4 hD (m3.ly l4) l5 (by rw [List.length_append, List.length_append]; show acc.length + (P.length + 1) ≤ k2; omega)) (fun x M' hq => ?_)
            exact MoQ.pre ((f2.tr f3).tr l4.1) (by rw [l4.2.1 24 (by decide), e3, e2]) hq
        · rcases r2 with ⟨a, i⟩ | ⟨k3, o⟩
          · trivial
          · obtain ⟨d1, d2, d3, d4⟩ := c3
            refine ⟨by omega, d2, by rw [List.length_append, List.length_append]; show P.length + 1 + o.length + k ≤ k3; omega, fun h h1 h2 => ?_⟩
            exact LwS.app (LwS.app (b6 h h2) (LwS.bin (by unfold WwP at hpw; omega) (by unfold WwP at hpw; omega) h1)) (d4 h h1 h2)
    · exact ⟨_, stop k hk t42 t47 (by omega) (by omega)⟩
def GdS (ct k : Nat) (r : RzT) : Prop := match r with
  | .inl _ => True
  | .inr (k', o) => k < k' ∧ k' ≤ ct ∧ o.length + k ≤ k' ∧ ∀ h, h + 2 < 64 → LwS o h (h + 1)
theorem J_sum {tp : Nat → Nat} {L ct rd k : Nat} (hx : TxP tp L ct) (hrd : rd < 2) (hk : k ≤ ct) : ∃ r,
    (∀ (D : Nat) (acc : List (Nat × Nat)) (M : MMw), 3 ≤ D → ClT tp L ct M k → LwC M acc → acc.length ≤ k → Sq X D 129 [.inr (.inl 95)] (Gk n tot kn kx) M (CoQ tp L ct M acc r)) ∧
    (∀ (D : Nat) (acc : List (Nat × Nat)) (M : MMw), 12 ≤ D → MdT tp L rd M k → StM M acc → acc.length ≤ k → Sq X D 161 [.inr (.inl 178)] (Gk n tot kn kx) M (MoQ tp L rd M acc r)) ∧ GdS ct k r := by
  obtain ⟨r1, a1, a2, a3⟩ := J_prod (X := X) (n := n) (tot := tot) (kn := kn) (kx := kx) hx hrd hk
  rcases r1 with ⟨a, i⟩ | ⟨k2, P⟩
  · refine ⟨.inl (a, i), fun D acc M hD hC hA hl => ?_, fun D acc M hD hM hS hl => ?_, trivial⟩
    · refine Sq.mk (k := 2) hD (fun D' hD' => ?_)
      refine Lq.of (t_129_p95_0_ok X (callw X D') n tot kn kx M) ?_
      unfold t_129_p95_0
      exact a1 D' 0 0 acc M _ hD' (Or.inl rfl) hC hA hl (Nat.zero_le _) (fun x M' h => h)
    · refine Sq.mk (k := 11) hD (fun D' hD' => ?_)
      refine Lq.of (t_161_0_ok X (callw X D') n tot kn kx M) ?_
      unfold t_161_0
      refine Wq.call (a2 D' acc M hD' hM hS hl) ?_
      rintro y M3 h3
      have h3 : FlM tp L M a i y M3 := h3
      obtain rfl := h3.1
      rw [if_pos (by rfl), Wq_ret]
      exact h3
  · obtain ⟨b1, b2, b3, b4, b5, b6⟩ := a3
    obtain ⟨r2, c1, c2, c3⟩ := J_sumloop (X := X) (n := n) (tot := tot) (kn := kn) (kx := kx) hx hrd ct k2 (by omega) b2 b4 b5
    refine ⟨k_pre P r2, fun D acc M hD hC hA hl => ?_, fun D acc M hD hM hS hl => ?_, ?_⟩
    · refine Sq.mk (k := 2) hD (fun D' hD' => ?_)
      refine Lq.of (t_129_p95_0_ok X (callw X D') n tot kn kx M) ?_
      unfold t_129_p95_0
      refine a1 D' 0 0 acc M _ hD' (Or.inl rfl) hC hA hl (Nat.zero_le _) (fun it' M' g1 g2 g3 g4 => ?_)
      refine c1 D' 0 it' (acc ++ P) M' _ hD' (Or.inl rfl) g2 g3 (by rw [List.length_append]; show acc.length + P.length + 0 ≤ k2; omega) g4 (fun x M'' hq => ?_)
      refine CoQ.pre g1 ?_
      have ek : k_wo 0 = [] := rfl
      rw [ek, List.append_nil] at hq
      exact hq
    · refine Sq.mk (k := 11) hD (fun D' hD' => ?_)
      refine Lq.of (t_161_0_ok X (callw X D') n tot kn kx M) ?_
      unfold t_161_0
      refine Wq.call (a2 D' acc M hD' hM hS hl) ?_
      rintro y M3 h3
      obtain ⟨rfl, f3, m3, s3, e3⟩ : y = nI 1 ∧ MFr M M3 ∧ MdT tp L rd M3 k2 ∧ StM M3 (acc ++ P) ∧ M3 178 24 = M 178 24 := h3
      rw [if_neg (by decide +kernel), Wq_jmp]
      refine Lq.mono (c2 D' _ M3 hD' m3 s3 (by rw [List.length_append]; omega)) (fun x M' hq => ?_)
      exact MoQ.pre f3 e3 hq
    · rcases r2 with ⟨a, i⟩ | ⟨k3, o⟩
      · trivial
      · obtain ⟨d1, d2, d3, d4⟩ := c3
        exact ⟨by omega, d2, by rw [List.length_append]; omega, fun h hh => (b6 h (by omega)).app (d4 (h + 1) (by omega) (by omega))⟩
end
