section
-- needs: any
/-! a line of a law on both sides -/
variable {X : KXw} {n tot kn D : Nat} {kx : Nat → Nat × Nat} {M : MMw}
def CF3 (M M' : MMw) : Prop := Fr [95, 100, 101, 102, 103, 104, 105] M M' ∧ ∀ f, f ∉ [2, 3, 7, 8, 9] → M' 95 f = M 95 f
theorem CF3.rf {M : MMw} : CF3 M M := ⟨Fr.rf, fun _ _ => rfl⟩
theorem CF3.tr {M M1 M2 : MMw} (h : CF3 M M1) (g : CF3 M1 M2) : CF3 M M2 := ⟨h.1.tr g.1, fun f hf => (g.2 f hf).trans (h.2 f hf)⟩
theorem CF3.of {M M' : MMw} (h : CFr M M') : CF3 M M' := ⟨h.1.mono (by decide), h.2.1⟩
theorem CF3.up {M M' : MMw} {c k : Nat} {v : Int32} (h : CF3 M M') (hc : c = 100 ∨ c = 101 ∨ c = 102 ∨ c = 103 ∨ c = 104) : CF3 M (up M' c k v) := by
  refine ⟨h.1.up ?_, fun f hf => by rw [up_ne (by omega)]; exact h.2 f hf⟩
  rcases hc with rfl | rfl | rfl | rfl | rfl <;> decide
def MF3 (M M' : MMw) : Prop := Fr [178, 183, 184] M M' ∧ ∀ f, f ∉ [13, 14, 17, 18, 19, 20, 21, 22, 24] → M' 178 f = M 178 f
theorem MF3.rf {M : MMw} : MF3 M M := ⟨Fr.rf, fun _ _ => rfl⟩
theorem MF3.tr {M M1 M2 : MMw} (h : MF3 M M1) (g : MF3 M1 M2) : MF3 M M2 := ⟨h.1.tr g.1, fun f hf => (g.2 f hf).trans (h.2 f hf)⟩
theorem MF3.of {M M' : MMw} (h : MFr M M') : MF3 M M' := ⟨h.1.mono (by decide), fun f hf => h.2 f (fun hh => hf (by revert hh; simp only [List.mem_cons, List.not_mem_nil, or_false]; omega))⟩
theorem MF3.up {M M' : MMw} {k : Nat} {v : Int32} (h : MF3 M M') : MF3 M (up M' 183 k v) := ⟨h.1.up (by decide), fun f hf => by rw [up_ne (by decide)]; exact h.2 f hf⟩
theorem ClT.ne {tp : Nat → Nat} {L ct k c i : Nat} {v : Int32} (h : ClT tp L ct M k) (hc : 100 ≤ c) : ClT tp L ct (up M c i v) k := ⟨by rw [up_ne (by omega)]; exact h.1, by rw [up_ne (by omega)]; exact h.2.1, h.2.2.fr (fun d hd => by rw [up_ne (by omega)])⟩
theorem LwC.ne {acc : List (Nat × Nat)} {c i : Nat} {v : Int32} (h : LwC M acc) (hc : c ≠ 105) (hi : c ≠ 100 ∨ i ≠ 1) : LwC (up M c i v) acc := by
  refine ⟨?_, fun j op hj => by rw [up_ne (fun e => hc e.symm)]; exact h.2 j op hj⟩
  by_cases e : c = 100
  · subst e
    rw [up_at, upW_n (by omega)]; exact h.1
  · rw [up_ne (fun e2 => e e2.symm)]; exact h.1
theorem MdT.ne {tp : Nat → Nat} {L rd k c i : Nat} {v : Int32} (h : MdT tp L rd M k) (hc : c = 183 ∨ c = 184 ∨ c = 185) : MdT tp L rd (up M c i v) k := by
  obtain ⟨⟨a0, a1⟩, a2, a3, a4, a5, a6⟩ := h
  refine ⟨⟨by rw [up_ne (by omega)]; exact a0, fun j hj => by rw [up_ne (by omega)]; exact a1 j hj⟩, ?_, ?_, ?_, ?_, fun hh => ?_⟩
  all_goals rw [up_ne (by omega)]
  · exact a2
  · exact a3
  · exact a4
  · exact a5
  · exact a6 hh
theorem StM.ne {acc : List (Nat × Nat)} {c i : Nat} {v : Int32} (h : StM M acc) (hc : c ≠ 178) (hc2 : c ≠ 184) : StM (up M c i v) acc := by
  unfold StM
  rw [up_ne (fun e => hc e.symm), up_ne (fun e => hc2 e.symm)]
  exact h
abbrev RzL : Type := (Nat × Nat) ⊕ (Nat × List (Nat × Nat))
def C2Q (tp : Nat → Nat) (L ct : Nat) (M : MMw) (acc : List (Nat × Nat)) (l : Nat) (r : RzL) (x : Int32) (M' : MMw) : Prop := match r with
  | .inl (a, i) => x = nI 0 ∧ CF3 M M' ∧ FtC tp L a i M'
  | .inr (k', o) => x = nI 1 ∧ CF3 M M' ∧ ClT tp L ct M' k' ∧ LwC M' (acc ++ o) ∧ M' 100 0 = nI (l + 1) ∧ M' 103 l = nI acc.length ∧ M' 104 l = nI (acc.length + o.length) ∧ (∀ j, j ≠ l → M' 103 j = M 103 j ∧ M' 104 j = M 104 j) ∧ M' 101 = M 101 ∧ M' 102 = M 102
def M2Q (tp : Nat → Nat) (L rd : Nat) (M : MMw) (acc : List (Nat × Nat)) (l : Nat) (r : RzL) (x : Int32) (M' : MMw) : Prop := match r with
  | .inl (a, i) => x = nI 0 ∧ MF3 M M' ∧ FtM tp L a i M'
  | .inr (k', o) => x = nI 1 ∧ MF3 M M' ∧ MdT tp L rd M' k' ∧ StM M' (acc ++ o) ∧ M' 178 13 = M 178 13 ∧ M' 183 (4 * l + 1) = nI acc.length ∧ M' 183 (4 * l + 2) = nI (acc.length + o.length) ∧ ∀ j, j ≠ 4 * l + 1 → j ≠ 4 * l + 2 → M' 183 j = M 183 j
theorem J_sec2 {tp : Nat → Nat} {L ct rd k l : Nat} (hx : TxP tp L ct) (hrd : rd < 2) (hk : k ≤ ct) (hl : l < 16) : ∃ r : RzL,
    (∀ (D : Nat) (acc : List (Nat × Nat)) (M : MMw), 21 ≤ D → ClT tp L ct M k → LwC M acc → acc.length ≤ k → M 100 0 = nI l → Lq X (callw X D) 133 115 [some (.inr (.inl 95)), none, some (.inl (nI l))] (Gk n tot kn kx) M (C2Q tp L ct M acc l r)) ∧
    (∀ (D : Nat) (acc : List (Nat × Nat)) (M : MMw), 39 ≤ D → MdT tp L rd M k → StM M acc → acc.length ≤ k → M 178 13 = nI l → M 178 24 = nI 0 → Lq X (callw X D) 167 93 [some (.inr (.inl 178))] (Gk n tot kn kx) M (M2Q tp L rd M acc l r)) ∧
    match r with | .inl _ => True | .inr (k', o) => k < k' ∧ k' ≤ ct ∧ o.length + k < k' ∧ (o = [] ∨ LwS o 0 1) := by
  have hct := hx.2.2.1
  have hb := tx_tk (k := k) hx
  have hmt := k_mt_lt rd (by omega) _ hb
  obtain ⟨_, _, _, _, _, _, _, _, m105, m59⟩ := k_tT hrd _ hb
  by_cases t105 : k_tk tp L k = 105
  · have hkc := tx_lt hx hk (by omega)
    obtain ⟨r1, a1, a2, a3⟩ := (J_all (X := X) (n := n) (tot := tot) (kn := kn) (kx := kx) hx hrd 8 (by decide) (k + 1) (by omega)).2
    have cls : ∀ (D : Nat) (acc : List (Nat × Nat)) (M : MMw) (Q : Int32 → MMw → Prop), 21 ≤ D → ClT tp L ct M k → LwC M acc → (∀ M2, CF3 M M2 → ClT tp L ct M2 (k + 1) → LwC M2 acc → M2 100 0 = M 100 0 → M2 103 = upW (M 103) l (nI acc.length) → M2 104 = M 104 → M2 101 = M 101 → M2 102 = M 102 → Wq X (callw X D) 133 (Gk n tot kn kx) Q (bnd (callw X D 132 [.inr (.inl 95), .inl (nI 0)] (Gk n tot kn kx) M2) fun r3 _ M4 => (if r3 = (0 : Int32) then some (.inl (nI 0, Gk n tot kn kx, M4)) else (if inb (nI l) 16 then (bnd (callw X D 130 [.inr (.inl 95), .inl (nI 59)] (Gk n tot kn kx) (up (up M4 104 (nI l).toNatClampNeg (M4 100 1)) 100 0 ((M4 100 0) + (nI 1)))) fun r5 _ M6 => (if nrw 1 r5 = r5 then some (.inl (r5, Gk n tot kn kx, M6)) else none)) else none)))) → Lq X (callw X D) 133 115 [some (.inr (.inl 95)), none, some (.inl (nI l))] (Gk n tot kn kx) M Q := fun D acc M Q hD hC hA hK => by
      refine Lq.of (t_133_p95_115_ok X (callw X D) n tot kn kx _ M) ?_
      unfold t_133_p95_115
      simp only [o_nI]
      rw [inb_nI hl (by decide), if_pos rfl, hC.2.1, t105, if_pos rfl, nI_clamp (by omega), hA.1]
      have hC1 : ClT tp L ct (up M 103 l (nI acc.length)) k := hC.ne (by decide)
      refine Wq.call (c_adv (by omega) hx hkc hC1) ?_
      rintro y M2 ⟨f2, c2⟩
      have hA1 : LwC (up M 103 l (nI acc.length)) acc := hA.ne (by decide) (Or.inl (by decide))
      have f3 : CF3 M M2 := (CF3.rf.up (by decide)).tr (CF3.of (CFr.of f2 (by decide)))
      have hk0 := hK M2 f3 c2 (hA1.f9 f2) (by rw [f2.1 100 (by decide), up_ne (by decide)]) (by rw [f2.1 103 (by decide), up_at]) (by rw [f2.1 104 (by decide), up_ne (by decide)]) (by rw [f2.1 101 (by decide), up_ne (by decide)]) (by rw [f2.1 102 (by decide), up_ne (by decide)])
      rw [inb_nI hl (by decide), nI_clamp (by omega)] at hk0
      exact hk0
    have mdl : ∀ (D : Nat) (acc : List (Nat × Nat)) (M : MMw) (Q : Int32 → MMw → Prop), 39 ≤ D → MdT tp L rd M k → StM M acc → M 178 13 = nI l → (∀ M2, MF3 M M2 → M2 178 24 = M 178 24 → MdT tp L rd M2 (k + 1) → StM M2 acc → M2 178 13 = nI l → M2 183 = upW (M 183) (4 * l + 1) (nI acc.length) → Wq X (callw X D) 167 (Gk n tot kn kx) Q (bnd (callw X D 166 [.inr (.inl 178)] (Gk n tot kn kx) M2) fun r3 _ M4 => (if r3 = (0 : Int32) then some (.inl (nI 0, Gk n tot kn kx, M4)) else (if inb (((nI 4) * (M4 178 13)) + (nI 2)) 64 then (bnd (callw X D 163 [.inr (.inl 178), .inl (nI 159)] (Gk n tot kn kx) (up M4 183 ((((nI 4) * (M4 178 13)) + (nI 2))).toNatClampNeg (M4 178 14))) fun r5 _ M6 => (if nrw 1 r5 = r5 then some (.inl (r5, Gk n tot kn kx, M6)) else none)) else none)))) → Lq X (callw X D) 167 93 [some (.inr (.inl 178))] (Gk n tot kn kx) M Q := fun D acc M Q hD hM hS h13 hK => by
      refine Lq.of (t_167_93_ok X (callw X D) n tot kn kx M) ?_
      unfold t_167_93
      simp only [o_nI]
      rw [h13, nI_mul, nI_add, inb_nI (show 4 * l + 1 < 64 by omega) (by decide), if_pos rfl, hM.2.2.2.1, m105.mpr t105, if_pos rfl, nI_clamp (by omega), hS.1]
      refine Wq.call (m_nextK (by omega) hx.1 hx.2.1 (by omega) (hM.ne (c := 183) (by decide))) ?_
      rintro y M2 ⟨f2, c2⟩
      exact hK M2 (MF3.rf.up.tr (MF3.of (MFr.of f2 (by decide)))) (by rw [f2.2 24 (by decide), up_ne (by decide)]) c2 ((hS.ne (c := 183) (by decide) (by decide)).f8 f2 (by decide)) (by rw [f2.2 13 (by decide), up_ne (by decide)]; exact h13) (by rw [f2.1 183 (by decide), up_at])
    rcases r1 with ⟨a, i⟩ | ⟨k2, o⟩
    · refine ⟨.inl (a, i), fun D acc M hD hC hA hla h0 => ?_, fun D acc M hD hM hS hla h13 h24 => ?_, trivial⟩
      · refine cls D acc M _ hD hC hA (fun M2 f2 c2 l2 _ _ _ _ _ => ?_)
        refine Wq.call (a1 D acc M2 hD c2 l2 (by omega)) ?_
        rintro y M3 h3
        have h3 : FlC tp L M2 a i y M3 := h3
        obtain rfl := h3.1
        rw [if_pos (by rfl), Wq_ret]
        exact ⟨rfl, f2.tr (CF3.of h3.2.1), h3.2.2.1⟩
      · refine mdl D acc M _ hD hM hS h13 (fun M2 f2 e2 c2 l2 _ _ => ?_)
        refine Wq.call (a2 D acc M2 hD c2 l2 (by omega) (by rw [e2, h24])) ?_
        rintro y M3 h3
        have h3 : FlM tp L M2 a i y M3 := h3
        obtain rfl := h3.1
        rw [if_pos (by rfl), Wq_ret]
        exact ⟨rfl, f2.tr (MF3.of h3.2.1), h3.2.2⟩
    · obtain ⟨b1, b2, b3, b4⟩ := a3
      have hb2 := tx_tk (k := k2) hx
      obtain ⟨_, _, _, _, _, _, _, _, _, m592⟩ := k_tT hrd _ hb2
      obtain ⟨r, hr1, hr2⟩ : ∃ r : RzL, (k_tk tp L k2 = 59 → r = .inr (k2 + 1, o)) ∧ (¬ k_tk tp L k2 = 59 → r = .inl (1, k2)) := ⟨if k_tk tp L k2 = 59 then .inr (k2 + 1, o) else .inl (1, k2), fun h => if_pos h, fun h => if_neg h⟩
      refine ⟨r, fun D acc M hD hC hA hla h0 => ?_, fun D acc M hD hM hS hla h13 h24 => ?_, ?_⟩
      · refine cls D acc M _ hD hC hA (fun M2 f2 c2 l2 g0 g103 g104 g101 g102 => ?_)
        refine Wq.call (a1 D acc M2 hD c2 l2 (by omega)) ?_
        rintro y M3 h3
        obtain ⟨rfl, f3, cc3, l3⟩ : y = nI 1 ∧ CFr M2 M3 ∧ ClT tp L ct M3 k2 ∧ LwC M3 (acc ++ o) := h3
        have e30 : M3 100 0 = nI l := by rw [f3.2.2 0 (by decide), g0, h0]
        rw [if_neg (by decide +kernel), inb_nI hl (by decide), if_pos rfl, nI_clamp (by omega), l3.1, e30, nI_add]
        have cc4 : ClT tp L ct (up (up M3 104 l (nI (acc ++ o).length)) 100 0 (nI (l + 1))) k2 := (cc3.ne (by decide)).ne (by decide)
        have l4 : LwC (up (up M3 104 l (nI (acc ++ o).length)) 100 0 (nI (l + 1))) (acc ++ o) := (l3.ne (by decide) (Or.inl (by decide))).ne (by decide) (Or.inr (by decide))
        have f4 : CF3 M (up (up M3 104 l (nI (acc ++ o).length)) 100 0 (nI (l + 1))) := ((f2.tr (CF3.of f3)).up (by decide)).up (by decide)
        refine Wq.call (c_pass (by omega) hx b2 (by decide) (by decide) cc4) ?_
        rintro z M5 ⟨g5, g6⟩
        by_cases t59 : k_tk tp L k2 = 59
        · obtain ⟨rfl, f5, c5⟩ := g5 t59
          rw [if_pos nrw_1, Wq_ret, hr1 t59]
          have e103 : M5 103 = upW (M 103) l (nI acc.length) := by rw [f5.1 103 (by decide), up_ne (by decide), up_ne (by decide), f3.1 103 (by decide), g103]
          have e104 : M5 104 = upW (M 104) l (nI (acc ++ o).length) := by rw [f5.1 104 (by decide), up_ne (by decide), up_at, f3.1 104 (by decide), g104]
          refine ⟨rfl, f4.tr (CF3.of (CFr.of f5 (by decide))), c5, l4.f9 f5, ?_, ?_, ?_, fun j hj => ⟨?_, ?_⟩, ?_, ?_⟩
          · rw [f5.1 100 (by decide), up_at, upW_s]
          · rw [e103, upW_s]
          · rw [e104, upW_s, List.length_append]
          · rw [e103, upW_n hj]
          · rw [e104, upW_n hj]
          · rw [f5.1 101 (by decide), up_ne (by decide), up_ne (by decide), f3.1 101 (by decide), g101]
          · rw [f5.1 102 (by decide), up_ne (by decide), up_ne (by decide), f3.1 102 (by decide), g102]
        · obtain ⟨rfl, f5, c5⟩ := g6 t59
          rw [if_pos nrw_0, Wq_ret, hr2 t59]
          exact ⟨rfl, f4.tr (CF3.of (CFr.of f5 (by decide))), c5⟩
      · refine mdl D acc M _ hD hM hS h13 (fun M2 f2 e2 c2 l2 g13 g183 => ?_)
        refine Wq.call (a2 D acc M2 hD c2 l2 (by omega) (by rw [e2, h24])) ?_
        rintro y M3 h3
        obtain ⟨rfl, f3, cc3, l3, e3⟩ : y = nI 1 ∧ MFr M2 M3 ∧ MdT tp L rd M3 k2 ∧ StM M3 (acc ++ o) ∧ M3 178 24 = M2 178 24 := h3
        have e313 : M3 178 13 = nI l := by rw [f3.2 13 (by decide), g13]
        rw [if_neg (by decide +kernel), e313, nI_mul, nI_add, inb_nI (show 4 * l + 2 < 64 by omega) (by decide), if_pos rfl, nI_clamp (by omega), l3.1]
        refine Wq.call (m_need (by omega) hx (by omega) (by decide) (cc3.ne (c := 183) (by decide))) ?_
        rintro z M5 ⟨g5, g6⟩
        have f4 : MF3 M (up M3 183 (4 * l + 2) (nI (acc ++ o).length)) := (f2.tr (MF3.of f3)).up
        by_cases t59 : k_tk tp L k2 = 59
        · obtain ⟨rfl, f5, c5⟩ := g5 (m592.mpr t59)
          rw [if_pos nrw_1, Wq_ret, hr1 t59]
          have e183 : M5 183 = upW (upW (M 183) (4 * l + 1) (nI acc.length)) (4 * l + 2) (nI (acc ++ o).length) := by rw [f5.1 183 (by decide), up_at, f3.1 183 (by decide), g183]
          refine ⟨rfl, f4.tr (MF3.of (MFr.of f5 (by decide))), c5, (l3.ne (c := 183) (by decide) (by decide)).f8 f5 (by decide), ?_, ?_, ?_, fun j j1 j2 => ?_⟩
          · rw [f5.2 13 (by decide), up_ne (by decide), e313, h13]
          · rw [e183, upW_n (by omega), upW_s]
          · rw [e183, upW_s, List.length_append]
          · rw [e183, upW_n j2, upW_n j1]
        · obtain ⟨rfl, f5, c5⟩ := g6 (fun e => t59 (m592.mp e))
          rw [if_pos nrw_0, Wq_ret, hr2 t59]
          exact ⟨rfl, f4.tr (MF3.of (MFr.of f5 (by decide))), c5⟩
      · by_cases t59 : k_tk tp L k2 = 59
        · rw [hr1 t59]
          have := tx_lt hx b2 (by omega)
          exact ⟨by omega, by omega, by omega, Or.inr (b4 0 (by omega))⟩
        · rw [hr2 t59]; trivial
  · obtain ⟨r, hr1, hr2⟩ : ∃ r : RzL, (k_tk tp L k = 59 → r = .inr (k + 1, [])) ∧ (¬ k_tk tp L k = 59 → r = .inl (1, k)) := ⟨if k_tk tp L k = 59 then .inr (k + 1, []) else .inl (1, k), fun h => if_pos h, fun h => if_neg h⟩
    refine ⟨r, fun D acc M hD hC hA hla h0 => ?_, fun D acc M hD hM hS hla h13 h24 => ?_, ?_⟩
    · refine Lq.of (t_133_p95_115_ok X (callw X D) n tot kn kx _ M) ?_
      unfold t_133_p95_115
      simp only [o_nI]
      rw [inb_nI hl (by decide), if_pos rfl, hC.2.1, if_neg (by rw [eq_i (by omega) (by omega)]; exact t105), if_pos rfl, nI_clamp (by omega), hA.1, h0, nI_add]
      have cc4 : ClT tp L ct (up (up (up M 103 l (nI acc.length)) 104 l (nI acc.length)) 100 0 (nI (l + 1))) k := ((hC.ne (by decide)).ne (by decide)).ne (by decide)
      have l4 : LwC (up (up (up M 103 l (nI acc.length)) 104 l (nI acc.length)) 100 0 (nI (l + 1))) acc := ((hA.ne (by decide) (Or.inl (by decide))).ne (by decide) (Or.inl (by decide))).ne (by decide) (Or.inr (by decide))
      have f4 : CF3 M (up (up (up M 103 l (nI acc.length)) 104 l (nI acc.length)) 100 0 (nI (l + 1))) := ((CF3.rf.up (by decide)).up (by decide)).up (by decide)
      refine Wq.call (c_pass (by omega) hx hk (by decide) (by decide) cc4) ?_
      rintro z M5 ⟨g5, g6⟩
      by_cases t59 : k_tk tp L k = 59
      · obtain ⟨rfl, f5, c5⟩ := g5 t59
        rw [if_pos nrw_1, Wq_ret, hr1 t59]
        have e103 : M5 103 = upW (M 103) l (nI acc.length) := by rw [f5.1 103 (by decide), up_ne (by decide), up_ne (by decide), up_at]
        have e104 : M5 104 = upW (M 104) l (nI acc.length) := by rw [f5.1 104 (by decide), up_ne (by decide), up_at, up_ne (by decide)]
        refine ⟨rfl, f4.tr (CF3.of (CFr.of f5 (by decide))), c5, by rw [List.append_nil]; exact l4.f9 f5, ?_, ?_, ?_, fun j hj => ⟨?_, ?_⟩, ?_, ?_⟩
        · rw [f5.1 100 (by decide), up_at, upW_s]
        · rw [e103, upW_s]
        · rw [e104, upW_s]; rfl
        · rw [e103, upW_n hj]
        · rw [e104, upW_n hj]
        · rw [f5.1 101 (by decide), up_ne (by decide), up_ne (by decide), up_ne (by decide)]
        · rw [f5.1 102 (by decide), up_ne (by decide), up_ne (by decide), up_ne (by decide)]
      · obtain ⟨rfl, f5, c5⟩ := g6 t59
        rw [if_pos nrw_0, Wq_ret, hr2 t59]
        exact ⟨rfl, f4.tr (CF3.of (CFr.of f5 (by decide))), c5⟩
    · refine Lq.of (t_167_93_ok X (callw X D) n tot kn kx M) ?_
      unfold t_167_93
      simp only [o_nI]
      rw [h13, nI_mul, nI_add, nI_add, inb_nI (show 4 * l + 1 < 64 by omega) (by decide), if_pos rfl, hM.2.2.2.1, if_neg (by rw [eq_i (by omega) (by omega)]; exact fun e => t105 (m105.mp e)), inb_nI (show 4 * l + 2 < 64 by omega) (by decide), if_pos rfl, nI_clamp (by omega), nI_clamp (by omega), hS.1]
      refine Wq.call (m_need (by omega) hx (by omega) (by decide) ((hM.ne (c := 183) (by decide)).ne (c := 183) (by decide))) ?_
      rintro z M5 ⟨g5, g6⟩
      have f4 : MF3 M (up (up M 183 (4 * l + 1) (nI acc.length)) 183 (4 * l + 2) (nI acc.length)) := MF3.rf.up.up
      by_cases t59 : k_tk tp L k = 59
      · obtain ⟨rfl, f5, c5⟩ := g5 (m59.mpr t59)
        rw [if_pos nrw_1, Wq_ret, hr1 t59]
        have e183 : M5 183 = upW (upW (M 183) (4 * l + 1) (nI acc.length)) (4 * l + 2) (nI acc.length) := by rw [f5.1 183 (by decide), up_at, up_at]
        refine ⟨rfl, f4.tr (MF3.of (MFr.of f5 (by decide))), c5, ?_, ?_, ?_, ?_, fun j j1 j2 => ?_⟩
        · rw [List.append_nil]; exact ((hS.ne (c := 183) (by decide) (by decide)).ne (c := 183) (by decide) (by decide)).f8 f5 (by decide)
        · rw [f5.2 13 (by decide), up_ne (by decide), up_ne (by decide)]
        · rw [e183, upW_n (by omega), upW_s]
        · rw [e183, upW_s]; rfl
        · rw [e183, upW_n j2, upW_n j1]
      · obtain ⟨rfl, f5, c5⟩ := g6 (fun e => t59 (m59.mp e))
        rw [if_pos nrw_0, Wq_ret, hr2 t59]
        exact ⟨rfl, f4.tr (MF3.of (MFr.of f5 (by decide))), c5⟩
    · by_cases t59 : k_tk tp L k = 59
      · rw [hr1 t59]
        have := tx_lt hx hk (by omega)
        exact ⟨by omega, by omega, by show 0 + k < k + 1; omega, Or.inl rfl⟩
      · rw [hr2 t59]; trivial
end
