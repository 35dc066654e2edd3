section
-- needs: made
/-! what stands before the first call -/
def ofC (c : Nat) : List XEv → List XEv
  | [] => []
  | e :: r => if e.2.1 = c then e :: ofC c r else ofC c r
theorem xF_cons (t p k0 v : Nat) (r : List XEv) (c k : Nat) : xF ((t, p, k0, v) :: r) c k = if t = 0 then (if c = p then 0 else xF r c k) else if t = 1 then (if c = p then (if k = k0 then v else xF r c k) else xF r c k) else xF r c k := rfl
theorem xF_ofC (c k : Nat) : ∀ l : List XEv, xF l c k = xF (ofC c l) c k
  | [] => rfl
  | (t, p, k0, v) :: r => by
    unfold ofC
    by_cases e : p = c
    · rw [if_pos e, xF_cons, xF_cons, xF_ofC c k r]
    · rw [if_neg e, xF_cons]
      rw [if_neg (show ¬ c = p from fun h => e h.symm), if_neg (show ¬ c = p from fun h => e h.symm), xF_ofC c k r]
      split
      · rfl
      · split <;> rfl
theorem xF_none {c k : Nat} : ∀ l : List XEv, (∀ e, e ∈ l → e.1 = 1 → e.2.1 = c → e.2.2.1 ≠ k) → xF l c k = 0
  | [], _ => rfl
  | (t, p, k0, v) :: r, h => by
    have ih := xF_none (c := c) (k := k) r (fun e he => h e (List.mem_cons_of_mem _ he))
    unfold xF
    by_cases t0 : t = 0
    · rw [if_pos t0, ih]; split <;> rfl
    · rw [if_neg t0]
      by_cases t1 : t = 1
      · rw [if_pos t1]
        by_cases cp : c = p
        · rw [if_pos cp, if_neg (show ¬ k = k0 from fun e => h _ List.mem_cons_self t1 cp.symm e.symm), ih]
        · rw [if_neg cp, ih]
      · rw [if_neg t1, ih]
def xV : List XEv → Nat → Nat → Nat
  | [], _, _ => 0
  | (t, p, k, v) :: r, c', k' => if t = 0 then (if c' = p then 0 else xV r c' k') else if t = 1 then xV r c' k' else (if c' = p then (if k' = k then v else xV r c' k') else xV r c' k')
theorem xM_xV (c k : Nat) : ∀ l : List XEv, xM l c k = nI (xV l c k)
  | [] => rfl
  | (t, p, k0, v) :: r => by
    have ih := xM_xV c k r
    unfold xM xV
    by_cases t0 : t = 0
    · rw [if_pos t0, if_pos t0]
      by_cases cp : c = p
      · rw [if_pos cp, if_pos cp]; rfl
      · rw [if_neg cp, if_neg cp, ih]
    · rw [if_neg t0, if_neg t0]
      by_cases t1 : t = 1
      · rw [if_pos t1, if_pos t1, ih]
      · rw [if_neg t1, if_neg t1]
        by_cases cp : c = p
        · rw [if_pos cp]
          subst cp
          by_cases ck : k = k0
          · subst ck; rw [if_pos rfl, up_at, upW_s]; rfl
          · rw [if_neg ck, up_at, upW_n ck, ih]
        · rw [if_neg cp, up_ne cp, ih]
theorem xV_none {c k : Nat} : ∀ l : List XEv, (∀ e, e ∈ l → e.1 ≠ 0 → e.1 ≠ 1 → e.2.1 = c → e.2.2.1 ≠ k) → xV l c k = 0
  | [], _ => rfl
  | (t, p, k0, v) :: r, h => by
    have ih := xV_none (c := c) (k := k) r (fun e he => h e (List.mem_cons_of_mem _ he))
    unfold xV
    by_cases t0 : t = 0
    · rw [if_pos t0, ih]; split <;> rfl
    · rw [if_neg t0]
      by_cases t1 : t = 1
      · rw [if_pos t1, ih]
      · rw [if_neg t1]
        by_cases cp : c = p
        · rw [if_pos cp, if_neg (show ¬ k = k0 from fun e => h _ List.mem_cons_self t0 t1 cp.symm e.symm), ih]
        · rw [if_neg cp, ih]
theorem chkKx : (List.range 197).all (fun c => Nat.beq (xK evL c).1 (kd0 c).1 && Nat.beq (xK evL c).2 (kd0 c).2) = true := by decide +kernel
theorem chkFx : (List.range 208).all (fun c => (List.range 40).all (fun k => Nat.beq (xF (ofC c evL) c k) (if c = 124 ∧ k = 5 then 131 else F0w c k))) = true := by decide +kernel
theorem chkSx : evL.all (fun e => !Nat.beq e.1 1 || (Nat.blt e.2.1 208 && Nat.blt e.2.2.1 40)) = true := by decide +kernel
theorem chkTx : fL.all (fun l => l.all (fun x => Nat.ble x.length 40)) = true := by decide +kernel
def SupX (c k : Nat) : Prop := (c = 2 ∧ k = 3) ∨ (c = 45 ∧ k = 3) ∨ (c = 95 ∧ k = 3) ∨ (c = 178 ∧ k = 25) ∨ (c = 179 ∧ (k = 103 ∨ (4 ≤ k ∧ k ≤ 7))) ∨ (k < 4 ∧ (c = 16 ∨ c = 59 ∨ c = 93 ∨ (142 ≤ c ∧ c ≤ 177)))
theorem chkMx : evL.all (fun e => Nat.beq e.1 0 || Nat.beq e.1 1 || decide ((e.2.1 = 2 ∧ e.2.2.1 = 3) ∨ (e.2.1 = 45 ∧ e.2.2.1 = 3) ∨ (e.2.1 = 95 ∧ e.2.2.1 = 3) ∨ (e.2.1 = 178 ∧ e.2.2.1 = 25) ∨ (e.2.1 = 179 ∧ (e.2.2.1 = 103 ∨ (4 ≤ e.2.2.1 ∧ e.2.2.1 ≤ 7))) ∨ (e.2.2.1 < 4 ∧ (e.2.1 = 16 ∨ e.2.1 = 59 ∨ e.2.1 = 93 ∨ (142 ≤ e.2.1 ∧ e.2.1 ≤ 177))))) = true := by decide +kernel
theorem vals : xV evL 2 3 = 1 ∧ xV evL 95 3 = 4294967295 ∧ xV evL 178 25 = 4294967295 ∧ xV evL 179 103 = 1 := by decide +kernel
theorem val4 : ∀ b, b < 4 → xV evL 16 b = 15 ∧ xV evL 179 (4 + b) = 15 := by decide +kernel
theorem z_L {c k : Nat} (h : ¬ SupX c k) : xM evL c k = nI 0 := by
  rw [xM_xV, xV_none]
  intro e he t0 t1 ec ek
  have := List.all_eq_true.mp chkMx e he
  simp only [Bool.or_eq_true, decide_eq_true_eq] at this
  rcases this with (h1 | h1) | h1
  · exact t0 (Nat.eq_of_beq_eq_true h1)
  · exact t1 (Nat.eq_of_beq_eq_true h1)
  · rw [ec, ek] at h1
    exact h h1
theorem G_L : gD (197, 86045, evL) = Gk 197 86045 130 (xK evL) := by
  have e1 : xK evL = fun c => if c < 197 then kd0 c else xK evL c := by
    funext c
    by_cases hc : c < 197
    · rw [if_pos hc]
      have := List.all_eq_true.mp chkKx c (List.mem_range.mpr hc)
      rw [Bool.and_eq_true] at this
      exact Prod.ext (Nat.eq_of_beq_eq_true this.1) (Nat.eq_of_beq_eq_true this.2)
    · rw [if_neg hc]
  have e2 : xF evL = fun c k => if c = 124 ∧ k = 5 then 130 + 1 else F0w c k := by
    funext c k
    by_cases hc : c < 208 ∧ k < 40
    · have := List.all_eq_true.mp chkFx c (List.mem_range.mpr hc.1)
      have := List.all_eq_true.mp this k (List.mem_range.mpr hc.2)
      rw [xF_ofC]
      exact Nat.eq_of_beq_eq_true this
    · rw [xF_none evL (fun e he t1 ec ek => by
        have := List.all_eq_true.mp chkSx e he
        rw [t1] at this
        have this : (Nat.blt e.2.1 208 && Nat.blt e.2.2.1 40) = true := this
        rw [Bool.and_eq_true, Nat.blt_eq, Nat.blt_eq] at this
        omega), if_neg (by omega)]
      unfold F0w
      by_cases h8 : c < 208
      · split
        · rfl
        · rename_i l hl
          split
          · rfl
          · rename_i x hx
            have h1 := List.all_eq_true.mp chkTx l (List.mem_of_getElem? hl)
            have h2 := List.all_eq_true.mp h1 x (List.mem_of_getElem? hx)
            have h3 : x.length ≤ 40 := Nat.le_of_ble_eq_true h2
            rw [List.getElem?_eq_none (by omega)]
      · rw [List.getElem?_eq_none (show fL.length ≤ c / 16 by
          have : fL.length = 13 := rfl
          omega)]
  unfold gD Gk
  rw [← e1, ← e2]
theorem Sh_L : ShP 197 86045 130 (xK evL) 1 0 := by
  refine ⟨by rfl, ⟨0, by decide, rfl⟩, by decide, by decide, by decide⟩
theorem Rl_L : Rl 130 1 0 (xM evL) := by
  have z : ∀ c k, ¬ SupX c k → xM evL c k = nI 0 := fun c k h => z_L h
  obtain ⟨v1, v2, v3, v4⟩ := vals
  have h103 : xM evL 179 103 = nI 1 := by rw [xM_xV, v4]
  have n0 : ∀ i, ¬ SupX 179 i → q_n (xM evL 179) i = 0 := fun i h => q_n_of (z 179 i h) (by decide)
  have l0 : ∀ i k, ¬ SupX 179 i → 1 ≤ k → k ≤ 2 ^ 31 → q_lt (xM evL 179) i k := fun i k h h1 h2 => (q_lt_of (z 179 i h) h1 h2).1
  have e96 := n0 96 (by unfold SupX; omega)
  have e98 := n0 98 (by unfold SupX; omega)
  have e99 := n0 99 (by unfold SupX; omega)
  have e104 := n0 104 (by unfold SupX; omega)
  have eq2 : ∀ c k i, ¬ SupX c k → ¬ SupX 179 i → xM evL c k = xM evL 179 i := fun c k i h1 h2 => (z c k h1).trans (z 179 i h2).symm
  have law : ∀ c k, (c = 31 ∧ k = 0) ∨ (c = 37 ∧ k = 1) → CRlaw (xM evL) c (xM evL 179) k := fun c k hck => by
    have en : q_n (xM evL 179) (100 + k) = 0 := n0 _ (by unfold SupX; omega)
    refine ⟨eq2 _ _ _ (by unfold SupX; omega) (by unfold SupX; omega), fun i hi => ?_, 0, by decide, z _ _ (by unfold SupX; omega), fun i hi => absurd hi (Nat.not_lt_zero i)⟩
    rw [en] at hi
    exact absurd hi (Nat.not_lt_zero i)
  refine ⟨⟨⟨⟨?_, ?_, ?_, law 31 0 (Or.inl ⟨rfl, rfl⟩), law 37 1 (Or.inr ⟨rfl, rfl⟩)⟩, ?_, ?_, ?_⟩, ?_⟩, ?_, ?_, ?_, ?_⟩
  · refine ⟨eq2 _ _ _ (by unfold SupX; omega) (by unfold SupX; omega), eq2 _ _ _ (by unfold SupX; omega) (by unfold SupX; omega), eq2 _ _ _ (by unfold SupX; omega) (by unfold SupX; omega), ?_, fun t ht => ?_, fun t ht => ?_, fun t ht => ?_, fun t ht => ?_, fun t ht => ?_, fun t ht => ?_, fun t ht => ?_⟩
    · rw [h103]
      show xM evL 2 3 = nI 1
      rw [xM_xV, v1]
    all_goals exact eq2 _ _ _ (by unfold SupX; omega) (by unfold SupX; omega)
  · refine ⟨eq2 _ _ _ (by unfold SupX; omega) (by unfold SupX; omega), eq2 _ _ _ (by unfold SupX; omega) (by unfold SupX; omega), fun t ht => ?_, fun t ht => ?_, fun t ht => ?_, fun t ht => ?_, fun t ht => ?_⟩
    all_goals exact eq2 _ _ _ (by unfold SupX; omega) (by unfold SupX; omega)
  · refine ⟨eq2 _ _ _ (by unfold SupX; omega) (by unfold SupX; omega), fun t ht => ?_, fun t ht => ?_, fun t ht => ?_, fun t ht => ?_, fun t ht => ?_⟩
    all_goals exact eq2 _ _ _ (by unfold SupX; omega) (by unfold SupX; omega)
  · refine ⟨eq2 _ _ _ (by unfold SupX; omega) (by unfold SupX; omega), eq2 _ _ _ (by unfold SupX; omega) (by unfold SupX; omega), eq2 _ _ _ (by unfold SupX; omega) (by unfold SupX; omega), eq2 _ _ _ (by unfold SupX; omega) (by unfold SupX; omega), fun t ht => ?_, fun t ht => ?_, fun t ht => ?_, fun t ht => ?_, fun t ht => ?_, fun t ht => ?_⟩
    · exact eq2 _ _ _ (by unfold SupX; omega) (by unfold SupX; omega)
    · exact eq2 _ _ _ (by unfold SupX; omega) (by unfold SupX; omega)
    · exact eq2 _ _ _ (by unfold SupX; omega) (by unfold SupX; omega)
    · exact eq2 _ _ _ (by unfold SupX; omega) (by unfold SupX; omega)
    · exact eq2 _ _ _ (by unfold SupX; omega) (by unfold SupX; omega)
    · rw [Nat.one_mul]
      show xM evL 16 t = xM evL 179 (4 + t)
      rw [xM_xV, xM_xV, (val4 t ht).1, (val4 t ht).2]
  · refine ⟨⟨l0 _ _ (by unfold SupX; omega) (by decide) (by decide), l0 _ _ (by unfold SupX; omega) (by decide) (by decide), l0 _ _ (by unfold SupX; omega) (by decide) (by decide), l0 _ _ (by unfold SupX; omega) (by decide) (by decide), l0 _ _ (by unfold SupX; omega) (by decide) (by decide)⟩, l0 _ _ (by unfold SupX; omega) (by decide) (by decide), (q_lt_of h103 (by decide) (by decide)).1, fun t ht => ?_, fun m hm => ?_, fun i hi => ?_, fun i hi => ?_, fun i hi => ?_⟩
    · refine ⟨?_, l0 _ _ (by unfold SupX; omega) (by decide) (by decide), l0 _ _ (by unfold SupX; omega) (by decide) (by decide), l0 _ _ (by unfold SupX; omega) (by decide) (by decide)⟩
      have a := l0 (17 + 10 * t) 4 (by unfold SupX; omega) (by decide) (by decide)
      have b := l0 (16 + 10 * t) 4 (by unfold SupX; omega) (by decide) (by decide)
      exact ⟨a.1, a.2, b.1, b.2⟩
    · exact ⟨l0 _ _ (by unfold SupX; omega) (by decide) (by decide), l0 _ _ (by unfold SupX; omega) (by decide) (by decide)⟩
    · rw [e98] at hi; exact absurd hi (Nat.not_lt_zero i)
    · rw [e104] at hi; exact absurd hi (Nat.not_lt_zero i)
    · rw [e99] at hi; exact absurd hi (Nat.not_lt_zero i)
  · refine ⟨l0 _ _ (by unfold SupX; omega) (by decide) (by decide), l0 _ _ (by unfold SupX; omega) (by decide) (by decide), fun b hb => ?_, fun t ht => ?_, fun i hi => ?_⟩
    · refine (q_lt_of (j := 15) ?_ (by decide) (by decide)).1
      rw [xM_xV, (val4 b hb).2]
    · exact ⟨l0 _ _ (by unfold SupX; omega) (by decide) (by decide), l0 _ _ (by unfold SupX; omega) (by decide) (by decide), fun _ => z _ _ (by unfold SupX; omega)⟩
    · rw [e98] at hi; exact absurd hi (Nat.not_lt_zero i)
  · intro t ht
    exact eq2 _ _ _ (by unfold SupX; omega) (by unfold SupX; omega)
  · exact ⟨(z _ _ (by unfold SupX; omega)).trans (z _ _ (by unfold SupX; omega)).symm, Or.inl (z _ _ (by unfold SupX; omega))⟩
  · exact ⟨0, 0, fun _ _ => 0, by decide, by decide, ⟨z _ _ (by unfold SupX; omega), z _ _ (by unfold SupX; omega), fun j hj => absurd hj (Nat.not_lt_zero j)⟩, ⟨z _ _ (by unfold SupX; omega), fun j hj => absurd hj (Nat.not_lt_zero j)⟩, fun j hj => absurd hj (Nat.not_lt_zero j)⟩
  · exact RlT.none (a := nI 0) (b := -1) (z _ _ (by unfold SupX; omega)) (z _ _ (by unfold SupX; omega)) (by rw [xM_xV, v3, m1n]) (z _ _ (by unfold SupX; omega)) (z _ _ (by unfold SupX; omega)) (by rw [xM_xV, v2, m1n])
  · exact ⟨Or.inl rfl, z _ _ (by unfold SupX; omega), fun i hi => ⟨0, z _ _ (by unfold SupX; omega), by decide⟩⟩
noncomputable def t_312_0 (X : KXw) (cl : CLw) : Option TRw := bnd (cl 11 [.inr (.inl 0)] (gD (1, 12, [(0, 0, 11, 0)])) (mD (1, 12, [(0, 0, 11, 0)]))) fun _ G2 M2 => bnd (cl 12 [.inr (.inl G2.1)] (G2.1 + 1, G2.2.1 + 39, fun c' => if c' = G2.1 then (12, 0) else G2.2.2.1 c', fun c' k' => if c' = G2.1 then 0 else G2.2.2.2 c' k') (fun c' k' => if c' = G2.1 then 0 else M2 c' k')) fun _ G4 M4 => some (.inr (18, [some (.inr (.inr 57)), some (.inr (.inl 0)), some (.inr (.inl G2.1)), some (.inl (Int32.ofNat 0))], [], G4, M4))
set_option maxRecDepth 100000 in
theorem t_312_0_ok (X : KXw) (cl : CLw) : seg X cl 312 1000 0 [some (.inr (.inr 57)), none, none, none] [] G00 M00 = t_312_0 X cl := (rfl)
theorem hpure (X : KXw) (hX : X.1 ≤ 3072) : ∃ G' M', Ev X (callw X 1000) 312 0 [some (.inr (.inr 57)), none, none, none] [] G00 M00 (1, G', M') ∧ G'.1 ≤ 600000 ∧ G'.2.1 ≤ 7302250 := by
  obtain ⟨G', M', ev, b1, b2⟩ := L_loop (X := X) hX 600 0 (by omega) (by decide) (Nat.le_refl _) Rl_L Sh_L
  refine ⟨G', M', Ev_of (t_312_0_ok X (callw X 1000)) ?_, b1, b2⟩
  unfold t_312_0
  have hA := xcl_ok (X := X) 1000 _ _ _ _ ctorA
  have hB := xcl_ok (X := X) 1000 _ _ _ _ ctorB
  rw [hA, bnd_some]
  have e1 : ((gD (178, 7655, evA)).1 + 1, (gD (178, 7655, evA)).2.1 + 39, fun c' => if c' = (gD (178, 7655, evA)).1 then (12, 0) else (gD (178, 7655, evA)).2.2.1 c', fun c' k' => if c' = (gD (178, 7655, evA)).1 then 0 else (gD (178, 7655, evA)).2.2.2 c' k') = gD (179, 7694, (0, 178, 12, 0) :: evA) := rfl
  have e2 : (fun c' k' => if c' = (gD (178, 7655, evA)).1 then 0 else mD (178, 7655, evA) c' k') = mD (179, 7694, (0, 178, 12, 0) :: evA) := rfl
  rw [e1, e2]
  rw [show (gD (178, 7655, evA)).1 = 178 from rfl, hB, bnd_some, G_L]
  exact ev
end
