section
def strQ (j : Nat) : String × Nat := [(RX7, 92), (RX7, 85), (RX12, 147), (RX12, 149), (RX12, 151), (RX12, 153), (RX12, 158), (RX12, 160), (RX12, 162), (RX12, 164), (RX12, 166), (RX12, 123), (RX12, 129), (RX12, 131), (RX12, 133), (RX12, 135), (RX12, 137), (RX12, 139), (RX12, 141), (RX12, 143), (RX12, 145), (RX12, 171), (RX12, 173), (RX12, 175), (RX12, 177), (RX12, 179), (RX12, 181), (RX12, 183)].getD j ("", 0)
def sqL : List (Nat × Nat) := [(4, 34), (4, 87), (7, 29), (7, 36), (7, 37), (7, 38), (7, 39), (7, 40), (7, 41), (7, 42), (7, 43), (7, 48), (7, 49), (7, 50), (7, 51), (7, 52), (7, 53), (7, 54), (7, 55), (7, 56), (7, 57), (7, 62), (7, 63), (7, 64), (7, 69), (7, 70), (7, 71), (7, 72)]
def nsL : List Nat := [20, 160, 174, 182, 188, 195, 202, 210, 218, 226, 234, 242, 251, 259, 268, 277, 285, 293, 303, 311, 322, 332, 340, 349, 358, 366, 373, 381]
def orP : Nat := 10
def coP : Nat := 4
def siP : Nat := 5
theorem strQ_all : lw_tbl.all (fun w => match w with
  | .stringRef o i tx => (List.range 28).all (fun j => !(tx == strw j) || (o == (strQ j).1 && i == (strQ j).2))
  | _ => true) = true := by decide +kernel
theorem strQ_ok {own : String} {i j : Nat} (hj : j < 28) (h : Cond.stringRef own i (strw j) ∈ lw_tbl) : own = (strQ j).1 ∧ i = (strQ j).2 := by
  have h1 := List.all_eq_true.mp (List.all_eq_true.mp strQ_all _ h) j (List.mem_range.mpr hj)
  simpa using h1
theorem strQ_in : ∀ j, j < 28 → wdw (sqL.getD j (99, 99)) = some (.stringRef (strQ j).1 (strQ j).2 (strw j)) := by decide +kernel
def narT : List Cond := flatC (Jvm.Cond.and given_1 narrow_1)
def tmw (j : Nat) : Term := .string (strQ j).1 (strQ j).2
def elw (j k : Nat) : Cond := .eq (.elem (.field (tmw j) "java/lang/String" "value" "[B") (.int (Int32.ofNat k))) (.int ((bytJ.getD j []).getD k 0))
def narAt (j : Nat) : Nat := nsL.getD j 0
/-- the words on the j-th string stand one behind another -/
def narOk (j : Nat) : Bool := decide (narT[narAt j]? = some (.exactly (tmw j) "java/lang/String")) && decide (narT[narAt j + 1]? = some (.eq (.field (tmw j) "java/lang/String" "coder" "B") (.int 0))) && decide (narT[narAt j + 2]? = some (.arrayOf (.field (tmw j) "java/lang/String" "value" "[B") .byte)) && decide (narT[narAt j + 3]? = some (.eq (.length (.field (tmw j) "java/lang/String" "value" "[B")) (.int (Int32.ofNat (lenJ.getD j 0))))) && (List.range (lenJ.getD j 0)).all (fun k => decide (narT[narAt j + 4 + k]? = some (elw j k)))
theorem narOk_all : (List.range 28).all narOk = true := by decide +kernel
theorem kon_all : ((List.range 28).all (fun j => decide (lenJ.getD j 0 < 2 ^ 31))) = true := by decide +kernel
theorem ord_all : ∀ j, j < 8 → narT[orP + 2 + j]? = some (.eq (.elem (.static "ToolUnion$Crew" "ORDERS_OF" "[I") (.int (Int32.ofNat j))) (.int (ordJ.getD j 0))) := by decide +kernel
theorem ord_one : narT[orP]? = some (.arrayOf (.static "ToolUnion$Crew" "ORDERS_OF" "[I") .int) ∧ narT[orP + 1]? = some (.eq (.length (.static "ToolUnion$Crew" "ORDERS_OF" "[I")) (.int 8)) := by decide +kernel
theorem sta_all : narT[coP]? = some (.eq (.static "java/lang/String" "COMPACT_STRINGS" "Z") (.int 1)) ∧ narT[siP]? = some (.isRef (.static "jdk/internal/util/Preconditions" "SIOOBE_FORMATTER" "Ljava/util/function/BiFunction;")) := by decide +kernel
theorem lay_all : Cond.laysStatic "java/lang/String" "COMPACT_STRINGS" "Z" ∈ lw_tbl ∧ Cond.laysStatic "ToolUnion$Crew" "ORDERS_OF" "[I" ∈ lw_tbl ∧ Cond.laysStatic "jdk/internal/util/Preconditions" "SIOOBE_FORMATTER" "Ljava/util/function/BiFunction;" ∈ lw_tbl ∧ Cond.initialized "java/lang/String" ∈ lw_tbl ∧ Cond.initialized "ToolUnion$Crew" ∈ lw_tbl ∧ Cond.initialized "jdk/internal/util/Preconditions" ∈ lw_tbl ∧ Cond.arrayOver (.object "ToolUnion$Moves") ∈ lw_tbl := by decide +kernel
set_option maxHeartbeats 4000000 in
theorem str_all {args : Array Value} {s : State} (hs : ∀ w ∈ narT, w.before args s = true) : ∃ ad : Nat → Nat × Nat, ∀ j, j < 28 → (tmw j).eval args s none [] s = some (.ref (ad j).1) ∧ va_O "java/lang/String" (ad j).1 (fun q => s.heap.size ≤ q) s s.heap ∧ va_OF "java/lang/String" "coder" "B" (.int 0) (ad j).1 (fun q => s.heap.size ≤ q) s s.heap ∧ va_OF "java/lang/String" "value" "[B" (.ref (ad j).2) (ad j).1 (fun q => s.heap.size ≤ q) s s.heap ∧ va_T .byte (ad j).2 (lenJ.getD j 0) (fun k => .int ((bytJ.getD j []).getD k 0)) (fun q => s.heap.size ≤ q) s s.heap := by
  have hA : ∀ a : Nat, a < s.heap.size → ¬ (fun q => s.heap.size ≤ q) a := fun a h => Nat.not_le.mpr h
  have h0 : ∀ j : Nat, ∃ q : Nat × Nat, j < 28 → (tmw j).eval args s none [] s = some (.ref q.1) ∧ va_O "java/lang/String" q.1 (fun q => s.heap.size ≤ q) s s.heap ∧ va_OF "java/lang/String" "coder" "B" (.int 0) q.1 (fun q => s.heap.size ≤ q) s s.heap ∧ va_OF "java/lang/String" "value" "[B" (.ref q.2) q.1 (fun q => s.heap.size ≤ q) s s.heap ∧ va_T .byte q.2 (lenJ.getD j 0) (fun k => .int ((bytJ.getD j []).getD k 0)) (fun q => s.heap.size ≤ q) s s.heap := by
    intro j
    by_cases hj : j < 28
    · have hok := List.all_eq_true.mp narOk_all j (List.mem_range.mpr hj)
      unfold narOk at hok
      simp only [Bool.and_eq_true, decide_eq_true_eq] at hok
      obtain ⟨⟨⟨⟨n1, n2⟩, n3⟩, n4⟩, n5⟩ := hok
      have hlen : lenJ.getD j 0 < 2 ^ 31 := of_decide_eq_true (List.all_eq_true.mp kon_all j (List.mem_range.mpr hj))
      have hel : ∀ k, k < lenJ.getD j 0 → (elw j k).before args s = true := fun k hk => hs _ (List.mem_of_getElem? (of_decide_eq_true (List.all_eq_true.mp n5 k (List.mem_range.mpr hk))))
      have z1 : ∀ i : Nat, i < 1 → [lenJ.getD j 0].getD i 0 < 2 ^ 31 := fun i hi => by
        have h0 : i = 0 := by omega
        subst h0
        exact hlen
      have z2 : ∀ i : Nat, i < 1 → (Cond.eq (.length (.field (tmw j) "java/lang/String" "value" "[B")) (.int (Int32.ofNat ([lenJ.getD j 0].getD i 0)))).before args s = true := fun i hi => by
        have h0 : i = 0 := by omega
        subst h0
        exact hs _ (List.mem_of_getElem? n4)
      have z3 : ∀ i : Nat, i < 1 → ∀ k : Nat, k < [lenJ.getD j 0].getD i 0 → (Cond.eq (.elem (.field (tmw j) "java/lang/String" "value" "[B") (.int (Int32.ofNat k))) (.int (([bytJ.getD j []].getD i []).getD k 0))).before args s = true := fun i hi k hk => by
        have h0 : i = 0 := by omega
        subst h0
        exact hel k hk
      obtain ⟨aK, aV, hv, he⟩ := vk_Sof (args := args) (s := s) (N := 1) (tm := fun _ => tmw j) (len := [lenJ.getD j 0]) (byt := [bytJ.getD j []]) (A := fun q => s.heap.size ≤ q) z1 (fun i hi => hs _ (List.mem_of_getElem? n1)) (fun i hi => hs _ (List.mem_of_getElem? n2)) (fun i hi => hs _ (List.mem_of_getElem? n3)) z2 z3 (fun i k hi hk hne => absurd (by omega : i = k) hne) hA
      exact ⟨(aK 0, aV 0), fun _ => ⟨he 0 (by omega), hv.1 0 (by omega)⟩⟩
    · exact ⟨(0, 0), fun h => absurd h hj⟩
  obtain ⟨ad, had⟩ := Classical.axiomOfChoice h0
  exact ⟨ad, had⟩
theorem arr_known {args : Array Value} {s : State} {ty : FieldType} (hno : ∀ C, ty ≠ .object C) (h : (Cond.arrayClass ty).before args s = true) : ∃ cA, ArrOfT s cA ty ∧ va_RA s cA ty := by
  obtain ⟨cA, kA, comp, h1, h2, h3⟩ := Cond.arrayClass_spec h
  refine ⟨cA, fun n z => ⟨(fun _ q => by cases q), kA, h2, comp, h3⟩, ?_⟩
  cases ty <;> first | exact h1 | exact absurd rfl (hno _)
theorem arr_over {args : Array Value} {s : State} {C : String} (h : (Cond.arrayOver (.object C)).before args s = true) : ∃ cA, ArrOfT s cA (.object C) ∧ va_RA s cA (.object C) := by
  obtain ⟨comp, cA, kA, h1, h2, h3, h4, h5⟩ := Cond.arrayOver_spec h
  exact ⟨cA, fun n z => ⟨(fun _ q => by cases q), kA, h3, comp, h4⟩, kA, comp, h3, h4, h1, h5⟩
set_option maxHeartbeats 4000000 in
/-- the law's start: all that the pure machine takes as given -/
theorem start_ok {p : Program} {s : State} {m : MethodId} {meth : Method} {c : Code} {b L : Nat} {xs : Nat → Int32} (C0 : lw_At p s m meth c b L xs) : ∃ F : Fxw, F.2.2.2.2.2 = (L, xs) ∧ F.2.2.2.1.2 = b ∧ Cxw p s m #[Value.ref b] meth c F (fun q => s.heap.size ≤ q) 312 room_1 1000 := by
  obtain ⟨hx, hb, hr, hml, hown, hts, hX, hbl, hlocks, hgv⟩ := id C0
  have hs : ∀ w ∈ narT, w.before #[Value.ref b] s = true := flat_of_before _ hgv
  have hA : ∀ a : Nat, a < s.heap.size → ¬ (fun q => s.heap.size ≤ q) a := fun a h => Nat.not_le.mpr h
  have htg : ∀ w ∈ gw_tbl, w.before #[Value.ref b] s = true := fun w hw => hts w (List.mem_filter.mp hw).1
  obtain ⟨ad, had⟩ := str_all hs
  have hcl : ∀ k : Nat, ∃ q : ClassId × (Nat → Nat), ∀ r, vwCl[k]? = some r → u_Kn s r.1 r.2.1 r.2.2 q.1 q.2 := by
    intro k
    by_cases hk : k < 13
    · obtain ⟨r, hr, e1, e2, e3⟩ := vwCl_get hk
      have hins := (ins_ok k hk).1
      rw [e1, e3] at hins
      obtain ⟨c1, i1, h1⟩ := u_known (C := r.1) (T := r.2.1) (N := r.2.2) (n := r.2.2) htg (uws_ok hr) (hts _ (wdw_mem hins))
      exact ⟨(c1, i1), fun r2 h2 => by rw [hr] at h2; cases h2; exact h1⟩
    · exact ⟨(0, fun _ => 0), fun r h => absurd (List.getElem?_eq_some_iff.mp h).1 hk⟩
  obtain ⟨dD, hdD⟩ := Classical.axiomOfChoice hcl
  obtain ⟨c0, k0, k0'⟩ := arr_known (fun C h => by cases h) (htg _ arr_ok.1)
  obtain ⟨c1, k1, k1'⟩ := arr_known (fun C h => by cases h) (htg _ arr_ok.2)
  obtain ⟨c2, k2, k2'⟩ := arr_over (hts _ lay_all.2.2.2.2.2.2)
  obtain ⟨aO, hO, hOT⟩ := va_Tof (args := #[Value.ref b]) (s := s) (tm := .static "ToolUnion$Crew" "ORDERS_OF" "[I") (ty := .int) (N := 8) (f := fun j => .int (ordJ.getD j 0)) (A := fun q => s.heap.size ≤ q) (by decide) (hs _ (List.mem_of_getElem? ord_one.1)) (va_eqt (hs _ (List.mem_of_getElem? ord_one.2))) (fun j hj => va_eqt (hs _ (List.mem_of_getElem? (ord_all j hj)))) hA
  obtain ⟨vF, hvF, hvr⟩ := Cond.isRef_spec (hs _ (List.mem_of_getElem? sta_all.2))
  refine ⟨((fun k => (dD k).1, fun k => (dD k).2), (fun k => if k = 0 then c0 else if k = 1 then c1 else c2), ((fun j => (ad j).1), (fun j => (ad j).2)), (aO, b), vF, (L, xs)), rfl, rfl, hx, hb, hml, hown, htg, fun h => absurd h (by decide +kernel), ⟨fun k q hq => hdD k q hq, fun k q hq => ?_⟩, ⟨fun w hw hn => ?_, va_AO.of (hts _ lay_all.2.2.2.2.2.2), fun own i j hj hm => ?_, fun j hj => (had j hj).2, va_Zof (hts _ lay_all.1) (hts _ lay_all.2.2.2.1) (va_eqi (hs _ (List.mem_of_getElem? sta_all.1))) hA, va_Zof (hts _ lay_all.2.1) (hts _ lay_all.2.2.2.2.1) hO hA, hOT, va_Zof (hts _ lay_all.2.2.1) (hts _ lay_all.2.2.2.2.2.1) hvF hA, ?_⟩, fun _ h => h, by decide, by decide, ?_⟩
  · match k, hq with
    | 0, hq => cases hq; exact ⟨k0, k0'⟩
    | 1, hq => cases hq; exact ⟨k1, k1'⟩
    | 2, hq => cases hq; exact ⟨k2, k2'⟩
    | k + 3, hq => cases hq
  · have h1 := hts w hw
    cases w <;> simp only [isNst] at hn <;> first | exact va_Nw.of rfl h1 | cases hn
  · obtain ⟨rfl, rfl⟩ := strQ_ok hj hm
    exact vk_R.of (hts _ hm) (had j hj).1
  · obtain ⟨scr, h1, h2, h3, h4, h5⟩ := hX
    exact ⟨scr, h1, h2, h3, Nat.le_of_eq h4.symm, by rw [h4], h5, Nat.not_le.mpr hbl⟩
  · cases vF <;> first | rfl | (simp [Value.isRef] at hvr)
def G00 : GGw := (0, 0, fun _ => (999, 0), fun _ _ => 0)
def M00 : MMw := fun _ _ => 0
set_option maxHeartbeats 4000000 in
/-- the law, from what the pure machine says of it -/
theorem whole_pure (hpure : ∀ X : KXw, X.1 ≤ 3072 → ∃ G' M', Ev X (callw X 1000) 312 0 [some (.inr (.inr 57)), none, none, none] [] G00 M00 (1, G', M') ∧ G'.1 ≤ 600000 ∧ G'.2.1 ≤ 7302250) {p : Program} {e : Env} {s : State} {m : MethodId} {below : List Frame} {meth : Method} {c : Code} (l : Launch) {b L : Nat} {xs : Nat → Int32} (hL : L ≤ 3072) (C0 : lw_At p s m meth c b L xs) : W p l e room_1 s m #[Value.ref b] below meth c s.heap [] 0 0 (lw_Z below #[Value.ref b] s) (entryFrame m ([Value.ref b] : List Value).toArray 4) := by
  obtain ⟨F, hF1, hF2, C⟩ := start_ok C0
  obtain ⟨hx, hb, hr, hml, hown, hts, hX, hbl, hlocks, hgv⟩ := id C0
  obtain ⟨G', M', ⟨n, hn⟩, hg1, hg2⟩ := hpure (L, xs) hL
  rw [← hF1] at hn
  have hvc := C.2.2.2.2.2.2.2.2.2.2.2
  have hl := lv_entry ([.ref b]) (n := 4) (Nat.le_of_ble_eq_true rfl)
  rw [lg_entry_eq]
  generalize (lg_sl ([.ref b]) ++ List.replicate (4 - (lg_sl ([.ref b])).length) Slot.unset).toArray = lr at hl ⊢
  have hk : kvw F 57 = .ref b := by unfold kvw; rw [if_neg (by omega), if_neg (by omega), if_neg (by omega), if_pos rfl, hF2]
  have hl2 : lv_has lr (mlw 312) (lvw F (fun _ => 0) [some (.inr (.inr 57)), none, none, none]) := by
    refine ⟨hl.1, hl.2.1, fun q hq => ?_⟩
    obtain ⟨j, w⟩ := q
    obtain ⟨v, hv, rfl⟩ := lvw_mem.mp hq
    match j, hv with
    | 0, hv =>
      cases hv
      have := hl.2.2 (0, .ref b) List.mem_cons_self
      rw [show rvw F (fun _ => 0) (.inr (.inr 57)) = .ref b from hk]
      exact this
    | 1, hv => cases hv
    | 2, hv => cases hv
    | 3, hv => cases hv
    | k + 4, hv => cases hv
  have hP0 : va_P F.1 vwCl (rzw F (fun _ => 0) G00 M00) s.heap := fun k q h => by simp [rzw, G00] at h
  have hD0 : va_D (fun q => s.heap.size ≤ q) (rzw F (fun _ => 0) G00 M00) := ⟨fun i j p q h => by simp [rzw, G00] at h, fun k q h => by simp [rzw, G00] at h⟩
  have hlaw : chkC 312 = true := chkC_law
  refine runW (Q := lw_Z below #[Value.ref b] s) (r := 1) (G' := G') (M' := M') (g0 := 0) (cf := G'.1) (sf := G'.2.1) (ad0 := fun _ => 0) C (metW l F hvc 1000) (callw_no _ 1000) (callw_le _ 1000) (callw_wf _ 1000) hlaw hg1 hg2 ?_ ?_ n 0 _ [] G00 M00 s.heap [] 0 0 (fun _ => 0) lr hn (Nat.zero_le _) (fun _ _ => rfl) (by show G'.1 = 0 + (G'.1 - 0); omega) (by show G'.2.1 = 0 + (G'.2.1 - 0); omega) hP0 hD0 va_S.rf (fun c hc => absurd hc (Nat.not_lt_zero _)) (fun i v hv => ?_) wfS_nil (Nat.le_of_eq rfl) hl2
  · intro pc ad' H' locs' lr' a1 a2 a3 a4 a5 a6
    exact va_forget a6.2.2 (W.widen hg1 hg2 (lw_ret hx hb hr hlocks a2))
  · intro pc ad' H' locs' lr' a1 a2 a3
    exact absurd a3 (by decide +kernel)
  · match i, hv with
    | 0, hv => cases hv; exact trivial
    | 1, hv => cases hv
    | 2, hv => cases hv
    | 3, hv => cases hv
    | k + 4, hv => cases hv
end
