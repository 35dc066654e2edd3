section
def chkN (mid : Nat) : Bool := (codeOf mid).all (fun t => t.all (fun x => match x with
  | (_, .new _, _, a, _, _) => decide (a ≠ 99)
  | _ => true))
theorem chkN_all : alT.all chkN = true := by decide +kernel
theorem fetch_mem {mid pc : Nat} {x : EEw} (hf : fetch mid pc = some x) : ∃ t ∈ codeOf mid, x ∈ t := by
  unfold fetch at hf
  unfold codeOf
  cases h1 : codeT[mid / 16]? with
  | none => rw [h1] at hf; cases hf
  | some t1 =>
    rw [h1] at hf
    dsimp only at hf ⊢
    cases h2 : t1[mid % 16]? with
    | none => rw [h2] at hf; cases hf
    | some t2 =>
      rw [h2] at hf
      dsimp only at hf ⊢
      unfold lk at hf
      cases h3 : t2[pc / 16]? with
      | none => rw [h3] at hf; cases hf
      | some t3 =>
        rw [h3] at hf
        exact ⟨t3, List.mem_of_getElem? h3, List.mem_of_find?_eq_some hf⟩
theorem new_ok {mid pc x1 x2 a b c i : Nat} (hal : alm mid = true) (hf : fetch mid pc = some (x1, .new i, x2, a, b, c)) : a ≠ 99 := by
  obtain ⟨t, ht, hx⟩ := fetch_mem hf
  unfold alm at hal
  have h := List.all_eq_true.mp (List.all_eq_true.mp (List.all_eq_true.mp chkN_all mid (by simpa using hal)) t ht) _ hx
  exact of_decide_eq_true h
theorem lg_len {F : Fxw} (hvc : (F.2.2.2.2.1).category = 1) {ad : Nat → Nat} : ∀ as : List PVw, (lg_sl (as.map (rvw F ad))).length = as.length
  | [] => rfl
  | v :: as => by
    have h := lg_len hvc (ad := ad) as
    unfold lg_sl at h ⊢
    rw [List.map_cons, List.flatMap_cons, List.length_append, h, rvw_cat hvc, if_neg (by omega), List.length_cons, List.length_cons, List.length_nil]
    omega
theorem args_mem {F : Fxw} (hvc : (F.2.2.2.2.1).category = 1) {ad : Nat → Nat} : ∀ (as : List PVw) (i0 i : Nat) (v : PVw), as[i]? = some v → (i0 + i, rvw F ad v) ∈ lv_args i0 (as.map (rvw F ad))
  | [], _, _, _, h => by cases h
  | u :: as, i0, 0, v, h => by
    cases h
    exact List.mem_cons_self
  | u :: as, i0, i + 1, v, h => by
    have h1 := args_mem hvc (ad := ad) as (i0 + 1) i v h
    rw [List.map_cons]
    unfold lv_args
    rw [rvw_cat hvc, if_neg (by omega)]
    refine List.mem_cons_of_mem _ ?_
    rw [show i0 + (i + 1) = i0 + 1 + i by omega]
    exact h1
theorem lvw_cin {F : Fxw} (hvc : (F.2.2.2.2.1).category = 1) {ad : Nat → Nat} {a nL : Nat} {as : List PVw} {lr : Array Slot} (h : lv_has lr nL (lv_args 0 (as.map (rvw F ad)))) : lv_has lr nL (lvw F ad (cin a as)) := by
  refine ⟨h.1, h.2.1, fun q hq => ?_⟩
  obtain ⟨j, w⟩ := q
  obtain ⟨v, hv, rfl⟩ := lvw_mem.mp hq
  unfold cin at hv
  have hj : as[j]? = some v := by
    by_cases hl : j < (as.map some).length
    · rw [List.getElem?_append_left hl, List.getElem?_map] at hv
      cases hx : as[j]? with
      | none => rw [hx] at hv; cases hv
      | some y => rw [hx] at hv; cases hv; rfl
    · rw [List.getElem?_append_right (by omega)] at hv
      have := List.mem_of_getElem? hv
      cases (List.mem_replicate.mp this).2
  have := args_mem hvc (ad := ad) as 0 j v hj
  rw [Nat.zero_add] at this
  exact h.2.2 _ this
section
variable {p : Program} {l : Launch} {e : Env} {R : Room} {s : State} {m : MethodId} {args : Array Value} {below : List Frame} {meth : Method} {c : Code} {Q : State → Prop} {F : Fxw} {A0 : Nat → Prop} {mid d : Nat} {cl : CLw}
set_option maxHeartbeats 2000000 in
/-- a run, to its end -/
theorem runW (C : Cxw p s m args meth c F A0 mid R d) (hcl : HCw l F cl d) (hno : ∀ as G M, cl 9997 as G M = none) (hle : ∀ a as G M r G2 M2, cl a as G M = some (r, G2, M2) → Gle G G2 ∧ (alm a = false → G2 = G)) (hwf : wfC cl) (hchk : chkC mid = true)
    {r : Int32} {G' : GGw} {M' : MMw} {g0 cf sf : Nat} {ad0 : Nat → Nat} (hcf : cf ≤ R.cells) (hsf : sf ≤ R.slots)
    (hI : ∀ (pc : Nat) (ad' : Nat → Nat) (H' : Heap) (locs' : List Loc) (lr' : Array Slot), (∀ i, i < g0 → ad' i = ad0 i) → decode (bmw mid) pc = .ok (.ireturn, 1) → (∃ ty, rtw mid = some ty ∧ narrow ty (.int r) = .int r) → va_P F.1 vwCl (rzw F ad' G' M') H' → va_D A0 (rzw F ad' G' M') → va_S A0 s.heap H' locs' → W p l e R s m args below meth c H' locs' cf sf Q (F0 m pc lr' [.int r]))
    (hV : ∀ (pc : Nat) (ad' : Nat → Nat) (H' : Heap) (locs' : List Loc) (lr' : Array Slot), (∀ i, i < g0 → ad' i = ad0 i) → decode (bmw mid) pc = .ok (.return_, 1) → rtw mid = none → va_P F.1 vwCl (rzw F ad' G' M') H' → va_D A0 (rzw F ad' G' M') → va_S A0 s.heap H' locs' → W p l e R s m args below meth c H' locs' cf sf Q (F0 m pc lr' [])) :
    ∀ (n pc : Nat) (ls : LSw) (st : List PVw) (G : GGw) (M : MMw) (H : Heap) (locs : List Loc) (cells slots : Nat) (ad : Nat → Nat) (lr : Array Slot), run F.2.2.2.2.2 cl mid n pc ls st G M = some (r, G', M') → g0 ≤ G.1 → (∀ i, i < g0 → ad i = ad0 i) → cf = cells + (G'.1 - G.1) → sf = slots + (G'.2.1 - G.2.1) → va_P F.1 vwCl (rzw F ad G M) H → va_D A0 (rzw F ad G M) → va_S A0 s.heap H locs → wfG G → wfL G ls → wfS G st → ls.length ≤ mlw mid → lv_has lr (mlw mid) (lvw F ad ls) →
      W p l e R s m args below meth c H locs cells slots Q (F0 m pc lr (st.map (rvw F ad))) := by
  intro n
  induction n with
  | zero => intro pc ls st G M H locs cells slots ad lr h; cases h
  | succ n ih =>
    intro pc ls st G M H locs cells slots ad lr h hg had hc1 hs1 hP hD hS hG hL hW hn hl
    rw [run_eq] at h
    revert h
    cases hf : fetch mid pc with
    | none => exact fun h => by cases h
    | some x =>
      obtain ⟨e0, I, e2, ea, eb, ec⟩ := x
      obtain ⟨hchkE, hpc⟩ := lw_okC hchk hf
      dsimp only at hpc
      subst hpc
      dsimp only
      cases hs : stepw F.2.2.2.2.2 cl (alm mid) e0 I ea eb ec ls st G M with
      | none => exact fun h => by cases h
      | some o =>
        have hw := stepw_wf hwf hs hG hL hW
        have hlw := stepw_le (fun a as G M r G2 M2 h => (hle a as G M r G2 M2 h).1) hs
        rcases o with ⟨x, G1, M1⟩ | ⟨pc1, ls1, st1, G1, M1⟩
        · intro h
          cases h
          obtain ⟨e1, e2', h3⟩ := end_inv hs
          subst e1
          subst e2'
          rw [Nat.sub_self, Nat.add_zero] at hc1 hs1
          subst hc1
          subst hs1
          rcases h3 with ⟨hi, hst, hr⟩ | ⟨hi, hst, hr⟩
          · subst hi
            subst hst
            simp only [chkE, Bool.and_eq_true, decide_eq_true_eq, beq_iff_eq] at hchkE
            obtain ⟨hd, rfl, hq⟩ := hchkE
            refine hI e0 ad H locs lr had hd ?_ hP hD hS
            by_cases h0 : ec = 0
            · rw [if_pos h0, decide_eq_true_eq] at hq
              exact ⟨_, hq, rfl⟩
            · rw [if_neg h0] at hq
              have hr := hr.resolve_left h0
              by_cases h1 : ec = 1
              · rw [if_pos h1, decide_eq_true_eq] at hq
                rw [h1] at hr
                exact ⟨_, hq, congrArg Value.int hr⟩
              · rw [if_neg h1] at hq
                by_cases h2 : ec = 2
                · rw [if_pos h2, decide_eq_true_eq] at hq
                  rw [h2] at hr
                  exact ⟨_, hq, congrArg Value.int hr⟩
                · rw [if_neg h2, decide_eq_true_eq] at hq
                  refine ⟨_, hq, congrArg Value.int ?_⟩
                  unfold nrw at hr
                  split at hr
                  · exact absurd rfl h0
                  · exact absurd rfl h1
                  · exact absurd rfl h2
                  · exact hr
          · subst hi
            subst hst
            simp only [chkE, Bool.and_eq_true, decide_eq_true_eq, beq_iff_eq] at hchkE
            obtain ⟨hd, rfl, hq⟩ := hchkE
            exact hV e0 ad H locs lr had hd hq hP hD hS
        · intro h
          obtain ⟨w1, w2, w3, w4, w5⟩ := hw
          obtain ⟨⟨l1, l2⟩, -⟩ := hlw
          dsimp only [gof] at l1 l2
          obtain ⟨⟨r1, r2⟩, -⟩ := run_le (fun a as G M r G2 M2 h => (hle a as G M r G2 M2 h).1) n _ _ _ _ _ _ _ _ h
          refine stepW C hP hD hS hG hL hW hn hl hchkE ?_ hs ?_ hcl hno (fun a as G M r G2 M2 h => (hle a as G M r G2 M2 h).2) (by omega) (by omega)
          · intro i hi
            subst hi
            cases hal : alm mid with
            | true => exact new_ok hal hf
            | false =>
              rw [hal] at hs
              simp only [stepw, sk] at hs
              cases hs
          · intro ad' H' locs' lr' a1 a2 a3 a4 a5
            exact ih pc1 (nrm (stp mid pc1) ls1) st1 G1 M1 H' locs' _ _ ad' lr' h (Nat.le_trans hg l1) (fun i hi => (a1 i (Nat.lt_of_lt_of_le hi hg)).trans (had i hi)) (by omega) (by omega) a2 a3 a4 w1 (wfL_nrm w2 _) w3 (Nat.le_trans nrm_len (by omega)) (lvw_nrm _ a5)
end
theorem Met.ofWF {l : Launch} {y : MethodName} {ws ws' : List Cond} {rm : Room} {Pc : Array Value → State → Prop} {Qc : Array Value → State → Outcome → State → Prop} {mc ms : Nat} {free : Addr → Prop} {cc : ByteArray} {maxL : Nat} {ret : Option FieldType}
    (hy : plainFor y = true) (hw : ws = Cond.code y cc maxL ret :: ws')
    (body : ∀ p e s m args below meth c s₁, BodyLoose p l y (headSpec ws rm) cc maxL ret e s m args below meth c s₁ → c.maxLocals = maxL → Pc args s →
      W p l e (headSpec ws rm).room s m args below meth c s.heap [] 0 0 (MQ below Qc args s mc ms free) (entryFrame m args maxL)) : Met l y ws rm Pc Qc mc ms free := by
  refine MetFree.of_bodySF (code := cc) (maxLocals := maxL) (ret := ret) hy ?_ ?_
  · intro args s m h hn
    obtain ⟨meth, c, h1, h2, h3, h4, h5, h6, -, -⟩ := Cond.code_spec hn (atoms_spec (ws := ws) h _ (by rw [hw]; exact List.mem_cons_self))
    exact ⟨meth, c, h1, h2, h3, h4, h5, h6⟩
  · intro p e s m args below meth c s₁ B hml hP _
    have hh0 : s₁.heap = s.heap := by rw [B.state]; rfl
    obtain ⟨t, a1, o, b1, b2, b3⟩ := body p e s m args below meth c s₁ B hml hP s₁ hh0 (Stand.of_body B)
    exact ⟨t, o, a1, b1, b2, ⟨b3.1, b3.2⟩⟩
theorem callw_no (X : KXw) : ∀ (D : Nat) (as : List PVw) (G : GGw) (M : MMw), callw X D 9997 as G M = none
  | 0, _, _, _ => rfl
  | D + 1, as, G, M => by
    unfold callw
    rw [dif_neg]
    rintro ⟨r, n, h⟩
    cases n with
    | zero => cases h
    | succ n =>
      rw [run_eq, show fetch 9997 0 = none by decide +kernel] at h
      cases h
set_option maxHeartbeats 2000000 in
/-- every pure call is a contract -/
theorem metW (l : Launch) (F : Fxw) (hvc : (F.2.2.2.2.1).category = 1) : ∀ D, HCw l F (callw F.2.2.2.2.2 D) D
  | 0 => fun a as G M r G2 M2 ha h => by cases h
  | D + 1 => by
    intro a as G M r G2 M2 ha h hG hA hlen ad sz
    obtain ⟨n, hn⟩ := callw_ev h
    obtain ⟨m1, m2, m3, m4, m5, m6, m7⟩ := mdw_ok ha
    obtain ⟨⟨q1, q2⟩, -⟩ := callw_le _ _ _ _ _ _ _ _ _ h
    refine Met.ofWF (cc := bmw a) (maxL := mlw a) (ret := rtw a) (ws' := gw_tbl) m4 rfl ?_
    intro p e s m args below meth c s₁ B hml hv
    obtain ⟨rfl, hsz, hP, hK, hD0, hKP⟩ := hv
    have hts : ∀ w ∈ gw_tbl, w.before (as.map (rvw F ad)).toArray s = true := fun w hw => atoms_spec (ws := wsw a) B.pre w (List.mem_cons_of_mem _ hw)
    have hown : s.vm.findClass (onw a) = some m.cls := by rw [m3]; exact findClass_of_methodNamed B.named
    have hname : meth.name = (ymw a).name := (name_of_methodNamed B.named B.method).1
    have hlocks := B.notSynchronized
    have hr := B.returns
    subst hsz
    have hA' : ∀ q : Nat, s.heap.size ≤ q → va_A (rzw F ad G M) s.heap.size q := fun q h => Or.inr h
    have C : Cxw p s m (as.map (rvw F ad)).toArray meth c F (va_A (rzw F ad G M) s.heap.size) a (rmw (D + 1) (G2.1 - G.1) (G2.2.1 - G.2.1)) D := ⟨B.exec, B.bytes, hml, hown, hts, fun h => by rw [hname, h], hK, hKP, hA', Nat.le_refl _, Nat.le_refl _, hvc⟩
    have hl := lvw_cin (a := a) hvc (lv_entry (as.map (rvw F ad)) (n := mlw a) (by rw [lg_len hvc]; exact hlen))
    rw [lg_entry_eq]
    have hlc : (cin a as).length ≤ mlw a := by unfold cin; rw [List.length_append, List.length_map, List.length_replicate]; omega
    refine runW (Q := MQ below (Qcw F a ad G M s.heap.size r G2 M2) (as.map (rvw F ad)).toArray s (G2.1 - G.1) (G2.2.1 - G.2.1) (va_A (rzw F ad G M) s.heap.size)) (r := r) (G' := G2) (M' := M2) (g0 := G.1) (cf := G2.1 - G.1) (sf := G2.2.1 - G.2.1) (ad0 := ad) C (metW l F hvc D) (callw_no _ D) (callw_le _ D) (callw_wf _ D) (chkC_at ha) (Nat.le_refl _) (Nat.le_refl _) ?_ ?_ n 0 (cin a as) [] G M s.heap [] 0 0 ad _ hn (Nat.le_refl _) (fun _ _ => rfl) (Nat.zero_add _).symm (Nat.zero_add _).symm hP hD0.self va_S.rf hG (wfL_cin hA) wfS_nil hlc hl
    · intro pc ad' H' locs' lr' a1 a2 a3 a4 a5 a6
      obtain ⟨ty, t1, t2⟩ := a3
      refine W.zret C.1 C.2.1 (hr.trans t1) t2 (fun t ht hW => ?_) a6.2.2 a2 hlocks
      unfold Qcw
      rw [if_pos (by rw [t1]; rfl)]
      exact ⟨⟨r, ad', rfl, rfl, a1, by rw [ht]; exact a4, va_K.moved hW.alike hK, a5⟩, a6.F ht⟩
    · intro pc ad' H' locs' lr' a1 a2 a3 a4 a5 a6
      refine W.vret C.1 C.2.1 (hr.trans a3) (fun t ht hW => ?_) a6.2.2 a2 hlocks
      unfold Qcw
      rw [if_neg (by rw [a3]; simp)]
      exact ⟨⟨ad', rfl, trivial, a1, by rw [ht]; exact a4, va_K.moved hW.alike hK, a5⟩, a6.F ht⟩
end
