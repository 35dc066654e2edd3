section
-- needs: loop
/-! a machine over data, for the constructors -/
abbrev XEv : Type := Nat × Nat × Nat × Nat
abbrev XSw : Type := Nat × Nat × List XEv
def xK : List XEv → Nat → Nat × Nat
  | [], _ => (999, 0)
  | (t, c, kd, l) :: r, c' => if t = 0 then (if c' = c then (kd, l) else xK r c') else xK r c'
def xF : List XEv → Nat → Nat → Nat
  | [], _, _ => 0
  | (t, p, k, v) :: r, c', k' => if t = 0 then (if c' = p then 0 else xF r c' k') else if t = 1 then (if c' = p then (if k' = k then v else xF r c' k') else xF r c' k') else xF r c' k'
noncomputable def xM : List XEv → Nat → Nat → Int32
  | [], _, _ => 0
  | (t, p, k, v) :: r, c', k' => if t = 0 then (if c' = p then 0 else xM r c' k') else if t = 1 then xM r c' k' else up (xM r) p k (Int32.ofNat v) c' k'
def gD (s : XSw) : GGw := (s.1, s.2.1, xK s.2.2, xF s.2.2)
noncomputable def mD (s : XSw) : MMw := xM s.2.2
theorem gD_new (n tot b c kd l : Nat) (ev : List XEv) : gD (n, tot + b, (0, c, kd, l) :: ev) = (n, tot + b, fun c' => if c' = c then (kd, l) else xK ev c', fun c' k' => if c' = c then 0 else xF ev c' k') := rfl
theorem gD_ref (n tot p k v : Nat) (ev : List XEv) : gD (n, tot, (1, p, k, v) :: ev) = (n, tot, xK ev, fun c' k' => if c' = p then (if k' = k then v else xF ev c' k') else xF ev c' k') := rfl
theorem gD_mem (n tot p k v : Nat) (ev : List XEv) : gD (n, tot, (2, p, k, v) :: ev) = gD (n, tot, ev) := rfl
theorem mD_new (n tot c kd l : Nat) (ev : List XEv) : mD (n, tot, (0, c, kd, l) :: ev) = fun c' k' => if c' = c then 0 else xM ev c' k' := rfl
theorem mD_ref (n tot p k v : Nat) (ev : List XEv) : mD (n, tot, (1, p, k, v) :: ev) = xM ev := rfl
theorem mD_mem (n tot p k v : Nat) (ev : List XEv) : mD (n, tot, (2, p, k, v) :: ev) = up (xM ev) p k (Int32.ofNat v) := rfl
abbrev XCw : Type := Nat → List PVw → XSw → Option XSw
abbrev XKw : Type := Nat → LSw → List PVw → XSw → Option XSw
def xk (cx : XCw) (al : Bool) (pc : Nat) (I : Jvm.ClassFile.Instr) (a b c : Nat) (ls : LSw) (st : List PVw) (s : XSw) (K : XKw) : Option XSw := match I with
  | .iload_n i => ldI ls i fun v => K (pc + 1) ls (v :: st) s
  | .aload_n i => ldA ls i fun v => K (pc + 1) ls (v :: st) s
  | .istore_n i => stI ls i st fun ls' r => K (pc + 1) ls' r s
  | .iinc i n => match ls[i]? with
    | some (some (.inl x)) => K (pc + 3) (ls.set i (some (.inl (x + Int32.ofInt n)))) st s
    | _ => none
  | .iconst _ => K (pc + 1) ls (.inl (Int32.ofNat a) :: st) s
  | .bipush _ => K (pc + 2) ls (.inl (Int32.ofNat a) :: st) s
  | .sipush _ => K (pc + 3) ls (.inl (Int32.ofNat a) :: st) s
  | .ldc _ => K (pc + 2) ls ((if c = 0 then .inl (Int32.ofNat a) else .inr (.inr a)) :: st) s
  | .iadd => bin st (· + ·) fun r => K (pc + 1) ls r s
  | .if_icmp cd _ => match st with
    | .inl y :: .inl x :: r => br2 cd x y (K a ls r s) (K (pc + 3) ls r s)
    | _ => none
  | .goto _ => K a ls st s
  | .dup => match st with
    | v :: r => K (pc + 1) ls (v :: v :: r) s
    | _ => none
  | .getfield _ => match st with
    | .inr (.inl p) :: r => if (xK s.2.2 p).1 = a ∧ c ≠ 0 then (match xF s.2.2 p b with
      | 0 => none
      | q + 1 => K (pc + 3) ls (.inr (.inl q) :: r) s) else none
    | _ => none
  | .putfield _ => match st with
    | .inl x :: .inr (.inl p) :: r => if (xK s.2.2 p).1 = a ∧ (c = 0 ∨ (c = 2 ∧ x &&& 1 = x)) ∧ Int32.ofNat x.toUInt32.toNat = x then K (pc + 3) ls r (s.1, s.2.1, (2, p, b, x.toUInt32.toNat) :: s.2.2) else none
    | .inr (.inl q) :: .inr (.inl p) :: r => if (xK s.2.2 p).1 = a ∧ al = true ∧ c = 1 then K (pc + 3) ls r (s.1, s.2.1, (1, p, b, q + 1) :: s.2.2) else none
    | _ => none
  | .iastore => match st with
    | .inl x :: .inl i :: .inr (.inl p) :: r => if (xK s.2.2 p).1 = 100 ∧ inb i (xK s.2.2 p).2 = true ∧ Int32.ofNat x.toUInt32.toNat = x then K (pc + 1) ls r (s.1, s.2.1, (2, p, i.toNatClampNeg, x.toUInt32.toNat) :: s.2.2) else none
    | _ => none
  | .aastore => match st with
    | .inr (.inl q) :: .inl i :: .inr (.inl p) :: r => if ((xK s.2.2 p).1 = 102 ∧ (xK s.2.2 q).1 = 5) ∧ (al && inb i (xK s.2.2 p).2) = true then K (pc + 1) ls r (s.1, s.2.1, (1, p, i.toNatClampNeg, q + 1) :: s.2.2) else none
    | _ => none
  | .new _ => if al = true then K (pc + 3) ls (.inr (.inl s.1) :: st) (s.1 + 1, s.2.1 + b, (0, s.1, a, 0) :: s.2.2) else none
  | .newarray .int => match st with
    | .inl x :: r => if al = true ∧ inb x 100000 = true then K (pc + 2) ls (.inr (.inl s.1) :: r) (s.1 + 1, s.2.1 + x.toNatClampNeg, (0, s.1, 100, x.toNatClampNeg) :: s.2.2) else none
    | _ => none
  | .newarray .boolean => match st with
    | .inl x :: r => if al = true ∧ inb x 100000 = true then K (pc + 2) ls (.inr (.inl s.1) :: r) (s.1 + 1, s.2.1 + x.toNatClampNeg, (0, s.1, 101, x.toNatClampNeg) :: s.2.2) else none
    | _ => none
  | .anewarray _ => match st with
    | .inl x :: r => if al = true ∧ inb x 100000 = true then K (pc + 3) ls (.inr (.inl s.1) :: r) (s.1 + 1, s.2.1 + x.toNatClampNeg, (0, s.1, 102, x.toNatClampNeg) :: s.2.2) else none
    | _ => none
  | .invokespecial _ => if a = 9999 then (match st with
      | .inr (.inl _) :: r => if r.length ≤ 8 then K (pc + 3) ls r s else none
      | _ => none) else if (b < st.length ∧ isP st[b]? = true) ∧ (st.drop (b + 1)).length ≤ 8 ∧ c % 4 = 2 ∧ al = true then (match cx a (st.take (b + 1)).reverse s with
      | none => none
      | some s1 => K (pc + 3) ls (st.drop (b + 1)) s1) else none
  | .return_ => match st with
    | [] => some s
    | _ => none
  | _ => none
def xrun (cx : XCw) (mid : Nat) : Nat → XKw
  | 0 => fun _ _ _ _ => none
  | n + 1 => fun pc ls st s => match fetch mid pc with
    | none => none
    | some (_, I, _, a, b, c) => xk cx (alm mid) pc I a b c ls st s (fun pc' ls' st' s' => xrun cx mid n pc' (nrm (stp mid pc') ls') st' s')
def xcl : Nat → XCw
  | 0 => fun _ _ _ => none
  | d + 1 => fun mid as s => xrun (xcl d) mid 2000 0 (cin mid as) [] s
def XGd (cx : XCw) (cl : CLw) : Prop := ∀ a as s s', cx a as s = some s' → cl a as (gD s) (mD s) = some (0, gD s', mD s')
def XSt (X : KXw) (cl : CLw) (al : Bool) (pc : Nat) (I : Jvm.ClassFile.Instr) (a b c : Nat) (ls : LSw) (st : List PVw) (s : XSw) (K : XKw) (s' : XSw) : Prop :=
  (∃ pc1 ls1 st1 s1, K pc1 ls1 st1 s1 = some s' ∧ ∀ (k : KTw RRw) (rt : Int32 → GGw → MMw → Option RRw), sk X cl al pc I a b c ls st (gD s) (mD s) k rt = k pc1 ls1 st1 (gD s1) (mD s1)) ∨
  (s' = s ∧ ∀ (k : KTw RRw) (rt : Int32 → GGw → MMw → Option RRw), sk X cl al pc I a b c ls st (gD s) (mD s) k rt = rt 0 (gD s) (mD s))
theorem br2_any (cd : Jvm.ClassFile.Cond) (x y : Int32) : (∀ {R : Type} (t e : Option R), br2 cd x y t e = t) ∨ (∀ {R : Type} (t e : Option R), br2 cd x y t e = e) := by
  cases cd
  · by_cases h : x = y
    · exact Or.inl (fun t e => if_pos h)
    · exact Or.inr (fun t e => if_neg h)
  · by_cases h : x = y
    · exact Or.inr (fun t e => if_pos h)
    · exact Or.inl (fun t e => if_neg h)
  · by_cases h : x < y
    · exact Or.inl (fun t e => if_pos h)
    · exact Or.inr (fun t e => if_neg h)
  · by_cases h : x < y
    · exact Or.inr (fun t e => if_pos h)
    · exact Or.inl (fun t e => if_neg h)
  · by_cases h : y < x
    · exact Or.inl (fun t e => if_pos h)
    · exact Or.inr (fun t e => if_neg h)
  · by_cases h : y < x
    · exact Or.inr (fun t e => if_pos h)
    · exact Or.inl (fun t e => if_neg h)
theorem xk_ok {X : KXw} {cx : XCw} {cl : CLw} (hc : XGd cx cl) {al : Bool} {pc : Nat} {I : Jvm.ClassFile.Instr} {a b c : Nat} {ls : LSw} {st : List PVw} {s s' : XSw} {K : XKw} (h : xk cx al pc I a b c ls st s K = some s') : XSt X cl al pc I a b c ls st s K s' := by
  unfold xk at h
  split at h
  · unfold ldI at h
    split at h
    · rename_i i x hx
      exact Or.inl ⟨_, _, _, _, h, fun k rt => by simp only [sk, ldI, hx]⟩
    · cases h
  · unfold ldA at h
    split at h
    · rename_i i x hx
      exact Or.inl ⟨_, _, _, _, h, fun k rt => by simp only [sk, ldA, hx]⟩
    · rename_i i j hx
      split at h
      · rename_i hj
        exact Or.inl ⟨_, _, _, _, h, fun k rt => by simp only [sk, ldA, hx, if_pos hj]⟩
      · cases h
    · cases h
  · unfold stI at h
    split at h
    · split at h
      · rename_i hi
        exact Or.inl ⟨_, _, _, _, h, fun k rt => by simp only [sk, stI, if_pos hi]⟩
      · cases h
    · cases h
  · split at h
    · rename_i x hx
      exact Or.inl ⟨_, _, _, _, h, fun k rt => by simp only [sk, ldI, hx]⟩
    · cases h
  · exact Or.inl ⟨_, _, _, _, h, fun k rt => rfl⟩
  · exact Or.inl ⟨_, _, _, _, h, fun k rt => rfl⟩
  · exact Or.inl ⟨_, _, _, _, h, fun k rt => rfl⟩
  · exact Or.inl ⟨_, _, _, _, h, fun k rt => rfl⟩
  · unfold bin at h
    split at h
    · exact Or.inl ⟨_, _, _, _, h, fun k rt => rfl⟩
    · cases h
  · split at h
    · rename_i cd of o y x r
      rcases br2_any cd x y with e | e
      · rw [e] at h
        exact Or.inl ⟨_, _, _, _, h, fun k rt => by simp only [sk]; exact e _ _⟩
      · rw [e] at h
        exact Or.inl ⟨_, _, _, _, h, fun k rt => by simp only [sk]; exact e _ _⟩
    · cases h
  · exact Or.inl ⟨_, _, _, _, h, fun k rt => rfl⟩
  · split at h
    · exact Or.inl ⟨_, _, _, _, h, fun k rt => rfl⟩
    · cases h
  · split at h
    · split at h
      · rename_i hx
        split at h
        · cases h
        · rename_i q hq
          refine Or.inl ⟨_, _, _, _, h, fun k rt => ?_⟩
          simp only [sk, gfl]
          rw [if_pos (show ((gD s).2.2.1 _).1 = a from hx.1), if_neg hx.2]
          show (match xF s.2.2 _ b with | 0 => none | q + 1 => _) = _
          rw [hq]
      · cases h
    · cases h
  · split at h
    · split at h
      · rename_i hx
        refine Or.inl ⟨_, _, _, _, h, fun k rt => ?_⟩
        simp only [sk, pfl]
        rw [if_pos (show ((gD s).2.2.1 _).1 = a from hx.1), gD_mem, mD_mem, hx.2.2]
        rcases hx.2.1 with h0 | ⟨h0, h1⟩
        · rw [if_pos h0]; rfl
        · rw [if_neg (by omega), if_pos h0, if_pos h1]; rfl
      · cases h
    · split at h
      · rename_i hx
        refine Or.inl ⟨_, _, _, _, h, fun k rt => ?_⟩
        simp only [sk, pfl]
        rw [if_pos (show ((gD s).2.2.1 _).1 = a from hx.1), if_pos (by rw [hx.2.1, hx.2.2]; rfl), gD_ref, mD_ref]
        rfl
      · cases h
    · cases h
  · split at h
    · split at h
      · rename_i hx
        refine Or.inl ⟨_, _, _, _, h, fun k rt => ?_⟩
        simp only [sk, ast]
        rw [if_pos (show ((gD s).2.2.1 _).1 = 100 from hx.1), if_pos (show inb _ ((gD s).2.2.1 _).2 = true from hx.2.1), if_pos trivial, gD_mem, mD_mem, hx.2.2]
        rfl
      · cases h
    · cases h
  · split at h
    · split at h
      · rename_i hx
        refine Or.inl ⟨_, _, _, _, h, fun k rt => ?_⟩
        simp only [sk]
        rw [if_pos (show ((gD s).2.2.1 _).1 = 102 ∧ ((gD s).2.2.1 _).1 = 5 from hx.1), if_pos (show (al && inb _ ((gD s).2.2.1 _).2) = true from hx.2), gD_ref, mD_ref]
        rfl
      · cases h
    · cases h
  · split at h
    · rename_i hx
      refine Or.inl ⟨_, _, _, _, h, fun k rt => ?_⟩
      simp only [sk, nwo]
      rw [if_pos hx, gD_new, mD_new]
      rfl
    · cases h
  · split at h
    · split at h
      · rename_i hx
        refine Or.inl ⟨_, _, _, _, h, fun k rt => ?_⟩
        simp only [sk, nwa]
        rw [if_pos hx.1, if_pos hx.2, gD_new, mD_new]
        rfl
      · cases h
    · cases h
  · split at h
    · split at h
      · rename_i hx
        refine Or.inl ⟨_, _, _, _, h, fun k rt => ?_⟩
        simp only [sk, nwa]
        rw [if_pos hx.1, if_pos hx.2, gD_new, mD_new]
        rfl
      · cases h
    · cases h
  · split at h
    · split at h
      · rename_i hx
        refine Or.inl ⟨_, _, _, _, h, fun k rt => ?_⟩
        simp only [sk, nwa]
        rw [if_pos hx.1, if_pos hx.2, gD_new, mD_new]
        rfl
      · cases h
    · cases h
  · split at h
    · rename_i ha
      split at h
      · split at h
        · rename_i hl
          exact Or.inl ⟨_, _, _, _, h, fun k rt => by simp only [sk]; rw [if_pos ha, if_pos hl]⟩
        · cases h
      · cases h
    · rename_i ha
      split at h
      · rename_i hx
        obtain ⟨x1, x2, x3, x4⟩ := hx
        split at h
        · cases h
        · rename_i s1 hs
          refine Or.inl ⟨_, _, _, _, h, fun k rt => ?_⟩
          simp only [sk, cll]
          rw [if_neg ha, if_pos x1, if_pos x2, x3, if_pos (by decide), if_pos x4, hc _ _ _ _ hs]
          rfl
      · cases h
  · split at h
    · cases h
      exact Or.inr ⟨rfl, fun k rt => rfl⟩
    · cases h
  · cases h
theorem xrun_ok {X : KXw} {cx : XCw} {cl : CLw} (hc : XGd cx cl) {mid : Nat} : ∀ (n pc : Nat) (ls : LSw) (st : List PVw) (s s' : XSw), xrun cx mid n pc ls st s = some s' → Ev X cl mid pc ls st (gD s) (mD s) (0, gD s', mD s')
  | 0, _, _, _, _, _, h => by cases h
  | n + 1, pc, ls, st, s, s', h => by
    unfold xrun at h
    suffices ∃ m, run X cl mid (m + 1) pc ls st (gD s) (mD s) = some (0, gD s', mD s') by
      obtain ⟨m, hm⟩ := this
      exact ⟨m + 1, hm⟩
    simp only [run]
    revert h
    cases fetch mid pc with
    | none => exact fun h => by cases h
    | some e =>
      obtain ⟨e0, I, e2, a, b, c⟩ := e
      intro h
      dsimp only at h ⊢
      rcases xk_ok (X := X) hc h with ⟨pc1, ls1, st1, s1, h1, h2⟩ | ⟨rfl, h2⟩
      · obtain ⟨m, hm⟩ := xrun_ok hc n _ _ _ _ _ h1
        exact ⟨m, by rw [h2]; exact hm⟩
      · exact ⟨0, by rw [h2]⟩
theorem xcl_ok {X : KXw} : ∀ d, XGd (xcl d) (callw X d)
  | 0 => fun a as s s' h => by cases h
  | d + 1 => fun a as s s' h => callw_of (xrun_ok (xcl_ok d) 2000 0 _ _ s s' h)
end
