section

theorem run_eq (X : KXw) (cl : CLw) (mid n pc : Nat) (ls : LSw) (st : List PVw) (G : GGw) (M : MMw) : run X cl mid (n + 1) pc ls st G M = match fetch mid pc with
    | none => none
    | some (_, I, _, a, b, c) => (stepw X cl (alm mid) pc I a b c ls st G M).bind (ktr (fun pc' ls' st' G' M' => run X cl mid n pc' (nrm (stp mid pc') ls') st' G' M') (fun r G' M' => some (r, G', M'))) := by
  rw [run]
  cases fetch mid pc with
  | none => rfl
  | some e =>
    obtain ⟨_, _, _, _, _, _⟩ := e
    exact sk_nat _ _ _ _ _ _ _ _ _ _ _ _ _ _
theorem seg_eq (X : KXw) (cl : CLw) (mid n pc : Nat) (ls : LSw) (st : List PVw) (G : GGw) (M : MMw) : seg X cl mid (n + 1) pc ls st G M = match fetch mid pc with
    | none => none
    | some (_, I, _, a, b, c) => (stepw X cl (alm mid) pc I a b c ls st G M).bind (ktr (fun pc' ls' st' G' M' => match stp mid pc' with
      | none => seg X cl mid n pc' ls' st' G' M'
      | some m => some (.inr (pc', nrm (some m) ls', st', G', M'))) (fun r G' M' => some (.inl (r, G', M')))) := by
  rw [seg]
  cases fetch mid pc with
  | none => rfl
  | some e =>
    obtain ⟨_, _, _, _, _, _⟩ := e
    exact sk_nat _ _ _ _ _ _ _ _ _ _ _ _ _ _
theorem run_more (X : KXw) (cl : CLw) (mid : Nat) : ∀ (n pc : Nat) (ls : LSw) (st : List PVw) (G : GGw) (M : MMw) (r : RRw), run X cl mid n pc ls st G M = some r → ∀ k, run X cl mid (n + k) pc ls st G M = some r
  | 0, _, _, _, _, _, _, h, _ => by cases h
  | n + 1, pc, ls, st, G, M, r, h, k => by
    rw [show n + 1 + k = (n + k) + 1 by omega, run_eq]
    rw [run_eq] at h
    revert h
    cases fetch mid pc with
    | none => exact fun h => h
    | some e =>
      obtain ⟨e0, I, e2, a, b, c⟩ := e
      dsimp only
      cases stepw X cl (alm mid) pc I a b c ls st G M with
      | none => exact fun h => h
      | some o =>
        rcases o with ⟨x, G1, M1⟩ | ⟨pc', ls', st', G1, M1⟩
        · exact fun h => h
        · exact fun h => run_more X cl mid n _ _ _ _ _ _ h k
def Ev (X : KXw) (cl : CLw) (mid pc : Nat) (ls : LSw) (st : List PVw) (G : GGw) (M : MMw) (r : RRw) : Prop := ∃ n, run X cl mid n pc ls st G M = some r
def EvT (X : KXw) (cl : CLw) (mid : Nat) (t : Option TRw) (r : RRw) : Prop := match t with
  | none => False
  | some (.inl r') => r' = r
  | some (.inr (pc, ls, st, G, M)) => Ev X cl mid pc ls st G M r
theorem Ev.one (X : KXw) (cl : CLw) (r : RRw) : ∀ (r2 : RRw), r = r2 → r2 = r := fun _ h => h.symm
theorem seg_run (X : KXw) (cl : CLw) (mid : Nat) (r : RRw) : ∀ (n pc : Nat) (ls : LSw) (st : List PVw) (G : GGw) (M : MMw), EvT X cl mid (seg X cl mid n pc ls st G M) r → Ev X cl mid pc ls st G M r
  | 0, _, _, _, _, _, h => h.elim
  | n + 1, pc, ls, st, G, M, h => by
    rw [seg_eq] at h
    suffices ∃ m, run X cl mid (m + 1) pc ls st G M = some r by
      obtain ⟨m, hm⟩ := this
      exact ⟨m + 1, hm⟩
    simp only [run_eq]
    revert h
    cases fetch mid pc with
    | none => exact fun h => h.elim
    | some e =>
      obtain ⟨e0, I, e2, a, b, c⟩ := e
      dsimp only
      cases stepw X cl (alm mid) pc I a b c ls st G M with
      | none => exact fun h => h.elim
      | some o =>
        rcases o with ⟨x, G1, M1⟩ | ⟨pc', ls', st', G1, M1⟩
        · intro h
          have h : (x, G1, M1) = r := h
          subst h
          exact ⟨0, rfl⟩
        · simp only [Option.bind_some, ktr]
          cases hs : stp mid pc' with
          | none =>
            intro h
            obtain ⟨m, hm⟩ := seg_run X cl mid r n _ _ _ _ _ h
            exact ⟨m, by rw [show nrm none ls' = ls' from rfl]; exact hm⟩
          | some mk =>
            intro h
            obtain ⟨m, hm⟩ : Ev X cl mid pc' (nrm (some mk) ls') st' G1 M1 r := h
            exact ⟨m, hm⟩
theorem Ev_of {X : KXw} {cl : CLw} {mid n pc : Nat} {ls : LSw} {st : List PVw} {G : GGw} {M : MMw} {t : Option TRw} {r : RRw} (h : seg X cl mid n pc ls st G M = t) (ht : EvT X cl mid t r) : Ev X cl mid pc ls st G M r := seg_run X cl mid r n pc ls st G M (h ▸ ht)
def cin (mid : Nat) (args : List PVw) : LSw := args.map some ++ List.replicate (mlw mid - args.length) none
noncomputable def callw (X : KXw) : Nat → CLw
  | 0 => fun _ _ _ _ => none
  | D + 1 => fun mid args G M => @dite _ (∃ r, ∃ n, run X (callw X D) mid n 0 (cin mid args) [] G M = some r) (Classical.propDecidable _) (fun h => some (Classical.choose h)) (fun _ => none)
theorem run_two {X : KXw} {cl : CLw} {mid pc n m : Nat} {ls : LSw} {st : List PVw} {G : GGw} {M : MMw} {r r2 : RRw} (h : run X cl mid n pc ls st G M = some r) (h2 : run X cl mid m pc ls st G M = some r2) : r = r2 := by
  have a := run_more X cl mid n pc ls st G M r h m
  have b := run_more X cl mid m pc ls st G M r2 h2 n
  rw [Nat.add_comm m n, a] at b
  exact Option.some.inj b
theorem callw_of {X : KXw} {D mid : Nat} {args : List PVw} {G : GGw} {M : MMw} {r : RRw} (h : Ev X (callw X D) mid 0 (cin mid args) [] G M r) : callw X (D + 1) mid args G M = some r := by
  have h1 : ∃ r, ∃ n, run X (callw X D) mid n 0 (cin mid args) [] G M = some r := ⟨r, h⟩
  unfold callw
  rw [dif_pos h1]
  obtain ⟨n, hn⟩ := h
  obtain ⟨m, hm⟩ := Classical.choose_spec h1
  exact congrArg some (run_two hm hn)
theorem callw_ev {X : KXw} {D mid : Nat} {args : List PVw} {G : GGw} {M : MMw} {r : RRw} (h : callw X (D + 1) mid args G M = some r) : Ev X (callw X D) mid 0 (cin mid args) [] G M r := by
  unfold callw at h
  by_cases h1 : ∃ r, ∃ n, run X (callw X D) mid n 0 (cin mid args) [] G M = some r
  · rw [dif_pos h1] at h
    cases h
    exact Classical.choose_spec h1
  · rw [dif_neg h1] at h
    cases h
/-- places are only added -/
def Gle (G G' : GGw) : Prop := G.1 ≤ G'.1 ∧ G.2.1 ≤ G'.2.1
theorem Gle.rf {G : GGw} : Gle G G := ⟨Nat.le_refl _, Nat.le_refl _⟩
theorem Gle.tr {G G1 G2 : GGw} (h : Gle G G1) (h2 : Gle G1 G2) : Gle G G2 := ⟨Nat.le_trans h.1 h2.1, Nat.le_trans h.2 h2.2⟩
def gof (o : TRw) : GGw := match o with
  | .inl (_, G, _) => G
  | .inr (_, _, _, G, _) => G
theorem swt_some {R : Type} {P : R → Prop} {x : Int32} {pc : Nat} {k : Nat → Option R} {d : Option R} (hk : ∀ t s, k t = some s → P s) (hd : ∀ s, d = some s → P s) : ∀ (os : List Int) (lo : Nat) (s : R), swt x pc k d lo os = some s → P s
  | [], _, s, h => hd s h
  | o :: os, lo, s, h => by
    unfold swt at h
    split at h
    · exact hk _ _ h
    · exact swt_some hk hd os _ s h
theorem lwt_some {R : Type} {P : R → Prop} {x : Int32} {pc : Nat} {k : Nat → Option R} {d : Option R} (hk : ∀ t s, k t = some s → P s) (hd : ∀ s, d = some s → P s) : ∀ (os : List (Int × Int)) (s : R), lwt x pc k d os = some s → P s
  | [], s, h => hd s h
  | o :: os, s, h => by
    unfold lwt at h
    split at h
    · exact hk _ _ h
    · exact lwt_some hk hd os s h
set_option maxHeartbeats 4000000 in
theorem stepw_le {X : KXw} {cl : CLw} (hcl : ∀ a args G M r G' M', cl a args G M = some (r, G', M') → Gle G G') {al : Bool} {pc : Nat} {I : Jvm.ClassFile.Instr} {a b c : Nat} {ls : LSw} {st : List PVw} {G : GGw} {M : MMw} {o : TRw} (h : stepw X cl al pc I a b c ls st G M = some o) : Gle G (gof o) ∧ (al = false → gof o = G) := by
  have key : ∀ (o : TRw), gof o = G → Gle G (gof o) ∧ (al = false → gof o = G) := fun o e => ⟨by rw [e]; exact Gle.rf, fun _ => e⟩
  unfold stepw at h
  cases I
  case tableswitch =>
    simp only [sk] at h
    split at h <;> (try cases h)
    exact swt_some (P := fun o => Gle G (gof o) ∧ (al = false → gof o = G)) (fun t s e => by cases e; exact key _ rfl) (fun s e => by cases e; exact key _ rfl) _ _ _ h
  case lookupswitch =>
    simp only [sk] at h
    split at h <;> (try cases h)
    exact lwt_some (P := fun o => Gle G (gof o) ∧ (al = false → gof o = G)) (fun t s e => by cases e; exact key _ rfl) (fun s e => by cases e; exact key _ rfl) _ _ h
  case ifCond cd o =>
    simp only [sk] at h
    split at h <;> (try cases h)
    cases cd <;> simp only [br0] at h <;> split at h <;> cases h <;> exact key _ rfl
  case if_icmp cd o =>
    simp only [sk] at h
    split at h <;> (try cases h)
    cases cd <;> simp only [br2] at h <;> split at h <;> cases h <;> exact key _ rfl
  case new =>
    simp only [sk, nwo] at h
    split at h
    · rename_i ha
      cases h
      exact ⟨⟨Nat.le_succ _, Nat.le_add_right _ _⟩, fun e => by rw [e] at ha; cases ha⟩
    · cases h
  case newarray t =>
    cases t <;> simp only [sk, nwa] at h <;> (repeat' split at h) <;> (try cases h) <;> rename_i ha _ _ _ _ <;> exact ⟨⟨Nat.le_succ _, Nat.le_add_right _ _⟩, fun e => by rw [e] at ha; cases ha⟩
  case anewarray =>
    simp only [sk, nwa] at h
    (repeat' split at h) <;> (try cases h) <;> rename_i ha _ _ _ _ <;> exact ⟨⟨Nat.le_succ _, Nat.le_add_right _ _⟩, fun e => by rw [e] at ha; cases ha⟩
  case putfield =>
    simp only [sk, pfl] at h
    (repeat' split at h) <;> (try cases h) <;> (first | exact key _ rfl | (rename_i ha; exact ⟨⟨Nat.le_refl _, Nat.le_refl _⟩, fun e => by rw [e] at ha; simp at ha⟩))
  case aastore =>
    simp only [sk] at h
    (repeat' split at h) <;> (try cases h) <;> (first | exact key _ rfl | (rename_i ha; exact ⟨⟨Nat.le_refl _, Nat.le_refl _⟩, fun e => by rw [e] at ha; simp at ha⟩))
  case invokestatic =>
    simp only [sk, acp, cll, bnd] at h
    (repeat' split at h) <;> (try cases h) <;> (first | exact key _ rfl | exact ⟨hcl _ _ _ _ _ _ _ (by assumption), fun e => absurd (show al = true by assumption) (by rw [e]; exact Bool.false_ne_true)⟩)
  case invokevirtual =>
    simp only [sk, cll, bnd] at h
    (repeat' split at h) <;> (try cases h) <;> (first | exact key _ rfl | exact ⟨hcl _ _ _ _ _ _ _ (by assumption), fun e => absurd (show al = true by assumption) (by rw [e]; exact Bool.false_ne_true)⟩)
  case invokespecial =>
    simp only [sk, cll, bnd] at h
    (repeat' split at h) <;> (try cases h) <;> (first | exact key _ rfl | exact ⟨hcl _ _ _ _ _ _ _ (by assumption), fun e => absurd (show al = true by assumption) (by rw [e]; exact Bool.false_ne_true)⟩)
  all_goals
    simp only [sk, ldI, ldA, stI, stA, bin, gfl, ald, ast] at h
    first
      | (cases h; done)
      | (cases h; exact key _ rfl)
      | ((repeat' split at h) <;> (first | (cases h; done) | (cases h; exact key _ rfl)))
end
