section
section
variable {p : Program} {l : Launch} {e : Env} {R : Room} {s : State} {m : MethodId} {args : Array Value} {below : List Frame} {meth : Method} {c : Code} {Q : State → Prop} {F : Fxw} {A0 : Nat → Prop} {mid d : Nat} {cl : CLw}
set_option maxHeartbeats 2000000 in
/-- one step -/
theorem stepW {pc ea eb ec pc1 len : Nat} {I : Jvm.ClassFile.Instr} {ls ls1 : LSw} {st st1 : List PVw} {G G1 : GGw} {M M1 : MMw} {H : Heap} {locs : List Loc} {cells slots : Nat} {ad : Nat → Nat} {lr : Array Slot}
    (C : Cxw p s m args meth c F A0 mid R d) (hP : va_P F.1 vwCl (rzw F ad G M) H) (hD : va_D A0 (rzw F ad G M)) (hS : va_S A0 s.heap H locs) (hG : wfG G) (hL : wfL G ls) (hW : wfS G st) (hn : ls.length ≤ mlw mid) (hl : lv_has lr (mlw mid) (lvw F ad ls)) (hc : chkE mid (pc, I, len, ea, eb, ec) = true) (h99' : ∀ i, I = .new i → ea ≠ 99) (hs : stepw F.2.2.2.2.2 cl (alm mid) pc I ea eb ec ls st G M = some (.inr (pc1, ls1, st1, G1, M1)))
    (K : Kow p l e R s m args below meth c Q F A0 mid ad G M G1 M1 pc1 ls1 st1 cells slots) (hcl : HCw l F cl d) (hno : ∀ as G M, cl 9997 as G M = none) (hal : ∀ a as G M r G2 M2, cl a as G M = some (r, G2, M2) → alm a = false → G2 = G) (hr1 : cells + (G1.1 - G.1) ≤ R.cells) (hr2 : slots + (G1.2.1 - G.2.1) ≤ R.slots) :
    W p l e R s m args below meth c H locs cells slots Q (F0 m pc lr (st.map (rvw F ad))) := by
  cases I
  case iload => exact sw_iload C hP hD hS hG hL hW hn hl hc hs K
  case iload_n => exact sw_iload_n C hP hD hS hG hL hW hn hl hc hs K
  case aload => exact sw_aload C hP hD hS hG hL hW hn hl hc hs K
  case aload_n => exact sw_aload_n C hP hD hS hG hL hW hn hl hc hs K
  case istore => exact sw_istore C hP hD hS hG hL hW hn hl hc hs K
  case istore_n => exact sw_istore_n C hP hD hS hG hL hW hn hl hc hs K
  case astore => exact sw_astore C hP hD hS hG hL hW hn hl hc hs K
  case astore_n => exact sw_astore_n C hP hD hS hG hL hW hn hl hc hs K
  case iinc => exact sw_iinc C hP hD hS hG hL hW hn hl hc hs K
  case iconst => exact sw_iconst C hP hD hS hG hL hW hn hl hc hs K
  case bipush => exact sw_bipush C hP hD hS hG hL hW hn hl hc hs K
  case sipush => exact sw_sipush C hP hD hS hG hL hW hn hl hc hs K
  case ldc => exact sw_ldc C hP hD hS hG hL hW hn hl hc hs K
  case ldc_w => exact sw_ldc_w C hP hD hS hG hL hW hn hl hc hs K
  case iadd => exact sw_iadd C hP hD hS hG hL hW hn hl hc hs K
  case isub => exact sw_isub C hP hD hS hG hL hW hn hl hc hs K
  case imul => exact sw_imul C hP hD hS hG hL hW hn hl hc hs K
  case iand => exact sw_iand C hP hD hS hG hL hW hn hl hc hs K
  case ior => exact sw_ior C hP hD hS hG hL hW hn hl hc hs K
  case ixor => exact sw_ixor C hP hD hS hG hL hW hn hl hc hs K
  case ishl => exact sw_ishl C hP hD hS hG hL hW hn hl hc hs K
  case ishr => exact sw_ishr C hP hD hS hG hL hW hn hl hc hs K
  case iushr => exact sw_iushr C hP hD hS hG hL hW hn hl hc hs K
  case idiv => exact sw_idiv C hP hD hS hG hL hW hn hl hc hs K
  case irem => exact sw_irem C hP hD hS hG hL hW hn hl hc hs K
  case ineg => exact sw_ineg C hP hD hS hG hL hW hn hl hc hs K
  case i2c => exact sw_i2c C hP hD hS hG hL hW hn hl hc hs K
  case i2b => exact sw_i2b C hP hD hS hG hL hW hn hl hc hs K
  case dup => exact sw_dup C hP hD hS hG hL hW hn hl hc hs K
  case dup2 => exact sw_dup2 C hP hD hS hG hL hW hn hl hc hs K
  case pop => exact sw_pop C hP hD hS hG hL hW hn hl hc hs K
  case goto => exact sw_goto C hP hD hS hG hL hW hn hl hc hs K
  case ifCond => exact sw_ifCond C hP hD hS hG hL hW hn hl hc hs K
  case if_icmp => exact sw_if_icmp C hP hD hS hG hL hW hn hl hc hs K
  case tableswitch => exact sw_tableswitch C hP hD hS hG hL hW hn hl hc hs K
  case lookupswitch => exact sw_lookupswitch C hP hD hS hG hL hW hn hl hc hs K
  case getfield => exact sw_getfield C hP hD hS hG hL hW hn hl hc hs K
  case putfield => exact sw_putfield C hP hD hS hG hL hW hn hl hc hs K
  case getstatic => exact sw_getstatic C hP hD hS hG hL hW hn hl hc hs K
  case iaload => exact sw_iaload C hP hD hS hG hL hW hn hl hc hs K
  case baload => exact sw_baload C hP hD hS hG hL hW hn hl hc hs K
  case iastore => exact sw_iastore C hP hD hS hG hL hW hn hl hc hs K
  case bastore => exact sw_bastore C hP hD hS hG hL hW hn hl hc hs K
  case aaload => exact sw_aaload C hP hD hS hG hL hW hn hl hc hs K
  case aastore => exact sw_aastore C hP hD hS hG hL hW hn hl hc hs K
  case arraylength => exact sw_arraylength C hP hD hS hG hL hW hn hl hc hs K
  case new i => exact sw_new C hP hD hS hG hL hW hn hl hc hs K (h99' i rfl) hr1 hr2
  case newarray t =>
    cases t
    case int => exact sw_newarr_int C hP hD hS hG hL hW hn hl hc hs K hr1 hr2
    case boolean => exact sw_newarr_bool C hP hD hS hG hL hW hn hl hc hs K hr1 hr2
    all_goals (simp only [stepw, sk] at hs; cases hs)
  case anewarray => exact sw_anewarray C hP hD hS hG hL hW hn hl hc hs K hr1 hr2
  case invokestatic =>
    by_cases h98 : ea = 9998
    · exact sw_acp C hP hD hS hG hL hW hn hl hc hs K h98
    · exact sw_invokestatic C hP hD hS hG hL hW hn hl hc hs K hcl hno hal hr1 hr2 h98
  case invokevirtual => exact sw_invokevirtual C hP hD hS hG hL hW hn hl hc hs K hcl hno hal hr1 hr2
  case invokespecial => exact sw_invokespecial C hP hD hS hG hL hW hn hl hc hs K hcl hno hal hr1 hr2
  case ireturn =>
    simp only [stepw, sk] at hs
    (repeat' split at hs) <;> cases hs
  case return_ =>
    simp only [stepw, sk] at hs
    (repeat' split at hs) <;> cases hs
  all_goals (simp only [stepw, sk] at hs; cases hs)
/-- how a method ends: at ireturn with its answer, at return with none -/
theorem end_inv {X : KXw} {al : Bool} {pc ea eb ec : Nat} {I : Jvm.ClassFile.Instr} {ls : LSw} {st : List PVw} {G G1 : GGw} {M M1 : MMw} {r : Int32} (hs : stepw X cl al pc I ea eb ec ls st G M = some (.inl (r, G1, M1))) : G1 = G ∧ M1 = M ∧ ((I = .ireturn ∧ st = [.inl r] ∧ (ec = 0 ∨ nrw ec r = r)) ∨ (I = .return_ ∧ st = [] ∧ r = 0)) := by
  unfold stepw at hs
  cases I
  case ireturn =>
    simp only [sk] at hs
    split at hs
    · split at hs
      · rename_i h0
        cases hs
        exact ⟨rfl, rfl, Or.inl ⟨rfl, rfl, Or.inl h0⟩⟩
      · split at hs
        · rename_i h1
          cases hs
          exact ⟨rfl, rfl, Or.inl ⟨rfl, rfl, Or.inr h1⟩⟩
        · cases hs
    · cases hs
  case return_ =>
    simp only [sk] at hs
    split at hs
    · cases hs
      exact ⟨rfl, rfl, Or.inr ⟨rfl, rfl, rfl⟩⟩
    · cases hs
  case tableswitch =>
    simp only [sk] at hs
    split at hs
    · exact absurd hs (fun z => by
        have := swt_some (P := fun o : TRw => ∃ x, o = .inr x) (fun t s e => by cases e; exact ⟨_, rfl⟩) (fun s e => by cases e; exact ⟨_, rfl⟩) _ _ _ z
        obtain ⟨x, hx⟩ := this
        cases hx)
    · cases hs
  case lookupswitch =>
    simp only [sk] at hs
    split at hs
    · exact absurd hs (fun z => by
        have := lwt_some (P := fun o : TRw => ∃ x, o = .inr x) (fun t s e => by cases e; exact ⟨_, rfl⟩) (fun s e => by cases e; exact ⟨_, rfl⟩) _ _ z
        obtain ⟨x, hx⟩ := this
        cases hx)
    · cases hs
  case ifCond cd o =>
    simp only [sk] at hs
    split at hs <;> (try cases hs)
    cases cd <;> simp only [br0] at hs <;> split at hs <;> cases hs
  case if_icmp cd o =>
    simp only [sk] at hs
    split at hs <;> (try cases hs)
    cases cd <;> simp only [br2] at hs <;> split at hs <;> cases hs
  case newarray t =>
    cases t <;> simp only [sk, nwa] at hs <;> (repeat' split at hs) <;> cases hs
  all_goals
    simp only [sk, ldI, ldA, stI, stA, bin, gfl, pfl, ald, ast, nwo, nwa, acp, cll, bnd] at hs
    first
      | (cases hs; done)
      | ((repeat' split at hs) <;> (first | (cases hs; done)))
end
end
