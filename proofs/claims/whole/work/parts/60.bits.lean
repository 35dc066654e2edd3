section
-- needs:
/-! ints as numbers, sets as numbers -/
theorem z_nI : (0 : Int32) = nI 0 := (rfl)
theorem one_nI : (1 : Int32) = nI 1 := (rfl)
theorem c31_nI : (31 : Int32) = nI 31 := (rfl)
theorem o_nI (k : Nat) : Int32.ofNat k = nI k := (rfl)
theorem i1_nI : Int32.ofInt 1 = nI 1 := (rfl)
theorem m1_nI : Int32.ofNat 4294967295 = -1 := by decide +kernel
theorem im1_nI : Int32.ofInt (-1) = -1 := by decide +kernel
theorem nI_bv (a : Nat) : (nI a).toBitVec = BitVec.ofNat 32 a := rfl
theorem nI_mul (a b : Nat) : nI a * nI b = nI (a * b) := by
  apply Int32.toBitVec_inj.mp
  rw [Int32.toBitVec_mul]
  simp only [nI_bv]
  apply BitVec.eq_of_toNat_eq
  simp [BitVec.toNat_mul, Nat.mul_mod]
theorem nI_sub {a b : Nat} (h : b ≤ a) : nI a - nI b = nI (a - b) := by
  have e := nI_add (a - b) b
  rw [Nat.sub_add_cancel h] at e
  rw [← e]
  apply Int32.toBitVec_inj.mp
  rw [Int32.toBitVec_sub, Int32.toBitVec_add, BitVec.add_sub_cancel]
theorem nI_and (a b : Nat) : nI a &&& nI b = nI (a &&& b) := by
  apply Int32.toBitVec_inj.mp
  rw [Int32.toBitVec_and]
  simp only [nI_bv]
  rw [BitVec.ofNat_and]
theorem nI_or (a b : Nat) : nI a ||| nI b = nI (a ||| b) := by
  apply Int32.toBitVec_inj.mp
  rw [Int32.toBitVec_or]
  simp only [nI_bv]
  rw [BitVec.ofNat_or]
theorem nI_xor (a b : Nat) : nI a ^^^ nI b = nI (a ^^^ b) := by
  apply Int32.toBitVec_inj.mp
  rw [Int32.toBitVec_xor]
  simp only [nI_bv]
  rw [BitVec.ofNat_xor]
theorem sh_ct : ∀ n, n < 32 → ((nI n &&& 31).toBitVec.smod 32).toNat = n := by decide +kernel
theorem nI_shl {a j : Nat} (hj : j < 32) : nI a <<< (nI j &&& 31) = nI (a * 2 ^ j) := by
  apply Int32.toBitVec_inj.mp
  show (nI a).toBitVec <<< ((nI j &&& 31).toBitVec.smod 32).toNat = _
  rw [sh_ct j hj]
  simp only [nI_bv]
  apply BitVec.eq_of_toNat_eq
  simp [BitVec.toNat_shiftLeft, Nat.shiftLeft_eq, Nat.mod_mul_mod]
theorem nI_msb {a : Nat} (ha : a < 2 ^ 31) : (BitVec.ofNat 32 a).msb = false := by
  rw [BitVec.msb_eq_false_iff_two_mul_lt, BitVec.toNat_ofNat]
  omega
theorem nI_shr {a j : Nat} (ha : a < 2 ^ 31) (hj : j < 32) : nI a >>> (nI j &&& 31) = nI (a >>> j) := by
  apply Int32.toBitVec_inj.mp
  show (nI a).toBitVec.sshiftRight ((nI j &&& 31).toBitVec.smod 32).toNat = _
  rw [sh_ct j hj]
  simp only [nI_bv]
  rw [BitVec.sshiftRight_eq_of_msb_false (nI_msb ha)]
  apply BitVec.eq_of_toNat_eq
  have h1 : a >>> j ≤ a := by rw [Nat.shiftRight_eq_div_pow]; exact Nat.div_le_self _ _
  rw [BitVec.toNat_ushiftRight, BitVec.toNat_ofNat, BitVec.toNat_ofNat, Nat.mod_eq_of_lt (by omega), Nat.mod_eq_of_lt (by omega)]
theorem sh_cu : ∀ n, n < 32 → (((nI n).toUInt32 &&& Int32.toUInt32 31).toBitVec % 32).toNat = n := by decide +kernel
theorem nI_ushr {a j : Nat} (ha : a < 2 ^ 32) (hj : j < 32) : ((nI a).toUInt32 >>> ((nI j).toUInt32 &&& Int32.toUInt32 31)).toInt32 = nI (a >>> j) := by
  apply Int32.toBitVec_inj.mp
  show (nI a).toBitVec >>> (((nI j).toUInt32 &&& Int32.toUInt32 31).toBitVec % 32).toNat = _
  rw [sh_cu j hj]
  simp only [nI_bv]
  apply BitVec.eq_of_toNat_eq
  have h1 : a >>> j ≤ a := by rw [Nat.shiftRight_eq_div_pow]; exact Nat.div_le_self _ _
  rw [BitVec.toNat_ushiftRight, BitVec.toNat_ofNat, BitVec.toNat_ofNat, Nat.mod_eq_of_lt (by omega), Nat.mod_eq_of_lt (by omega)]
theorem nI_m1 : (-1 : Int32) = nI 4294967295 := by decide +kernel
theorem nI_not (b : Nat) : nI b ^^^ -1 = nI (b ^^^ 4294967295) := by rw [nI_m1, nI_xor]
theorem nI_inj {a b : Nat} (ha : a < 2 ^ 32) (hb : b < 2 ^ 32) : nI a = nI b ↔ a = b := by
  constructor
  · intro h
    have h := congrArg Int32.toBitVec h
    simp only [nI_bv] at h
    have h := congrArg BitVec.toNat h
    rw [BitVec.toNat_ofNat, BitVec.toNat_ofNat, Nat.mod_eq_of_lt ha, Nat.mod_eq_of_lt hb] at h
    exact h
  · intro h
    rw [h]
theorem nI_nm1 {a : Nat} (ha : a < 2 ^ 31) : (nI a = -1) = False := by
  rw [nI_m1, nI_inj (by omega) (by omega)]
  exact eq_false (by omega)
theorem m1_ne {a : Nat} (ha : a < 2 ^ 31) : (-1 = nI a) = False := by
  rw [nI_m1, nI_inj (by omega) (by omega)]
  exact eq_false (by omega)
theorem m1_toInt : (-1 : Int32).toInt = -1 := by decide +kernel
theorem m1_lt {a : Nat} (ha : a < 2 ^ 31) : ((-1 : Int32) < nI a) = True := by
  rw [Int32.lt_iff_toInt_lt, nI_toInt ha, m1_toInt]
  exact eq_true (by omega)
theorem nlt_m1 {a : Nat} (ha : a < 2 ^ 31) : (nI a < (-1 : Int32)) = False := by
  rw [Int32.lt_iff_toInt_lt, nI_toInt ha, m1_toInt]
  exact eq_false (by omega)
theorem lt_i {a b : Nat} (ha : a < 2 ^ 31) (hb : b < 2 ^ 31) : (nI a < nI b) = (a < b) := propext (nI_ltI ha hb)
theorem le_i {a b : Nat} (ha : a < 2 ^ 31) (hb : b < 2 ^ 31) : (nI a ≤ nI b) = (a ≤ b) := propext (nI_leI ha hb)
theorem eq_i {a b : Nat} (ha : a < 2 ^ 31) (hb : b < 2 ^ 31) : (nI a = nI b) = (a = b) := propext (nI_eq ha hb)
theorem inb_nI {k n : Nat} (h : k < n) (hn : n < 2 ^ 31) : inb (nI k) n = true := by
  rw [inb_iff, nI_toInt (by omega)]
  omega
theorem inb_i {k n : Nat} (hk : k < 2 ^ 31) : inb (nI k) n = decide (k < n) := by
  rw [Bool.eq_iff_iff, inb_iff, nI_toInt hk, decide_eq_true_eq]
  omega
theorem nI_tb {a j : Nat} (ha : a < 2 ^ 31) (hj : j < 32) : (nI a >>> (nI j &&& 31)) &&& nI 1 = nI (a.testBit j).toNat := by
  rw [nI_shr ha hj, nI_and, Nat.and_one_is_mod, Nat.testBit_eq_decide_div_mod_eq, Nat.shiftRight_eq_div_pow]
  rcases Nat.mod_two_eq_zero_or_one (a / 2 ^ j) with h | h <;> rw [h] <;> rfl
theorem nI_div {a b : Nat} (ha : a < 2 ^ 31) (hb : b < 2 ^ 31) : nI a / nI b = nI (a / b) := by
  apply Int32.toInt_inj.mp
  have h1 : a / b ≤ a := Nat.div_le_self _ _
  rw [Int32.toInt_div, nI_toInt ha, nI_toInt hb, nI_toInt (by omega)]
  show ((a : Int).tdiv b).bmod _ = _
  rw [← Int.ofNat_tdiv]
  generalize a / b = c at *
  apply Int.bmod_eq_of_le <;> simp <;> omega
theorem nI_mod {a b : Nat} (ha : a < 2 ^ 31) (hb : b < 2 ^ 31) : nI a % nI b = nI (a % b) := by
  apply Int32.toInt_inj.mp
  have h1 : a % b ≤ a := Nat.mod_le _ _
  rw [Int32.toInt_mod, nI_toInt ha, nI_toInt hb, nI_toInt (by omega), ← Int.ofNat_tmod]
/-- the number that an int that is not below 0 is -/
theorem nI_nat {x : Int32} {k : Nat} (h : x = nI k) (hk : k < 2 ^ 31) : x.toNatClampNeg = k := by rw [h, nI_clamp hk]
theorem nI_self {x : Int32} (h : ¬ x < 0) : x = nI x.toNatClampNeg ∧ x.toNatClampNeg < 2 ^ 31 := by
  obtain ⟨j, hj, rfl⟩ := nI_of h
  rw [nI_clamp hj]
  exact ⟨rfl, hj⟩
/-- below 0 an int is below every number -/
theorem neg_lt {x : Int32} (h : x < 0) (a : Nat) (ha : a < 2 ^ 31) : x < nI a := by
  rw [Int32.lt_iff_toInt_lt] at h ⊢
  rw [nI_toInt ha]
  have : (0 : Int32).toInt = 0 := by decide +kernel
  omega
/-- yes or no, as the machine has it -/
def b2i (b : Bool) : Int32 := if b then nI 1 else nI 0
theorem b2i_t : b2i true = nI 1 := rfl
theorem b2i_f : b2i false = nI 0 := rfl
theorem b2i_nI (b : Bool) : b2i b = nI b.toNat := by cases b <;> rfl
theorem b2i_nrw (b : Bool) : nrw 1 (b2i b) = b2i b := by cases b <;> decide +kernel
theorem b2i_0 (b : Bool) : (b2i b = nI 0) = (b = false) := by cases b <;> decide +kernel
theorem b2i_1 (b : Bool) : (b2i b = nI 1) = (b = true) := by cases b <;> decide +kernel
theorem b2i_inj (a b : Bool) : (b2i a = b2i b) = (a = b) := by cases a <;> cases b <;> decide +kernel
theorem tn_0 (b : Bool) : (nI b.toNat = nI 0) = (b = false) := by cases b <;> decide +kernel
theorem tn_1 (b : Bool) : (nI b.toNat = nI 1) = (b = true) := by cases b <;> decide +kernel
theorem z_toInt : (nI 0).toInt = 0 := by decide +kernel
/-- the set of the i below n of which p is so -/
def sto (p : Nat → Bool) : Nat → Nat
  | 0 => 0
  | n + 1 => sto p n ||| (if p n then 2 ^ n else 0)
theorem sto_s (p : Nat → Bool) (n : Nat) : sto p (n + 1) = sto p n ||| (if p n then 2 ^ n else 0) := rfl
theorem sto_st {p : Nat → Bool} {n : Nat} (h : p n = true) : sto p (n + 1) = sto p n ||| 2 ^ n := by rw [sto_s, if_pos h]
theorem sto_sf {p : Nat → Bool} {n : Nat} (h : p n = false) : sto p (n + 1) = sto p n := by rw [sto_s, if_neg (by rw [h]; decide), Nat.or_zero]
theorem sto_tb (p : Nat → Bool) : ∀ n i, (sto p n).testBit i = (decide (i < n) && p i)
  | 0, i => by rw [sto, Nat.zero_testBit]; simp
  | n + 1, i => by
    rw [sto_s, Nat.testBit_or, sto_tb p n i]
    by_cases hp : p n = true
    · rw [if_pos hp, Nat.testBit_two_pow]
      by_cases e : n = i
      · subst e
        simp [hp]
      · have h1 : decide (i < n + 1) = decide (i < n) := decide_eq_decide.mpr (by omega)
        rw [h1]
        simp [e]
    · rw [if_neg hp, Nat.zero_testBit, Bool.or_false]
      by_cases e : n = i
      · subst e
        simp [hp]
      · have h1 : decide (i < n + 1) = decide (i < n) := decide_eq_decide.mpr (by omega)
        rw [h1]
theorem sto_lt (p : Nat → Bool) (n : Nat) : sto p n < 2 ^ n := by
  apply Nat.lt_pow_two_of_testBit
  intro i hi
  rw [sto_tb]
  simp
  omega
theorem sto_cong {p q : Nat → Bool} : ∀ {n : Nat}, (∀ i, i < n → p i = q i) → sto p n = sto q n
  | 0, _ => rfl
  | n + 1, h => by rw [sto_s, sto_s, sto_cong (fun i hi => h i (Nat.lt_succ_of_lt hi)), h n (Nat.lt_succ_self n)]
theorem sto_le {p : Nat → Bool} {n m : Nat} (h : n ≤ m) : sto p n < 2 ^ m := Nat.lt_of_lt_of_le (sto_lt p n) (Nat.pow_le_pow_right (by decide) h)
/-- a set is what is in it -/
theorem set_ext {a b : Nat} (h : ∀ i, a.testBit i = b.testBit i) : a = b := Nat.eq_of_testBit_eq h
theorem sto_self {s n : Nat} (h : s < 2 ^ n) : sto (fun i => s.testBit i) n = s := by
  apply set_ext
  intro i
  rw [sto_tb]
  by_cases hi : i < n
  · simp [hi]
  · rw [Nat.testBit_lt_two_pow (Nat.lt_of_lt_of_le h (Nat.pow_le_pow_right (by decide) (by omega)))]
    simp
/-- how many are in a set, of those below n -/
def cnt (p : Nat → Bool) : Nat → Nat
  | 0 => 0
  | n + 1 => cnt p n + (p n).toNat
theorem cnt_s (p : Nat → Bool) (n : Nat) : cnt p (n + 1) = cnt p n + (p n).toNat := rfl
theorem cnt_cong {p q : Nat → Bool} : ∀ {n : Nat}, (∀ i, i < n → p i = q i) → cnt p n = cnt q n
  | 0, _ => rfl
  | n + 1, h => by rw [cnt_s, cnt_s, cnt_cong (fun i hi => h i (Nat.lt_succ_of_lt hi)), h n (Nat.lt_succ_self n)]
theorem cnt_le (p : Nat → Bool) : ∀ n, cnt p n ≤ n
  | 0 => Nat.le_refl _
  | n + 1 => by
    have := cnt_le p n
    have h2 : (p n).toNat ≤ 1 := Bool.toNat_le (p n)
    rw [cnt_s]
    omega
theorem cnt_mono {p q : Nat → Bool} : ∀ {n : Nat}, (∀ i, i < n → p i = true → q i = true) → cnt p n ≤ cnt q n
  | 0, _ => Nat.le_refl _
  | n + 1, h => by
    have h1 := cnt_mono (fun i hi => h i (Nat.lt_succ_of_lt hi))
    have h2 := h n (Nat.lt_succ_self n)
    rw [cnt_s, cnt_s]
    cases hp : p n
    · simp
      omega
    · rw [h2 hp]
      simp
      omega
/-- what stands in a place -/
def upW (W : Nat → Int32) (k : Nat) (v : Int32) : Nat → Int32 := fun j => if j = k then v else W j
theorem upW_s (W : Nat → Int32) (k : Nat) (v : Int32) : upW W k v k = v := if_pos rfl
theorem upW_n {W : Nat → Int32} {k j : Nat} {v : Int32} (h : j ≠ k) : upW W k v j = W j := if_neg h
theorem up_at (M : MMw) (c k : Nat) (v : Int32) : up M c k v c = upW (M c) k v := by
  funext j
  unfold up upW
  rw [if_pos rfl]
  by_cases h : j = k
  · rw [if_pos h, if_pos h]
  · rw [if_neg h, if_neg h]
theorem up_ne {M : MMw} {c d k : Nat} {v : Int32} (h : d ≠ c) : up M c k v d = M d := by
  funext j
  unfold up
  rw [if_neg h]
/-- all places but these are as they were -/
def Fr (L : List Nat) (M M' : MMw) : Prop := ∀ c, c ∉ L → M' c = M c
theorem Fr.rf {L : List Nat} {M : MMw} : Fr L M M := fun _ _ => rfl
theorem Fr.tr {L : List Nat} {M M1 M2 : MMw} (h : Fr L M M1) (h2 : Fr L M1 M2) : Fr L M M2 := fun c hc => (h2 c hc).trans (h c hc)
theorem Fr.mono {L L' : List Nat} {M M' : MMw} (h : Fr L M M') (hs : ∀ c, c ∈ L → c ∈ L') : Fr L' M M' := fun c hc => h c (fun hl => hc (hs c hl))
theorem Fr.up {L : List Nat} {M M' : MMw} {c k : Nat} {v : Int32} (h : Fr L M M') (hc : c ∈ L) : Fr L M (up M' c k v) := fun d hd => by
  rw [up_ne (fun e : d = c => hd (by rw [e]; exact hc))]
  exact h d hd
end
