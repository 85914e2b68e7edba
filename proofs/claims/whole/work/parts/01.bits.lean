/-! bits of an Int32 (pasted family: bt ..), then naturals under nI -/
def bt (x : Int32) (i : Nat) : Bool := x.toBitVec.getLsbD i
theorem b_ext {x y : Int32} (h : ∀ i, i < 32 → bt x i = bt y i) : x = y := Int32.toBitVec_inj.mp (BitVec.eq_of_getLsbD_eq (fun i hi => h i hi))
theorem b_or (x y : Int32) (i : Nat) : bt (x ||| y) i = (bt x i || bt y i) := by unfold bt; rw [Int32.toBitVec_or, BitVec.getLsbD_or]
theorem b_and (x y : Int32) (i : Nat) : bt (x &&& y) i = (bt x i && bt y i) := by unfold bt; rw [Int32.toBitVec_and, BitVec.getLsbD_and]
theorem b_xor (x y : Int32) (i : Nat) : bt (x ^^^ y) i = (bt x i ^^ bt y i) := by unfold bt; rw [Int32.toBitVec_xor, BitVec.getLsbD_xor]
theorem b_0 (i : Nat) : bt 0 i = false := BitVec.getLsbD_zero
theorem s_l : ∀ n, n < 32 → ((nI n &&& 31).toBitVec.smod 32).toNat = n := by decide +kernel
theorem b_sshr (n : Nat) (hn : n < 32) (x : Int32) {i : Nat} (hi : i < 32) : bt (x >>> (nI n &&& 31)) i = if n + i < 32 then bt x (n + i) else bt x 31 := by
  unfold bt
  rw [Int32.toBitVec_shiftRight]
  show (x.toBitVec.sshiftRight ((nI n &&& 31).toBitVec.smod 32).toNat).getLsbD i = _
  rw [s_l n hn, BitVec.getLsbD_sshiftRight, BitVec.msb_eq_getLsbD_last]
  simp [hi]
theorem pk_sub {a b : Nat} (h : b ≤ a) : nI a - nI b = nI (a - b) := by
  obtain ⟨c, rfl⟩ : ∃ c, a = c + b := ⟨a - b, by omega⟩
  rw [← nI_add, Int32.add_sub_cancel, Nat.add_sub_cancel]
theorem pk_mul (a b : Nat) : nI a * nI b = nI (a * b) := (Int32.ofNat_mul a b).symm
/-! own rows -/
theorem sl_btn (s : Nat) {i : Nat} (h : i < 32) : bt (nI s) i = s.testBit i := by
  show (BitVec.ofNat 32 s).getLsbD i = _
  rw [BitVec.getLsbD_ofNat]
  simp [h]
theorem sl_and (a b : Nat) : nI a &&& nI b = nI (a &&& b) := by
  apply b_ext
  intro i hi
  rw [b_and, sl_btn _ hi, sl_btn _ hi, sl_btn _ hi, Nat.testBit_and]
theorem sl_or (a b : Nat) : nI a ||| nI b = nI (a ||| b) := by
  apply b_ext
  intro i hi
  rw [b_or, sl_btn _ hi, sl_btn _ hi, sl_btn _ hi, Nat.testBit_or]
theorem sl_xor (a b : Nat) : nI a ^^^ nI b = nI (a ^^^ b) := by
  apply b_ext
  intro i hi
  rw [b_xor, sl_btn _ hi, sl_btn _ hi, sl_btn _ hi, Nat.testBit_xor]
/-- bit i of s -/
def sl_t (s i : Nat) : Bool := Nat.beq (Nat.land (Nat.shiftRight s i) 1) 1
theorem sl_t_eq (s i : Nat) : sl_t s i = s.testBit i := by
  rw [Nat.testBit_eq_decide_div_mod_eq]
  show Nat.beq ((s >>> i) &&& 1) 1 = _
  rw [Nat.and_one_is_mod, Nat.shiftRight_eq_div_pow, Bool.eq_iff_iff, decide_eq_true_iff]
  exact ⟨Nat.eq_of_beq_eq_true, fun h => by rw [h]; rfl⟩
theorem sl_b1 : ∀ k, k < 32 → bt 1 k = decide (k = 0) := by decide +kernel
theorem sl_bit (s : Nat) {i : Nat} (hi : i < 32) : ((nI s >>> (nI i &&& 31)) &&& 1) = nI (sl_t s i).toNat := by
  apply b_ext
  intro k hk
  rw [b_and, sl_b1 k hk, b_sshr i hi _ hk]
  by_cases h0 : k = 0
  · subst h0
    rw [if_pos (by omega), Nat.add_zero, sl_btn s hi, ← sl_t_eq]
    cases sl_t s i <;> decide +kernel
  · rw [decide_eq_false h0, Bool.and_false]
    cases sl_t s i
    · exact (b_0 k).symm
    · exact ((sl_b1 k hk).trans (decide_eq_false h0)).symm
theorem sl_one : ∀ i, i < 32 → (1 : Int32) <<< (nI i &&& 31) = nI (1 <<< i) := by decide +kernel
/-- two naturals are one number of 32 bits -/
def sl_q (a b : Nat) : Bool := Nat.beq (a % 4294967296) (b % 4294967296)
theorem sl_qI (a b : Nat) : nI a = nI b ↔ sl_q a b = true := by
  have h : nI a = nI b ↔ a % 4294967296 = b % 4294967296 := by
    rw [← Int32.toBitVec_inj, ← BitVec.toNat_inj]
    exact Iff.rfl
  rw [h]
  exact ⟨fun e => by unfold sl_q; rw [e]; exact Nat.beq_refl _, Nat.eq_of_beq_eq_true⟩
theorem sl_neg (s : Nat) : -nI s = nI (4294967296 - s % 4294967296) := by
  rw [← Int32.toBitVec_inj, ← BitVec.toNat_inj, Int32.toBitVec_neg, BitVec.toNat_neg]
  show (2 ^ 32 - s % 2 ^ 32) % 2 ^ 32 = (4294967296 - s % 4294967296) % 2 ^ 32
  rfl
/-- a branch on the equality of two numbers -/
theorem sl_brq {x y : Int32} {A B : Prop} (a b : Nat) (f : sl_q a b = true → A) (g : sl_q a b = false → B) (hx : x = nI a := by rfl) (hy : y = nI b := by rfl) : (x = y → A) ∧ (¬ x = y → B) := by
  subst hx hy
  rw [sl_qI]
  exact ⟨f, fun z => g (by cases h : sl_q a b <;> simp_all)⟩
/-- a branch on an answer of a test -/
theorem sl_br {A B : Prop} (b : Bool) (f : b = false → A) (g : b = true → B) : (nI b.toNat = 0 → A) ∧ (¬ nI b.toNat = 0 → B) := by
  cases b
  · exact br_t rfl (f rfl)
  · exact br_f (by decide) (g rfl)
/-- an array that a list fills -/
def sl_f (L : List Nat) : Nat → Int32 := fun j => nI (L.getD j 0)
theorem sl_f0 : sl_f [] = fun _ => 0 := rfl
theorem sl_fa (A B : List Nat) (y : Nat) : sl_f (A ++ y :: B) A.length = nI y := by
  unfold sl_f
  simp
theorem sl_fu (A B : List Nat) (y z : Nat) : upd (sl_f (A ++ y :: B)) A.length (nI z) = sl_f (A ++ z :: B) := by
  funext j
  unfold upd sl_f
  by_cases h : j = A.length
  · subst h
    simp
  · rw [if_neg h]
    rcases Nat.lt_or_ge j A.length with h1 | h1
    · simp [List.getD_eq_getElem?_getD, List.getElem?_append_left h1]
    · obtain ⟨k, rfl⟩ : ∃ k, j = A.length + (k + 1) := ⟨j - A.length - 1, by omega⟩
      rw [List.getD_eq_getElem?_getD, List.getD_eq_getElem?_getD, List.getElem?_append_right (by omega), List.getElem?_append_right (by omega), Nat.add_sub_cancel_left]
      rfl
theorem sl_fp (A : List Nat) (z : Nat) : upd (sl_f A) A.length (nI z) = sl_f (A ++ [z]) := by
  funext j
  unfold upd sl_f
  by_cases h : j = A.length
  · subst h
    simp
  · rw [if_neg h]
    rcases Nat.lt_or_ge j A.length with h1 | h1
    · simp [List.getD_eq_getElem?_getD, List.getElem?_append_left h1]
    · obtain ⟨k, rfl⟩ : ∃ k, j = A.length + (k + 1) := ⟨j - A.length - 1, by omega⟩
      simp [List.getD_eq_getElem?_getD]
/-- filling an array with one value from i on, d cells -/
def sl_fill (v : Int32) : Nat → Nat → (Nat → Int32) → Nat → Int32
  | 0, _, a => a
  | d + 1, i, a => sl_fill v d (i + 1) (upd a i v)
theorem sl_fill0 : ∀ d i, sl_fill 0 d i (fun _ => 0) = fun _ => 0 := by
  intro d
  induction d with
  | zero => intro i; rfl
  | succ d ih =>
    intro i
    have e : upd (fun _ => 0) i 0 = fun _ => 0 := by
      funext j
      unfold upd
      split <;> rfl
    show sl_fill 0 d (i + 1) (upd (fun _ => 0) i 0) = _
    rw [e]
    exact ih _
/-- how many of the numbers i .. i + d - 1 have p, added to acc -/
def sl_cnt (p : Nat → Bool) : Nat → Nat → Nat → Nat
  | 0, _, a => a
  | d + 1, i, a => sl_cnt p d (i + 1) (a + (p i).toNat)
theorem sl_cnt_congr {p q : Nat → Bool} : ∀ d i a, (∀ j, i ≤ j → j < i + d → p j = q j) → sl_cnt p d i a = sl_cnt q d i a := by
  intro d
  induction d with
  | zero => intro i a h; rfl
  | succ d ih =>
    intro i a h
    show sl_cnt p d (i + 1) (a + (p i).toNat) = sl_cnt q d (i + 1) (a + (q i).toNat)
    rw [h i (Nat.le_refl _) (by omega)]
    exact ih _ _ (fun j h1 h2 => h j (by omega) (by omega))
