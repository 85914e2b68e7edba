section
/-! bits of an Int32 (pasted family: bt ..), then naturals under nI -/
def bt (x : Int32) (i : Nat) : Bool := x.toBitVec.getLsbD i
theorem b_ext {x y : Int32} (h : ∀ i, i < 32 → bt x i = bt y i) : x = y := Int32.toBitVec_inj.mp (BitVec.eq_of_getLsbD_eq (fun i hi => h i hi))
theorem b_or (x y : Int32) (i : Nat) : bt (x ||| y) i = (bt x i || bt y i) := by unfold bt; rw [Int32.toBitVec_or, BitVec.getLsbD_or]
theorem b_and (x y : Int32) (i : Nat) : bt (x &&& y) i = (bt x i && bt y i) := by unfold bt; rw [Int32.toBitVec_and, BitVec.getLsbD_and]
theorem b_xor (x y : Int32) (i : Nat) : bt (x ^^^ y) i = (bt x i ^^ bt y i) := by unfold bt; rw [Int32.toBitVec_xor, BitVec.getLsbD_xor]
theorem b_0 (i : Nat) : bt 0 i = false := BitVec.getLsbD_zero
theorem s_l : ∀ n, n < 32 → ((nI n &&& 31).toBitVec.smod 32).toNat = n := by decide +kernel
theorem b_sshr (n : Nat) (hn : n < 32) (x : Int32) {i : Nat} (hi : i < 32) : bt (x >>> (nI n &&& 31)) i = if n + i < 32 then bt x (n + i) else bt x 31 := by
  unfold bt
  rw [Int32.toBitVec_shiftRight]
  show (x.toBitVec.sshiftRight ((nI n &&& 31).toBitVec.smod 32).toNat).getLsbD i = _
  rw [s_l n hn, BitVec.getLsbD_sshiftRight, BitVec.msb_eq_getLsbD_last]
  simp [hi]
theorem pk_sub {a b : Nat} (h : b ≤ a) : nI a - nI b = nI (a - b) := by
  obtain ⟨c, rfl⟩ : ∃ c, a = c + b := ⟨a - b, by omega⟩
  rw [← nI_add, Int32.add_sub_cancel, Nat.add_sub_cancel]
theorem pk_mul (a b : Nat) : nI a * nI b = nI (a * b) := (Int32.ofNat_mul a b).symm
/-! own rows -/
theorem sl_btn (s : Nat) {i : Nat} (h : i < 32) : bt (nI s) i = s.testBit i := by
  show (BitVec.ofNat 32 s).getLsbD i = _
  rw [BitVec.getLsbD_ofNat]
  simp [h]
theorem sl_and (a b : Nat) : nI a &&& nI b = nI (a &&& b) := by
  apply b_ext
  intro i hi
  rw [b_and, sl_btn _ hi, sl_btn _ hi, sl_btn _ hi, Nat.testBit_and]
theorem sl_or (a b : Nat) : nI a ||| nI b = nI (a ||| b) := by
  apply b_ext
  intro i hi
  rw [b_or, sl_btn _ hi, sl_btn _ hi, sl_btn _ hi, Nat.testBit_or]
theorem sl_xor (a b : Nat) : nI a ^^^ nI b = nI (a ^^^ b) := by
  apply b_ext
  intro i hi
  rw [b_xor, sl_btn _ hi, sl_btn _ hi, sl_btn _ hi, Nat.testBit_xor]
/-- bit i of s -/
def sl_t (s i : Nat) : Bool := Nat.beq (Nat.land (Nat.shiftRight s i) 1) 1
theorem sl_t_eq (s i : Nat) : sl_t s i = s.testBit i := by
  rw [Nat.testBit_eq_decide_div_mod_eq]
  show Nat.beq ((s >>> i) &&& 1) 1 = _
  rw [Nat.and_one_is_mod, Nat.shiftRight_eq_div_pow, Bool.eq_iff_iff, decide_eq_true_iff]
  exact ⟨Nat.eq_of_beq_eq_true, fun h => by rw [h]; rfl⟩
theorem sl_b1 : ∀ k, k < 32 → bt 1 k = decide (k = 0) := by decide +kernel
theorem sl_bit (s : Nat) {i : Nat} (hi : i < 32) : ((nI s >>> (nI i &&& 31)) &&& 1) = nI (sl_t s i).toNat := by
  apply b_ext
  intro k hk
  rw [b_and, sl_b1 k hk, b_sshr i hi _ hk]
  by_cases h0 : k = 0
  · subst h0
    rw [if_pos (by omega), Nat.add_zero, sl_btn s hi, ← sl_t_eq]
    cases sl_t s i <;> decide +kernel
  · rw [decide_eq_false h0, Bool.and_false]
    cases sl_t s i
    · exact (b_0 k).symm
    · exact ((sl_b1 k hk).trans (decide_eq_false h0)).symm
theorem sl_one : ∀ i, i < 32 → (1 : Int32) <<< (nI i &&& 31) = nI (1 <<< i) := by decide +kernel
/-- two naturals are one number of 32 bits -/
def sl_q (a b : Nat) : Bool := Nat.beq (a % 4294967296) (b % 4294967296)
theorem sl_qI (a b : Nat) : nI a = nI b ↔ sl_q a b = true := by
  have h : nI a = nI b ↔ a % 4294967296 = b % 4294967296 := by
    rw [← Int32.toBitVec_inj, ← BitVec.toNat_inj]
    exact Iff.rfl
  rw [h]
  exact ⟨fun e => by unfold sl_q; rw [e]; exact Nat.beq_refl _, Nat.eq_of_beq_eq_true⟩
theorem sl_neg (s : Nat) : -nI s = nI (4294967296 - s % 4294967296) := by
  rw [← Int32.toBitVec_inj, ← BitVec.toNat_inj, Int32.toBitVec_neg, BitVec.toNat_neg]
  show (2 ^ 32 - s % 2 ^ 32) % 2 ^ 32 = (4294967296 - s % 4294967296) % 2 ^ 32
  rfl
/-- a branch on the equality of two numbers -/
theorem sl_brq {x y : Int32} {A B : Prop} (a b : Nat) (f : sl_q a b = true → A) (g : sl_q a b = false → B) (hx : x = nI a := by rfl) (hy : y = nI b := by rfl) : (x = y → A) ∧ (¬ x = y → B) := by
  subst hx hy
  rw [sl_qI]
  exact ⟨f, fun z => g (by cases h : sl_q a b <;> simp_all)⟩
/-- a branch on an answer of a test -/
theorem sl_br {A B : Prop} (b : Bool) (f : b = false → A) (g : b = true → B) : (nI b.toNat = 0 → A) ∧ (¬ nI b.toNat = 0 → B) := by
  cases b
  · exact br_t rfl (f rfl)
  · exact br_f (by decide) (g rfl)
/-- an array that a list fills -/
def sl_f (L : List Nat) : Nat → Int32 := fun j => nI (L.getD j 0)
theorem sl_f0 : sl_f [] = fun _ => 0 := rfl
theorem sl_fa (A B : List Nat) (y : Nat) : sl_f (A ++ y :: B) A.length = nI y := by
  unfold sl_f
  simp
theorem sl_fu (A B : List Nat) (y z : Nat) : upd (sl_f (A ++ y :: B)) A.length (nI z) = sl_f (A ++ z :: B) := by
  funext j
  unfold upd sl_f
  by_cases h : j = A.length
  · subst h
    simp
  · rw [if_neg h]
    rcases Nat.lt_or_ge j A.length with h1 | h1
    · simp [List.getD_eq_getElem?_getD, List.getElem?_append_left h1]
    · obtain ⟨k, rfl⟩ : ∃ k, j = A.length + (k + 1) := ⟨j - A.length - 1, by omega⟩
      rw [List.getD_eq_getElem?_getD, List.getD_eq_getElem?_getD, List.getElem?_append_right (by omega), List.getElem?_append_right (by omega), Nat.add_sub_cancel_left]
      rfl
theorem sl_fp (A : List Nat) (z : Nat) : upd (sl_f A) A.length (nI z) = sl_f (A ++ [z]) := by
  funext j
  unfold upd sl_f
  by_cases h : j = A.length
  · subst h
    simp
  · rw [if_neg h]
    rcases Nat.lt_or_ge j A.length with h1 | h1
    · simp [List.getD_eq_getElem?_getD, List.getElem?_append_left h1]
    · obtain ⟨k, rfl⟩ : ∃ k, j = A.length + (k + 1) := ⟨j - A.length - 1, by omega⟩
      simp [List.getD_eq_getElem?_getD]
/-- filling an array with one value from i on, d cells -/
def sl_fill (v : Int32) : Nat → Nat → (Nat → Int32) → Nat → Int32
  | 0, _, a => a
  | d + 1, i, a => sl_fill v d (i + 1) (upd a i v)
theorem sl_fill0 : ∀ d i, sl_fill 0 d i (fun _ => 0) = fun _ => 0 := by
  intro d
  induction d with
  | zero => intro i; rfl
  | succ d ih =>
    intro i
    have e : upd (fun _ => 0) i 0 = fun _ => 0 := by
      funext j
      unfold upd
      split <;> rfl
    show sl_fill 0 d (i + 1) (upd (fun _ => 0) i 0) = _
    rw [e]
    exact ih _
/-- how many of the numbers i .. i + d - 1 have p, added to acc -/
def sl_cnt (p : Nat → Bool) : Nat → Nat → Nat → Nat
  | 0, _, a => a
  | d + 1, i, a => sl_cnt p d (i + 1) (a + (p i).toNat)
theorem sl_cnt_congr {p q : Nat → Bool} : ∀ d i a, (∀ j, i ≤ j → j < i + d → p j = q j) → sl_cnt p d i a = sl_cnt q d i a := by
  intro d
  induction d with
  | zero => intro i a h; rfl
  | succ d ih =>
    intro i a h
    show sl_cnt p d (i + 1) (a + (p i).toNat) = sl_cnt q d (i + 1) (a + (q i).toNat)
    rw [h i (Nat.le_refl _) (by omega)]
    exact ih _ _ (fun j h1 h2 => h j (by omega) (by omega))
end
section
/-! the class's sets: cellSet, borderOf, meetInPairs, withNeighbours, isConnected -/
theorem sl_has {post : Int32 → Prop} (s : Nat) {i : Nat} (hi : i < 32) (h : post (nI (sl_t s i).toNat)) : wpX_has post (nI s) (nI i) := by
  unfold wpX_has
  rw [sl_bit s hi]
  revert h
  cases sl_t s i
  · exact fun h => br_t rfl h
  · exact fun h => br_f (by decide) h
def sl_cs (o : Nat) : Nat → Nat → Nat → Nat
  | 0, _, s => s
  | d + 1, i, s => sl_cs o d (i + 1) (bif (sl_t o (8 - i) ^^ (Nat.ble 3 i && sl_t s (i - 3))) then s ||| (1 <<< i) else s)
theorem sl_cs39 (post : Int32 → Prop) (J : Int32 → Int32 → Prop) (o s i : Nat) (hi : i < 9) (b c : Bool) (h : J (nI (bif (b ^^ c) then s ||| (1 <<< i) else s)) (nI (i + 1))) : wX_cellSet_39 post J (nI o) (nI s) (nI i) (nI b.toNat) (nI c.toNat) := by
  unfold wX_cellSet_39
  rw [nI_1, sl_one i (by omega), sl_or]
  cases b <;> cases c
  · exact br_t rfl (nm_e h)
  · exact br_f (by decide) (nm_e (nm_e h))
  · exact br_f (by decide) (nm_e (nm_e h))
  · exact br_t rfl (nm_e h)
theorem sl_csL (post : Int32 → Prop) (o : Nat) : ∀ d i s, i + d = 9 → post (nI (sl_cs o d i s)) → wX_cellSet_4 post (nI o) (d + 1) (nI s) (nI i) := by
  intro d
  induction d with
  | zero =>
    intro i s hi h
    exact br_t (show (9 : Int32) ≤ nI i from nI_le (a := 9) (by omega) (by omega)) h
  | succ d ih =>
    intro i s hi h
    refine br_f (show ¬ (9 : Int32) ≤ nI i from nI_ge (b := 9) (by omega) (by decide)) ?_
    have e8 : (8 : Int32) - nI i = nI (8 - i) := pk_sub (a := 8) (by omega)
    rw [e8]
    refine sl_has o (by omega) ?_
    have ih' := ih (i + 1) _ (by omega) h
    rcases Nat.lt_or_ge i 3 with h3 | h3
    · refine br_t (show nI i < (3 : Int32) from nI_lt (b := 3) h3 (by decide)) ?_
      have e : Nat.ble 3 i = false := by
        rw [← Bool.not_eq_true, Nat.ble_eq]; omega
      rw [e, Bool.false_and] at ih'
      exact sl_cs39 post _ o s i (by omega) (sl_t o (8 - i)) false ih'
    · refine br_f (show ¬ nI i < (3 : Int32) from nI_nlt (b := 3) h3 (by omega)) ?_
      have e : Nat.ble 3 i = true := by rw [Nat.ble_eq]; omega
      rw [e, Bool.true_and] at ih'
      have e3 : nI i - (3 : Int32) = nI (i - 3) := pk_sub (b := 3) (by omega)
      rw [e3]
      refine sl_has s (by omega) ?_
      refine sl_br _ (fun z => ?_) (fun z => ?_)
      · rw [z] at ih'
        exact sl_cs39 post _ o s i (by omega) (sl_t o (8 - i)) false ih'
      · rw [z] at ih'
        exact sl_cs39 post _ o s i (by omega) (sl_t o (8 - i)) true ih'
theorem sl_cellSet (post : Int32 → Prop) (o : Nat) (h : post (nI (sl_cs o 9 0 0))) : wpX_cellSet post (nI o) := ⟨10, sl_csL post o 9 0 0 rfl h⟩
def sl_eo (c : Nat) : Nat := 1 <<< c ||| 1 <<< (c + 3) ||| 1 <<< (12 + c / 3 * 4 + c % 3) ||| 1 <<< (13 + c / 3 * 4 + c % 3)
theorem sl_eoT : ∀ c, c < 9 → (((((1 : Int32) <<< (nI c &&& 31)) ||| ((1 : Int32) <<< ((nI c + 3) &&& 31))) ||| ((1 : Int32) <<< (((12 + ((nI c / 3) * 4)) + (nI c - nI c / 3 * 3)) &&& 31))) ||| ((1 : Int32) <<< ((((12 + ((nI c / 3) * 4)) + (nI c - nI c / 3 * 3)) + 1) &&& 31))) = nI (sl_eo c) := by decide +kernel
theorem sl_edgesOf (post : Int32 → Prop) (c : Nat) (hc : c < 9) (h : post (nI (sl_eo c))) : wpX_edgesOf post (nI c) := by
  intro x2 e2
  refine ⟨by decide, by decide, fun x3 e3 x4 e4 => ?_⟩
  subst e4 e3 e2
  rw [sl_eoT c hc]
  exact h
def sl_bo (s : Nat) : Nat → Nat → Nat → Nat
  | 0, _, a => a
  | d + 1, i, a => sl_bo s d (i + 1) (bif sl_t s i then a ^^^ sl_eo i else a)
theorem sl_boL (post : Int32 → Prop) (s : Nat) : ∀ d i a, i + d = 9 → post (nI (sl_bo s d i a)) → wX_borderOf_4 post (nI s) (d + 1) (nI a) (nI i) := by
  intro d
  induction d with
  | zero =>
    intro i a hi h
    exact br_t (show (9 : Int32) ≤ nI i from nI_le (a := 9) (by omega) (by omega)) h
  | succ d ih =>
    intro i a hi h
    refine br_f (show ¬ (9 : Int32) ≤ nI i from nI_ge (b := 9) (by omega) (by decide)) ?_
    refine sl_has s (by omega) ?_
    have ih' := ih (i + 1) _ (by omega) h
    refine sl_br _ (fun z => ?_) (fun z => ?_)
    · rw [z] at ih'
      exact nm_r (nI_1 i) ih'
    · rw [z] at ih'
      refine sl_edgesOf _ i (by omega) ?_
      exact nm_r (sl_xor a (sl_eo i)) (nm_r (nI_1 i) ih')
theorem sl_borderOf (post : Int32 → Prop) (s : Nat) (h : post (nI (sl_bo s 9 0 0))) : wpX_borderOf post (nI s) := ⟨10, sl_boL post s 9 0 0 rfl h⟩
def sl_en (e : Nat) : Nat := bif Nat.ble 12 e then 17 <<< (e - 12) else 3 <<< (e + e / 3)
theorem sl_enT1 : ∀ e, e < 24 → 12 ≤ e → (((1 : Int32) <<< ((nI e - 12) &&& 31)) ||| ((1 : Int32) <<< (((nI e - 12) + 4) &&& 31))) = nI (sl_en e) := by decide +kernel
theorem sl_enT2 : ∀ e, e < 12 → (((1 : Int32) <<< ((((nI e / 3) * 4) + (nI e - nI e / 3 * 3)) &&& 31)) ||| ((1 : Int32) <<< (((((nI e / 3) * 4) + (nI e - nI e / 3 * 3)) + 1) &&& 31))) = nI (sl_en e) := by decide +kernel
theorem sl_endsOf (post : Int32 → Prop) (e : Nat) (he : e < 24) (h : post (nI (sl_en e))) : wpX_endsOf post (nI e) := by
  rcases Nat.lt_or_ge e 12 with h1 | h1
  · refine br_f (show ¬ (12 : Int32) ≤ nI e from nI_ge (b := 12) h1 (by decide)) ⟨by decide, by decide, fun x ex => ?_⟩
    subst ex
    rw [sl_enT2 e h1]
    exact h
  · refine br_t (show (12 : Int32) ≤ nI e from nI_le (a := 12) h1 (by omega)) (fun x ex => ?_)
    subst ex
    rw [sl_enT1 e he h1]
    exact h
def sl_mp (s : Nat) : Nat → Nat → Nat → Nat → Nat → Bool
  | 0, _, a, b, c => sl_q a b && sl_q c 0
  | d + 1, i, a, b, c => bif sl_t s i then sl_mp s d (i + 1) (a ||| sl_en i) (b ||| (a &&& sl_en i)) (c ||| (b &&& sl_en i)) else sl_mp s d (i + 1) a b c
theorem sl_mpL (post : Int32 → Prop) (s : Nat) : ∀ d i a b c, i + d = 24 → post (nI (sl_mp s d i a b c).toNat) → wX_meetInPairs_9 post (nI s) (d + 1) (nI a) (nI b) (nI c) (nI i) := by
  intro d
  induction d with
  | zero =>
    intro i a b c hi h
    refine br_t (show (24 : Int32) ≤ nI i from nI_le (a := 24) (by omega) (by omega)) ?_
    have h' : post (nI (sl_q a b && sl_q c 0).toNat) := h
    refine sl_brq a b (fun z => ?_) (fun z => ?_)
    · rw [z] at h'
      refine sl_brq c 0 (fun y => ?_) (fun y => ?_)
      · rw [y] at h'
        exact h'
      · rw [y] at h'
        exact h'
    · rw [z] at h'
      exact h'
  | succ d ih =>
    intro i a b c hi h
    refine br_f (show ¬ (24 : Int32) ≤ nI i from nI_ge (b := 24) (by omega) (by decide)) ?_
    refine sl_has s (by omega) ?_
    have h' : post (nI (bif sl_t s i then sl_mp s d (i + 1) (a ||| sl_en i) (b ||| (a &&& sl_en i)) (c ||| (b &&& sl_en i)) else sl_mp s d (i + 1) a b c).toNat) := h
    refine sl_br _ (fun z => ?_) (fun z => ?_)
    · rw [z] at h'
      exact nm_r (nI_1 i) (ih (i + 1) a b c (by omega) h')
    · rw [z] at h'
      refine sl_endsOf _ i (by omega) ?_
      refine nm_r (e' := nI (c ||| (b &&& sl_en i))) (by rw [sl_and, sl_or]) ?_
      refine nm_r (e' := nI (b ||| (a &&& sl_en i))) (by rw [sl_and, sl_or]) ?_
      exact nm_r (sl_or a (sl_en i)) (nm_r (nI_1 i) (ih (i + 1) _ _ _ (by omega) h'))
theorem sl_meet (post : Int32 → Prop) (s : Nat) (h : post (nI (sl_mp s 24 0 0 0 0).toNat)) : wpX_meetInPairs post (nI s) := ⟨25, sl_mpL post s 24 0 0 0 0 rfl h⟩
def sl_pt (r : Nat) : Nat → Nat → Nat → Nat
  | 0, _, p => p
  | d + 1, i, p => sl_pt r d (i + 1) (bif sl_t r i then p ||| sl_en i else p)
def sl_wd (s p : Nat) : Nat → Nat → Nat → Nat
  | 0, _, w => w
  | d + 1, i, w => sl_wd s p d (i + 1) (bif sl_t s i then (bif sl_q (sl_en i &&& p) 0 then w else w ||| (1 <<< i)) else w)
def sl_wn (s r : Nat) : Nat := sl_wd s (sl_pt r 24 0 0) 24 0 r
theorem sl_wdL (post : Int32 → Prop) (s p : Nat) : ∀ d i w, i + d = 24 → post (nI (sl_wd s p d i w)) → wX_withNeighbours_36 post (nI s) (nI p) (d + 1) (nI w) (nI i) := by
  intro d
  induction d with
  | zero =>
    intro i w hi h
    exact br_t (show (24 : Int32) ≤ nI i from nI_le (a := 24) (by omega) (by omega)) h
  | succ d ih =>
    intro i w hi h
    refine br_f (show ¬ (24 : Int32) ≤ nI i from nI_ge (b := 24) (by omega) (by decide)) ?_
    refine sl_has s (by omega) ?_
    have ih' := ih (i + 1) _ (by omega) h
    refine sl_br _ (fun z => ?_) (fun z => ?_)
    · rw [z] at ih'
      exact nm_r (nI_1 i) ih'
    · rw [z] at ih'
      refine sl_endsOf _ i (by omega) ?_
      refine sl_brq (sl_en i &&& p) 0 (fun y => ?_) (fun y => ?_) (sl_and _ _)
      · rw [y] at ih'
        exact nm_r (nI_1 i) ih'
      · rw [y] at ih'
        refine nm_r (e' := nI (w ||| (1 <<< i))) (by rw [sl_one i (by omega), sl_or]) ?_
        exact nm_r (nI_1 i) ih'
theorem sl_ptL (post : Int32 → Prop) (s r : Nat) : ∀ d i p, i + d = 24 → post (nI (sl_wd s (sl_pt r d i p) 24 0 r)) → wX_withNeighbours_4 post (nI s) (nI r) (d + 1) (nI p) (nI i) := by
  intro d
  induction d with
  | zero =>
    intro i p hi h
    exact br_t (show (24 : Int32) ≤ nI i from nI_le (a := 24) (by omega) (by omega)) ⟨25, sl_wdL post s p 24 0 r rfl h⟩
  | succ d ih =>
    intro i p hi h
    refine br_f (show ¬ (24 : Int32) ≤ nI i from nI_ge (b := 24) (by omega) (by decide)) ?_
    refine sl_has r (by omega) ?_
    have ih' := ih (i + 1) _ (by omega) h
    refine sl_br _ (fun z => ?_) (fun z => ?_)
    · rw [z] at ih'
      exact nm_r (nI_1 i) ih'
    · rw [z] at ih'
      refine sl_endsOf _ i (by omega) ?_
      exact nm_r (sl_or p (sl_en i)) (nm_r (nI_1 i) ih')
theorem sl_with (post : Int32 → Prop) (s r : Nat) (h : post (nI (sl_wn s r))) : wpX_withNeighbours post (nI s) (nI r) := ⟨25, sl_ptL post s r 24 0 0 rfl h⟩
def sl_cn (s : Nat) : Nat → Nat → Nat
  | 0, r => r
  | d + 1, r => sl_cn s d (sl_wn s r)
theorem sl_cnL (post : Int32 → Prop) (s : Nat) : ∀ d i r, i + d = 24 → post (nI (sl_q (sl_cn s d r) s).toNat) → wX_isConnected_7 post (nI s) (d + 1) (nI r) (nI i) := by
  intro d
  induction d with
  | zero =>
    intro i r hi h
    refine br_t (show (24 : Int32) ≤ nI i from nI_le (a := 24) (by omega) (by omega)) ?_
    have h' : post (nI (sl_q r s).toNat) := h
    refine sl_brq r s (fun z => ?_) (fun z => ?_)
    · rw [z] at h'
      exact h'
    · rw [z] at h'
      exact h'
  | succ d ih =>
    intro i r hi h
    refine br_f (show ¬ (24 : Int32) ≤ nI i from nI_ge (b := 24) (by omega) (by decide)) ?_
    exact sl_with _ s r (nm_r (nI_1 i) (ih (i + 1) _ (by omega) h))
/-- the lowest bit -/
def sl_lo (s : Nat) : Nat := s &&& (4294967296 - s % 4294967296)
theorem sl_conn (post : Int32 → Prop) (s : Nat) (h : post (nI (sl_q (sl_cn s 24 (sl_lo s)) s).toNat)) : wpX_isConnected post (nI s) := by
  refine nm_r (e' := nI (sl_lo s)) (by rw [sl_neg, sl_and]; rfl) ?_
  exact ⟨25, sl_cnL post s 24 0 _ rfl h⟩
end
