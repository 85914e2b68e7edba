section
/-! bits of an Int32 (pasted family: bt ..), then naturals under nI -/
def bt (x : Int32) (i : Nat) : Bool := x.toBitVec.getLsbD i
theorem b_ext {x y : Int32} (h : ∀ i, i < 32 → bt x i = bt y i) : x = y := Int32.toBitVec_inj.mp (BitVec.eq_of_getLsbD_eq (fun i hi => h i hi))
theorem b_or (x y : Int32) (i : Nat) : bt (x ||| y) i = (bt x i || bt y i) := by unfold bt; rw [Int32.toBitVec_or, BitVec.getLsbD_or]
theorem b_and (x y : Int32) (i : Nat) : bt (x &&& y) i = (bt x i && bt y i) := by unfold bt; rw [Int32.toBitVec_and, BitVec.getLsbD_and]
theorem b_xor (x y : Int32) (i : Nat) : bt (x ^^^ y) i = (bt x i ^^ bt y i) := by unfold bt; rw [Int32.toBitVec_xor, BitVec.getLsbD_xor]
theorem b_0 (i : Nat) : bt 0 i = false := BitVec.getLsbD_zero
theorem s_l : ∀ n, n < 32 → ((nI n &&& 31).toBitVec.smod 32).toNat = n := by decide +kernel
theorem b_sshr (n : Nat) (hn : n < 32) (x : Int32) {i : Nat} (hi : i < 32) : bt (x >>> (nI n &&& 31)) i = if n + i < 32 then bt x (n + i) else bt x 31 := by
  unfold bt
  rw [Int32.toBitVec_shiftRight]
  show (x.toBitVec.sshiftRight ((nI n &&& 31).toBitVec.smod 32).toNat).getLsbD i = _
  rw [s_l n hn, BitVec.getLsbD_sshiftRight, BitVec.msb_eq_getLsbD_last]
  simp [hi]
theorem pk_sub {a b : Nat} (h : b ≤ a) : nI a - nI b = nI (a - b) := by
  obtain ⟨c, rfl⟩ : ∃ c, a = c + b := ⟨a - b, by omega⟩
  rw [← nI_add, Int32.add_sub_cancel, Nat.add_sub_cancel]
theorem pk_mul (a b : Nat) : nI a * nI b = nI (a * b) := (Int32.ofNat_mul a b).symm
/-! own rows -/
theorem sl_btn (s : Nat) {i : Nat} (h : i < 32) : bt (nI s) i = s.testBit i := by
  show (BitVec.ofNat 32 s).getLsbD i = _
  rw [BitVec.getLsbD_ofNat]
  simp [h]
theorem sl_and (a b : Nat) : nI a &&& nI b = nI (a &&& b) := by
  apply b_ext
  intro i hi
  rw [b_and, sl_btn _ hi, sl_btn _ hi, sl_btn _ hi, Nat.testBit_and]
theorem sl_or (a b : Nat) : nI a ||| nI b = nI (a ||| b) := by
  apply b_ext
  intro i hi
  rw [b_or, sl_btn _ hi, sl_btn _ hi, sl_btn _ hi, Nat.testBit_or]
theorem sl_xor (a b : Nat) : nI a ^^^ nI b = nI (a ^^^ b) := by
  apply b_ext
  intro i hi
  rw [b_xor, sl_btn _ hi, sl_btn _ hi, sl_btn _ hi, Nat.testBit_xor]
/-- bit i of s -/
def sl_t (s i : Nat) : Bool := Nat.beq (Nat.land (Nat.shiftRight s i) 1) 1
theorem sl_t_eq (s i : Nat) : sl_t s i = s.testBit i := by
  rw [Nat.testBit_eq_decide_div_mod_eq]
  show Nat.beq ((s >>> i) &&& 1) 1 = _
  rw [Nat.and_one_is_mod, Nat.shiftRight_eq_div_pow, Bool.eq_iff_iff, decide_eq_true_iff]
  exact ⟨Nat.eq_of_beq_eq_true, fun h => by rw [h]; rfl⟩
theorem sl_b1 : ∀ k, k < 32 → bt 1 k = decide (k = 0) := by decide +kernel
theorem sl_bit (s : Nat) {i : Nat} (hi : i < 32) : ((nI s >>> (nI i &&& 31)) &&& 1) = nI (sl_t s i).toNat := by
  apply b_ext
  intro k hk
  rw [b_and, sl_b1 k hk, b_sshr i hi _ hk]
  by_cases h0 : k = 0
  · subst h0
    rw [if_pos (by omega), Nat.add_zero, sl_btn s hi, ← sl_t_eq]
    cases sl_t s i <;> decide +kernel
  · rw [decide_eq_false h0, Bool.and_false]
    cases sl_t s i
    · exact (b_0 k).symm
    · exact ((sl_b1 k hk).trans (decide_eq_false h0)).symm
theorem sl_one : ∀ i, i < 32 → (1 : Int32) <<< (nI i &&& 31) = nI (1 <<< i) := by decide +kernel
/-- two naturals are one number of 32 bits -/
def sl_q (a b : Nat) : Bool := Nat.beq (a % 4294967296) (b % 4294967296)
theorem sl_qI (a b : Nat) : nI a = nI b ↔ sl_q a b = true := by
  have h : nI a = nI b ↔ a % 4294967296 = b % 4294967296 := by
    rw [← Int32.toBitVec_inj, ← BitVec.toNat_inj]
    exact Iff.rfl
  rw [h]
  exact ⟨fun e => by unfold sl_q; rw [e]; exact Nat.beq_refl _, Nat.eq_of_beq_eq_true⟩
theorem sl_neg (s : Nat) : -nI s = nI (4294967296 - s % 4294967296) := by
  rw [← Int32.toBitVec_inj, ← BitVec.toNat_inj, Int32.toBitVec_neg, BitVec.toNat_neg]
  show (2 ^ 32 - s % 2 ^ 32) % 2 ^ 32 = (4294967296 - s % 4294967296) % 2 ^ 32
  rfl
/-- a branch on the equality of two numbers -/
theorem sl_brq {x y : Int32} {A B : Prop} (a b : Nat) (f : sl_q a b = true → A) (g : sl_q a b = false → B) (hx : x = nI a := by rfl) (hy : y = nI b := by rfl) : (x = y → A) ∧ (¬ x = y → B) := by
  subst hx hy
  rw [sl_qI]
  exact ⟨f, fun z => g (by cases h : sl_q a b <;> simp_all)⟩
/-- a branch on an answer of a test -/
theorem sl_br {A B : Prop} (b : Bool) (f : b = false → A) (g : b = true → B) : (nI b.toNat = 0 → A) ∧ (¬ nI b.toNat = 0 → B) := by
  cases b
  · exact br_t rfl (f rfl)
  · exact br_f (by decide) (g rfl)
/-- an array that a list fills -/
def sl_f (L : List Nat) : Nat → Int32 := fun j => nI (L.getD j 0)
theorem sl_f0 : sl_f [] = fun _ => 0 := rfl
theorem sl_fa (A B : List Nat) (y : Nat) : sl_f (A ++ y :: B) A.length = nI y := by
  unfold sl_f
  simp
theorem sl_fu (A B : List Nat) (y z : Nat) : upd (sl_f (A ++ y :: B)) A.length (nI z) = sl_f (A ++ z :: B) := by
  funext j
  unfold upd sl_f
  by_cases h : j = A.length
  · subst h
    simp
  · rw [if_neg h]
    rcases Nat.lt_or_ge j A.length with h1 | h1
    · simp [List.getD_eq_getElem?_getD, List.getElem?_append_left h1]
    · obtain ⟨k, rfl⟩ : ∃ k, j = A.length + (k + 1) := ⟨j - A.length - 1, by omega⟩
      rw [List.getD_eq_getElem?_getD, List.getD_eq_getElem?_getD, List.getElem?_append_right (by omega), List.getElem?_append_right (by omega), Nat.add_sub_cancel_left]
      rfl
theorem sl_fp (A : List Nat) (z : Nat) : upd (sl_f A) A.length (nI z) = sl_f (A ++ [z]) := by
  funext j
  unfold upd sl_f
  by_cases h : j = A.length
  · subst h
    simp
  · rw [if_neg h]
    rcases Nat.lt_or_ge j A.length with h1 | h1
    · simp [List.getD_eq_getElem?_getD, List.getElem?_append_left h1]
    · obtain ⟨k, rfl⟩ : ∃ k, j = A.length + (k + 1) := ⟨j - A.length - 1, by omega⟩
      simp [List.getD_eq_getElem?_getD]
/-- filling an array with one value from i on, d cells -/
def sl_fill (v : Int32) : Nat → Nat → (Nat → Int32) → Nat → Int32
  | 0, _, a => a
  | d + 1, i, a => sl_fill v d (i + 1) (upd a i v)
theorem sl_fill0 : ∀ d i, sl_fill 0 d i (fun _ => 0) = fun _ => 0 := by
  intro d
  induction d with
  | zero => intro i; rfl
  | succ d ih =>
    intro i
    have e : upd (fun _ => 0) i 0 = fun _ => 0 := by
      funext j
      unfold upd
      split <;> rfl
    show sl_fill 0 d (i + 1) (upd (fun _ => 0) i 0) = _
    rw [e]
    exact ih _
/-- how many of the numbers i .. i + d - 1 have p, added to acc -/
def sl_cnt (p : Nat → Bool) : Nat → Nat → Nat → Nat
  | 0, _, a => a
  | d + 1, i, a => sl_cnt p d (i + 1) (a + (p i).toNat)
theorem sl_cnt_congr {p q : Nat → Bool} : ∀ d i a, (∀ j, i ≤ j → j < i + d → p j = q j) → sl_cnt p d i a = sl_cnt q d i a := by
  intro d
  induction d with
  | zero => intro i a h; rfl
  | succ d ih =>
    intro i a h
    show sl_cnt p d (i + 1) (a + (p i).toNat) = sl_cnt q d (i + 1) (a + (q i).toNat)
    rw [h i (Nat.le_refl _) (by omega)]
    exact ih _ _ (fun j h1 h2 => h j (by omega) (by omega))
end
section
/-! the component's sets: cellSet, borderOf, meetInPairs, withNeighbours, isConnected -/
theorem sl_has {post : Int32 → Prop} (s : Nat) {i : Nat} (hi : i < 32) (h : post (nI (sl_t s i).toNat)) : wpX_has post (nI s) (nI i) := by
  unfold wpX_has
  rw [sl_bit s hi]
  revert h
  cases sl_t s i
  · exact fun h => br_t rfl h
  · exact fun h => br_f (by decide) h
def sl_cs (o : Nat) : Nat → Nat → Nat → Nat
  | 0, _, s => s
  | d + 1, i, s => sl_cs o d (i + 1) (bif (sl_t o (8 - i) ^^ (Nat.ble 3 i && sl_t s (i - 3))) then s ||| (1 <<< i) else s)
theorem sl_cs39 (post : Int32 → Prop) (J : Int32 → Int32 → Prop) (o s i : Nat) (hi : i < 9) (b c : Bool) (h : J (nI (bif (b ^^ c) then s ||| (1 <<< i) else s)) (nI (i + 1))) : wX_cellSet_39 post J (nI o) (nI s) (nI i) (nI b.toNat) (nI c.toNat) := by
  unfold wX_cellSet_39
  rw [nI_1, sl_one i (by omega), sl_or]
  cases b <;> cases c
  · exact br_t rfl (nm_e h)
  · exact br_f (by decide) (nm_e (nm_e h))
  · exact br_f (by decide) (nm_e (nm_e h))
  · exact br_t rfl (nm_e h)
theorem sl_csL (post : Int32 → Prop) (o : Nat) : ∀ d i s, i + d = 9 → post (nI (sl_cs o d i s)) → wX_cellSet_4 post (nI o) (d + 1) (nI s) (nI i) := by
  intro d
  induction d with
  | zero =>
    intro i s hi h
    exact br_t (show (9 : Int32) ≤ nI i from nI_le (a := 9) (by omega) (by omega)) h
  | succ d ih =>
    intro i s hi h
    refine br_f (show ¬ (9 : Int32) ≤ nI i from nI_ge (b := 9) (by omega) (by decide)) ?_
    have e8 : (8 : Int32) - nI i = nI (8 - i) := pk_sub (a := 8) (by omega)
    rw [e8]
    refine sl_has o (by omega) ?_
    have ih' := ih (i + 1) _ (by omega) h
    rcases Nat.lt_or_ge i 3 with h3 | h3
    · refine br_t (show nI i < (3 : Int32) from nI_lt (b := 3) h3 (by decide)) ?_
      have e : Nat.ble 3 i = false := by
        rw [← Bool.not_eq_true, Nat.ble_eq]; omega
      rw [e, Bool.false_and] at ih'
      exact sl_cs39 post _ o s i (by omega) (sl_t o (8 - i)) false ih'
    · refine br_f (show ¬ nI i < (3 : Int32) from nI_nlt (b := 3) h3 (by omega)) ?_
      have e : Nat.ble 3 i = true := by rw [Nat.ble_eq]; omega
      rw [e, Bool.true_and] at ih'
      have e3 : nI i - (3 : Int32) = nI (i - 3) := pk_sub (b := 3) (by omega)
      rw [e3]
      refine sl_has s (by omega) ?_
      refine sl_br _ (fun z => ?_) (fun z => ?_)
      · rw [z] at ih'
        exact sl_cs39 post _ o s i (by omega) (sl_t o (8 - i)) false ih'
      · rw [z] at ih'
        exact sl_cs39 post _ o s i (by omega) (sl_t o (8 - i)) true ih'
theorem sl_cellSet (post : Int32 → Prop) (o : Nat) (h : post (nI (sl_cs o 9 0 0))) : wpX_cellSet post (nI o) := ⟨10, sl_csL post o 9 0 0 rfl h⟩
def sl_eo (c : Nat) : Nat := 1 <<< c ||| 1 <<< (c + 3) ||| 1 <<< (12 + c / 3 * 4 + c % 3) ||| 1 <<< (13 + c / 3 * 4 + c % 3)
theorem sl_eoT : ∀ c, c < 9 → (((((1 : Int32) <<< (nI c &&& 31)) ||| ((1 : Int32) <<< ((nI c + 3) &&& 31))) ||| ((1 : Int32) <<< (((12 + ((nI c / 3) * 4)) + (nI c - nI c / 3 * 3)) &&& 31))) ||| ((1 : Int32) <<< ((((12 + ((nI c / 3) * 4)) + (nI c - nI c / 3 * 3)) + 1) &&& 31))) = nI (sl_eo c) := by decide +kernel
theorem sl_edgesOf (post : Int32 → Prop) (c : Nat) (hc : c < 9) (h : post (nI (sl_eo c))) : wpX_edgesOf post (nI c) := by
  intro x2 e2
  refine ⟨by decide, by decide, fun x3 e3 x4 e4 => ?_⟩
  subst e4 e3 e2
  rw [sl_eoT c hc]
  exact h
def sl_bo (s : Nat) : Nat → Nat → Nat → Nat
  | 0, _, a => a
  | d + 1, i, a => sl_bo s d (i + 1) (bif sl_t s i then a ^^^ sl_eo i else a)
theorem sl_boL (post : Int32 → Prop) (s : Nat) : ∀ d i a, i + d = 9 → post (nI (sl_bo s d i a)) → wX_borderOf_4 post (nI s) (d + 1) (nI a) (nI i) := by
  intro d
  induction d with
  | zero =>
    intro i a hi h
    exact br_t (show (9 : Int32) ≤ nI i from nI_le (a := 9) (by omega) (by omega)) h
  | succ d ih =>
    intro i a hi h
    refine br_f (show ¬ (9 : Int32) ≤ nI i from nI_ge (b := 9) (by omega) (by decide)) ?_
    refine sl_has s (by omega) ?_
    have ih' := ih (i + 1) _ (by omega) h
    refine sl_br _ (fun z => ?_) (fun z => ?_)
    · rw [z] at ih'
      exact nm_r (nI_1 i) ih'
    · rw [z] at ih'
      refine sl_edgesOf _ i (by omega) ?_
      exact nm_r (sl_xor a (sl_eo i)) (nm_r (nI_1 i) ih')
theorem sl_borderOf (post : Int32 → Prop) (s : Nat) (h : post (nI (sl_bo s 9 0 0))) : wpX_borderOf post (nI s) := ⟨10, sl_boL post s 9 0 0 rfl h⟩
def sl_en (e : Nat) : Nat := bif Nat.ble 12 e then 17 <<< (e - 12) else 3 <<< (e + e / 3)
theorem sl_enT1 : ∀ e, e < 24 → 12 ≤ e → (((1 : Int32) <<< ((nI e - 12) &&& 31)) ||| ((1 : Int32) <<< (((nI e - 12) + 4) &&& 31))) = nI (sl_en e) := by decide +kernel
theorem sl_enT2 : ∀ e, e < 12 → (((1 : Int32) <<< ((((nI e / 3) * 4) + (nI e - nI e / 3 * 3)) &&& 31)) ||| ((1 : Int32) <<< (((((nI e / 3) * 4) + (nI e - nI e / 3 * 3)) + 1) &&& 31))) = nI (sl_en e) := by decide +kernel
theorem sl_endsOf (post : Int32 → Prop) (e : Nat) (he : e < 24) (h : post (nI (sl_en e))) : wpX_endsOf post (nI e) := by
  rcases Nat.lt_or_ge e 12 with h1 | h1
  · refine br_f (show ¬ (12 : Int32) ≤ nI e from nI_ge (b := 12) h1 (by decide)) ⟨by decide, by decide, fun x ex => ?_⟩
    subst ex
    rw [sl_enT2 e h1]
    exact h
  · refine br_t (show (12 : Int32) ≤ nI e from nI_le (a := 12) h1 (by omega)) (fun x ex => ?_)
    subst ex
    rw [sl_enT1 e he h1]
    exact h
def sl_mp (s : Nat) : Nat → Nat → Nat → Nat → Nat → Bool
  | 0, _, a, b, c => sl_q a b && sl_q c 0
  | d + 1, i, a, b, c => bif sl_t s i then sl_mp s d (i + 1) (a ||| sl_en i) (b ||| (a &&& sl_en i)) (c ||| (b &&& sl_en i)) else sl_mp s d (i + 1) a b c
theorem sl_mpL (post : Int32 → Prop) (s : Nat) : ∀ d i a b c, i + d = 24 → post (nI (sl_mp s d i a b c).toNat) → wX_meetInPairs_9 post (nI s) (d + 1) (nI a) (nI b) (nI c) (nI i) := by
  intro d
  induction d with
  | zero =>
    intro i a b c hi h
    refine br_t (show (24 : Int32) ≤ nI i from nI_le (a := 24) (by omega) (by omega)) ?_
    have h' : post (nI (sl_q a b && sl_q c 0).toNat) := h
    refine sl_brq a b (fun z => ?_) (fun z => ?_)
    · rw [z] at h'
      refine sl_brq c 0 (fun y => ?_) (fun y => ?_)
      · rw [y] at h'
        exact h'
      · rw [y] at h'
        exact h'
    · rw [z] at h'
      exact h'
  | succ d ih =>
    intro i a b c hi h
    refine br_f (show ¬ (24 : Int32) ≤ nI i from nI_ge (b := 24) (by omega) (by decide)) ?_
    refine sl_has s (by omega) ?_
    have h' : post (nI (bif sl_t s i then sl_mp s d (i + 1) (a ||| sl_en i) (b ||| (a &&& sl_en i)) (c ||| (b &&& sl_en i)) else sl_mp s d (i + 1) a b c).toNat) := h
    refine sl_br _ (fun z => ?_) (fun z => ?_)
    · rw [z] at h'
      exact nm_r (nI_1 i) (ih (i + 1) a b c (by omega) h')
    · rw [z] at h'
      refine sl_endsOf _ i (by omega) ?_
      refine nm_r (e' := nI (c ||| (b &&& sl_en i))) (by rw [sl_and, sl_or]) ?_
      refine nm_r (e' := nI (b ||| (a &&& sl_en i))) (by rw [sl_and, sl_or]) ?_
      exact nm_r (sl_or a (sl_en i)) (nm_r (nI_1 i) (ih (i + 1) _ _ _ (by omega) h'))
theorem sl_meet (post : Int32 → Prop) (s : Nat) (h : post (nI (sl_mp s 24 0 0 0 0).toNat)) : wpX_meetInPairs post (nI s) := ⟨25, sl_mpL post s 24 0 0 0 0 rfl h⟩
def sl_pt (r : Nat) : Nat → Nat → Nat → Nat
  | 0, _, p => p
  | d + 1, i, p => sl_pt r d (i + 1) (bif sl_t r i then p ||| sl_en i else p)
def sl_wd (s p : Nat) : Nat → Nat → Nat → Nat
  | 0, _, w => w
  | d + 1, i, w => sl_wd s p d (i + 1) (bif sl_t s i then (bif sl_q (sl_en i &&& p) 0 then w else w ||| (1 <<< i)) else w)
def sl_wn (s r : Nat) : Nat := sl_wd s (sl_pt r 24 0 0) 24 0 r
theorem sl_wdL (post : Int32 → Prop) (s p : Nat) : ∀ d i w, i + d = 24 → post (nI (sl_wd s p d i w)) → wX_withNeighbours_36 post (nI s) (nI p) (d + 1) (nI w) (nI i) := by
  intro d
  induction d with
  | zero =>
    intro i w hi h
    exact br_t (show (24 : Int32) ≤ nI i from nI_le (a := 24) (by omega) (by omega)) h
  | succ d ih =>
    intro i w hi h
    refine br_f (show ¬ (24 : Int32) ≤ nI i from nI_ge (b := 24) (by omega) (by decide)) ?_
    refine sl_has s (by omega) ?_
    have ih' := ih (i + 1) _ (by omega) h
    refine sl_br _ (fun z => ?_) (fun z => ?_)
    · rw [z] at ih'
      exact nm_r (nI_1 i) ih'
    · rw [z] at ih'
      refine sl_endsOf _ i (by omega) ?_
      refine sl_brq (sl_en i &&& p) 0 (fun y => ?_) (fun y => ?_) (sl_and _ _)
      · rw [y] at ih'
        exact nm_r (nI_1 i) ih'
      · rw [y] at ih'
        refine nm_r (e' := nI (w ||| (1 <<< i))) (by rw [sl_one i (by omega), sl_or]) ?_
        exact nm_r (nI_1 i) ih'
theorem sl_ptL (post : Int32 → Prop) (s r : Nat) : ∀ d i p, i + d = 24 → post (nI (sl_wd s (sl_pt r d i p) 24 0 r)) → wX_withNeighbours_4 post (nI s) (nI r) (d + 1) (nI p) (nI i) := by
  intro d
  induction d with
  | zero =>
    intro i p hi h
    exact br_t (show (24 : Int32) ≤ nI i from nI_le (a := 24) (by omega) (by omega)) ⟨25, sl_wdL post s p 24 0 r rfl h⟩
  | succ d ih =>
    intro i p hi h
    refine br_f (show ¬ (24 : Int32) ≤ nI i from nI_ge (b := 24) (by omega) (by decide)) ?_
    refine sl_has r (by omega) ?_
    have ih' := ih (i + 1) _ (by omega) h
    refine sl_br _ (fun z => ?_) (fun z => ?_)
    · rw [z] at ih'
      exact nm_r (nI_1 i) ih'
    · rw [z] at ih'
      refine sl_endsOf _ i (by omega) ?_
      exact nm_r (sl_or p (sl_en i)) (nm_r (nI_1 i) ih')
theorem sl_with (post : Int32 → Prop) (s r : Nat) (h : post (nI (sl_wn s r))) : wpX_withNeighbours post (nI s) (nI r) := ⟨25, sl_ptL post s r 24 0 0 rfl h⟩
def sl_cn (s : Nat) : Nat → Nat → Nat
  | 0, r => r
  | d + 1, r => sl_cn s d (sl_wn s r)
theorem sl_cnL (post : Int32 → Prop) (s : Nat) : ∀ d i r, i + d = 24 → post (nI (sl_q (sl_cn s d r) s).toNat) → wX_isConnected_7 post (nI s) (d + 1) (nI r) (nI i) := by
  intro d
  induction d with
  | zero =>
    intro i r hi h
    refine br_t (show (24 : Int32) ≤ nI i from nI_le (a := 24) (by omega) (by omega)) ?_
    have h' : post (nI (sl_q r s).toNat) := h
    refine sl_brq r s (fun z => ?_) (fun z => ?_)
    · rw [z] at h'
      exact h'
    · rw [z] at h'
      exact h'
  | succ d ih =>
    intro i r hi h
    refine br_f (show ¬ (24 : Int32) ≤ nI i from nI_ge (b := 24) (by omega) (by decide)) ?_
    exact sl_with _ s r (nm_r (nI_1 i) (ih (i + 1) _ (by omega) h))
/-- the lowest bit -/
def sl_lo (s : Nat) : Nat := s &&& (4294967296 - s % 4294967296)
theorem sl_conn (post : Int32 → Prop) (s : Nat) (h : post (nI (sl_q (sl_cn s 24 (sl_lo s)) s).toNat)) : wpX_isConnected post (nI s) := by
  refine nm_r (e' := nI (sl_lo s)) (by rw [sl_neg, sl_and]; rfl) ?_
  exact ⟨25, sl_cnL post s 24 0 _ rfl h⟩
end
section
/-! the reference's sets: in, connected, border -/
/-- the place of a cell, 99 where there is none -/
def sl_ip (r c : Int32) : Nat := if r < 0 then 99 else if 3 ≤ r then 99 else if c < 0 then 99 else if 3 ≤ c then 99 else (r * 3 + c).toNatClampNeg
def sl_iv (s p : Nat) : Bool := Nat.ble p 8 && sl_t s p
theorem sl_iv99 (s : Nat) : sl_iv s 99 = false := rfl
theorem sl_in (post : Int32 → Prop) (v : SY) (s p : Nat) (r c : Int32) (e : sl_ip r c = p) (h : post (nI (sl_iv s p).toNat)) : wpY_in post v (nI s) r c := by
  obtain ⟨f_listed, a_loops, a_clues, a_marks⟩ := v
  subst e
  unfold sl_ip at h
  by_cases h1 : r < 0
  · rw [if_pos h1] at h
    exact br_t h1 h
  refine br_f h1 ?_
  rw [if_neg h1] at h
  by_cases h2 : 3 ≤ r
  · rw [if_pos h2] at h
    exact br_t h2 h
  refine br_f h2 ?_
  rw [if_neg h2] at h
  by_cases h3 : c < 0
  · rw [if_pos h3] at h
    exact br_t h3 h
  refine br_f h3 ?_
  rw [if_neg h3] at h
  by_cases h4 : 3 ≤ c
  · rw [if_pos h4] at h
    exact br_t h4 h
  refine br_f h4 ?_
  rw [if_neg h4] at h
  obtain ⟨a, ha, rfl⟩ := nI_of h1
  obtain ⟨b, hb, rfl⟩ := nI_of h3
  have h2' : a < 3 := by
    rcases Nat.lt_or_ge a 3 with z | z
    · exact z
    · exact absurd (nI_le (a := 3) z ha) h2
  have h4' : b < 3 := by
    rcases Nat.lt_or_ge b 3 with z | z
    · exact z
    · exact absurd (nI_le (a := 3) z hb) h4
  have e : nI a * 3 + nI b = nI (a * 3 + b) := by
    rw [← nI_add, ← pk_mul]
    rfl
  rw [e, nI_clamp (by omega)] at h
  rw [e, sl_bit s (by omega)]
  have e2 : sl_iv s (a * 3 + b) = sl_t s (a * 3 + b) := by
    unfold sl_iv
    rw [show Nat.ble (a * 3 + b) 8 = true from by rw [Nat.ble_eq]; omega, Bool.true_and]
  rw [e2] at h
  revert h
  cases sl_t s (a * 3 + b)
  · exact fun h => br_f (by decide) h
  · exact fun h => br_t rfl h
def sl_n0 (i : Nat) : Nat := bif Nat.ble 3 i then i - 3 else 99
def sl_n1 (i : Nat) : Nat := bif Nat.ble i 5 then i + 3 else 99
def sl_n2 (i : Nat) : Nat := bif Nat.beq (i % 3) 0 then 99 else i - 1
def sl_n3 (i : Nat) : Nat := bif Nat.beq (i % 3) 2 then 99 else i + 1
theorem sl_nT : ∀ i, i < 9 → sl_ip (nI i / 3 - 1) (nI i - nI i / 3 * 3) = sl_n0 i ∧ sl_ip (nI i / 3 + 1) (nI i - nI i / 3 * 3) = sl_n1 i ∧ sl_ip (nI i / 3) (nI i - nI i / 3 * 3 - 1) = sl_n2 i ∧ sl_ip (nI i / 3) (nI i - nI i / 3 * 3 + 1) = sl_n3 i ∧ sl_ip (nI i / 3) (nI i - nI i / 3 * 3) = i := by decide +kernel
def sl_bs (r i : Nat) : Bool := sl_iv r (sl_n0 i) || (sl_iv r (sl_n1 i) || (sl_iv r (sl_n2 i) || sl_iv r (sl_n3 i)))
def sl_c1 (s : Nat) : Nat → Nat → Nat → Nat
  | 0, _, r => r
  | d + 1, i, r => sl_c1 s d (i + 1) (bif sl_iv s i then (bif sl_bs r i then r ||| (1 <<< i) else r) else r)
theorem sl_c96 (post : Int32 → Prop) (J7 J16 : Int32 → Int32 → Prop) (s r i : Nat) (x3 : Int32) (f : Int32) (a1 a2 a3 : Nat → Int32) (hi : i < 9) (b : Bool) (h : J16 (nI (bif sl_iv s i then (bif b then r ||| (1 <<< i) else r) else r)) (nI (i + 1))) : wY_connected_96 post J7 J16 (nI s) (nI r) x3 (nI i) (nI i / 3) (nI i - nI i / 3 * 3) (nI b.toNat) f a1 a2 a3 := by
  refine sl_in _ _ s i _ _ (sl_nT i hi).2.2.2.2 ?_
  refine sl_br _ (fun z => ?_) (fun z => ?_)
  · rw [z] at h
    exact nm_r (nI_1 i) h
  · rw [z] at h
    refine sl_br b (fun y => ?_) (fun y => ?_)
    · rw [y] at h
      exact nm_r (nI_1 i) h
    · rw [y] at h
      refine nm_r (e' := nI (r ||| (1 <<< i))) (by rw [sl_one i (by omega), sl_or]) ?_
      exact nm_r (nI_1 i) h
theorem sl_c1L (post : Int32 → Prop) (J7 : Int32 → Int32 → Prop) (s k : Nat) (f : Int32) (a1 a2 a3 : Nat → Int32) : ∀ d i r, i + d = 9 → J7 (nI (sl_c1 s d i r)) (nI (k + 1)) → wY_connected_16 post J7 (nI s) (nI k) f a1 a2 a3 (d + 1) (nI r) (nI i) := by
  intro d
  induction d with
  | zero =>
    intro i r hi h
    exact br_t (show (9 : Int32) ≤ nI i from nI_le (a := 9) (by omega) (by omega)) (nm_r (nI_1 k) h)
  | succ d ih =>
    intro i r hi h
    refine br_f (show ¬ (9 : Int32) ≤ nI i from nI_ge (b := 9) (by omega) (by decide)) ?_
    refine ⟨by decide, nm_e ⟨by decide, nm_e ?_⟩⟩
    have ih' := ih (i + 1) _ (by omega) h
    obtain ⟨t0, t1, t2, t3, t4⟩ := sl_nT i (by omega)
    refine sl_in _ _ r _ _ _ t0 (sl_br _ (fun z0 => ?_) (fun z0 => ?_))
    · refine sl_in _ _ r _ _ _ t1 (sl_br _ (fun z1 => ?_) (fun z1 => ?_))
      · refine sl_in _ _ r _ _ _ t2 (sl_br _ (fun z2 => ?_) (fun z2 => ?_))
        · refine sl_in _ _ r _ _ _ t3 (sl_br _ (fun z3 => ?_) (fun z3 => ?_))
          · have eb : sl_bs r i = false := by unfold sl_bs; rw [z0, z1, z2, z3]; rfl
            rw [eb] at ih'
            exact sl_c96 post J7 _ s r i (nI k) f a1 a2 a3 (by omega) false ih'
          · have eb : sl_bs r i = true := by unfold sl_bs; rw [z0, z1, z2, z3]; rfl
            rw [eb] at ih'
            exact sl_c96 post J7 _ s r i (nI k) f a1 a2 a3 (by omega) true ih'
        · have eb : sl_bs r i = true := by unfold sl_bs; rw [z0, z1, z2]; rfl
          rw [eb] at ih'
          exact sl_c96 post J7 _ s r i (nI k) f a1 a2 a3 (by omega) true ih'
      · have eb : sl_bs r i = true := by unfold sl_bs; rw [z0, z1]; rfl
        rw [eb] at ih'
        exact sl_c96 post J7 _ s r i (nI k) f a1 a2 a3 (by omega) true ih'
    · have eb : sl_bs r i = true := by unfold sl_bs; rw [z0]; rfl
      rw [eb] at ih'
      exact sl_c96 post J7 _ s r i (nI k) f a1 a2 a3 (by omega) true ih'
def sl_c2 (s : Nat) : Nat → Nat → Nat
  | 0, r => r
  | d + 1, r => sl_c2 s d (sl_c1 s 9 0 r)
theorem sl_c2L (post : Int32 → Prop) (s : Nat) (f : Int32) (a1 a2 a3 : Nat → Int32) : ∀ d k r, k + d = 9 → post (nI (sl_q (sl_c2 s d r) s).toNat) → wY_connected_7 post (nI s) f a1 a2 a3 (d + 1) (nI r) (nI k) := by
  intro d
  induction d with
  | zero =>
    intro k r hk h
    refine br_t (show (9 : Int32) ≤ nI k from nI_le (a := 9) (by omega) (by omega)) ?_
    have h' : post (nI (sl_q r s).toNat) := h
    refine sl_brq r s (fun z => ?_) (fun z => ?_)
    · rw [z] at h'
      exact h'
    · rw [z] at h'
      exact h'
  | succ d ih =>
    intro k r hk h
    refine br_f (show ¬ (9 : Int32) ≤ nI k from nI_ge (b := 9) (by omega) (by decide)) ?_
    exact ⟨10, sl_c1L post _ s k f a1 a2 a3 9 0 r rfl (ih (k + 1) _ (by omega) h)⟩
theorem sl_connY (post : Int32 → Prop) (v : SY) (s : Nat) (h : post (nI (sl_q (sl_c2 s 9 (sl_lo s)) s).toNat)) : wpY_connected post v (nI s) := by
  obtain ⟨f, a1, a2, a3⟩ := v
  refine nm_r (e' := nI (sl_lo s)) (by rw [sl_neg, sl_and]; rfl) ?_
  exact ⟨10, sl_c2L post s f a1 a2 a3 9 0 _ rfl h⟩
def sl_pa (e : Nat) : Nat := bif Nat.ble 12 e then (bif Nat.beq ((e - 12) % 4) 3 then 99 else (e - 12) / 4 * 3 + (e - 12) % 4) else (bif Nat.ble e 8 then e else 99)
def sl_pb (e : Nat) : Nat := bif Nat.ble 12 e then (bif Nat.beq ((e - 12) % 4) 0 then 99 else (e - 12) / 4 * 3 + (e - 12) % 4 - 1) else (bif Nat.ble 3 e then e - 3 else 99)
theorem sl_pT1 : ∀ e, e < 24 → 12 ≤ e → sl_ip ((nI e - 12) / 4) ((nI e - 12) - (nI e - 12) / 4 * 4) = sl_pa e ∧ sl_ip ((nI e - 12) / 4) (((nI e - 12) - (nI e - 12) / 4 * 4) - 1) = sl_pb e := by decide +kernel
theorem sl_pT2 : ∀ e, e < 12 → sl_ip (nI e / 3) (nI e - nI e / 3 * 3) = sl_pa e ∧ sl_ip (nI e / 3 - 1) (nI e - nI e / 3 * 3) = sl_pb e := by decide +kernel
def sl_by (s : Nat) : Nat → Nat → Nat → Nat
  | 0, _, a => a
  | d + 1, e, a => sl_by s d (e + 1) (bif (sl_iv s (sl_pa e) ^^ sl_iv s (sl_pb e)) then a ||| (1 <<< (23 - e)) else a)
theorem sl_by92 (post : Int32 → Prop) (J : Int32 → Int32 → Prop) (x1 : Int32) (a e : Nat) (he : e < 24) (b c : Bool) (f : Int32) (a1 a2 a3 : Nat → Int32) (h : J (nI (bif (b ^^ c) then a ||| (1 <<< (23 - e)) else a)) (nI (e + 1))) : wY_border_92 post J x1 (nI a) (nI e) (nI b.toNat) (nI c.toNat) f a1 a2 a3 := by
  unfold wY_border_92
  rw [nI_1, show (23 : Int32) - nI e = nI (23 - e) from pk_sub (a := 23) (by omega), sl_one (23 - e) (by omega), sl_or]
  cases b <;> cases c
  · exact br_t rfl (nm_e h)
  · exact br_f (by decide) (nm_e (nm_e h))
  · exact br_f (by decide) (nm_e (nm_e h))
  · exact br_t rfl (nm_e h)
theorem sl_byL (post : Int32 → Prop) (s : Nat) (f : Int32) (a1 a2 a3 : Nat → Int32) : ∀ d e a, e + d = 24 → post (nI (sl_by s d e a)) → wY_border_4 post (nI s) f a1 a2 a3 (d + 1) (nI a) (nI e) := by
  intro d
  induction d with
  | zero =>
    intro e a he h
    exact br_t (show (24 : Int32) ≤ nI e from nI_le (a := 24) (by omega) (by omega)) h
  | succ d ih =>
    intro e a he h
    refine br_f (show ¬ (24 : Int32) ≤ nI e from nI_ge (b := 24) (by omega) (by decide)) ?_
    have ih' := ih (e + 1) _ (by omega) h
    rcases Nat.lt_or_ge e 12 with h1 | h1
    · have g : ¬ (12 : Int32) ≤ nI e := nI_ge (b := 12) h1 (by decide)
      refine br_f g ⟨by decide, br_f g ⟨by decide, ?_⟩⟩
      refine sl_in _ _ s _ _ _ (sl_pT2 e h1).1 (br_f g ?_)
      refine sl_in _ _ s _ _ _ (sl_pT2 e h1).2 ?_
      exact sl_by92 post _ _ a e (by omega) _ _ f a1 a2 a3 ih'
    · have g : (12 : Int32) ≤ nI e := nI_le (a := 12) h1 (by omega)
      refine br_t g ⟨by decide, br_t g ⟨by decide, ?_⟩⟩
      refine sl_in _ _ s _ _ _ (sl_pT1 e (by omega) h1).1 (br_t g ?_)
      refine sl_in _ _ s _ _ _ (sl_pT1 e (by omega) h1).2 ?_
      exact sl_by92 post _ _ a e (by omega) _ _ f a1 a2 a3 ih'
theorem sl_borderY (post : Int32 → Prop) (v : SY) (s : Nat) (h : post (nI (sl_by s 24 0 0))) : wpY_border post v (nI s) := by
  obtain ⟨f, a1, a2, a3⟩ := v
  exact ⟨25, sl_byL post s f a1 a2 a3 24 0 0 rfl h⟩
end
section
/-! both constructors against lists -/
def sl_ge (e c : Nat) : Option (Nat × Nat) := bif sl_q e 0 then none else bif sl_mp e 24 0 0 0 0 then (bif sl_q (sl_cn e 24 (sl_lo e)) e then some (e, c) else none) else none
def sl_gx (o : Nat) : Option (Nat × Nat) := sl_ge (sl_bo (sl_cs o 9 0 0) 9 0 0) (sl_cs o 9 0 0)
def sl_fl : Nat → Nat → List (Nat × Nat)
  | 0, _ => []
  | d + 1, o => (sl_gx o).toList ++ sl_fl d (o + 1)
theorem sl_fl_add : ∀ a b o, sl_fl (a + b) o = sl_fl a o ++ sl_fl b (o + a) := by
  intro a
  induction a with
  | zero => intro b o; rw [Nat.zero_add]; rfl
  | succ a ih =>
    intro b o
    rw [show a + 1 + b = (a + b) + 1 from by omega]
    show (sl_gx o).toList ++ sl_fl (a + b) (o + 1) = ((sl_gx o).toList ++ sl_fl a (o + 1)) ++ sl_fl b (o + (a + 1))
    rw [ih, List.append_assoc, show o + 1 + a = o + (a + 1) from by omega]
theorem sl_flL (post : SX → Prop) (c m : Nat → Int32) : ∀ d o L, o + d = 512 → L.length + d ≤ 512 → post (nI (L ++ sl_fl d o).length, c, m, sl_f ((L ++ sl_fl d o).map Prod.fst), sl_f ((L ++ sl_fl d o).map Prod.snd)) → wX_findLoops_2 post (d + 1) (nI o) (nI L.length) c m (sl_f (L.map Prod.fst)) (sl_f (L.map Prod.snd)) := by
  intro d
  induction d with
  | zero =>
    intro o L ho hL h
    have e : L ++ sl_fl 0 o = L := List.append_nil L
    rw [e] at h
    exact br_t (show (512 : Int32) ≤ nI o from nI_le (a := 512) (by omega) (by omega)) h
  | succ d ih =>
    intro o L ho hL h
    refine br_f (show ¬ (512 : Int32) ≤ nI o from nI_ge (b := 512) (by omega) (by decide)) ?_
    refine sl_cellSet _ o (sl_borderOf _ _ ?_)
    have hn : sl_gx o = none → wX_findLoops_2 post (d + 1) (nI (o + 1)) (nI L.length) c m (sl_f (L.map Prod.fst)) (sl_f (L.map Prod.snd)) := by
      intro z
      refine ih (o + 1) L (by omega) (by omega) ?_
      have e : sl_fl (d + 1) o = sl_fl d (o + 1) := by
        show (sl_gx o).toList ++ sl_fl d (o + 1) = _
        rw [z]
        rfl
      rw [e] at h
      exact h
    have hs : ∀ p : Nat × Nat, sl_gx o = some p → wX_findLoops_2 post (d + 1) (nI (o + 1)) (nI (L.length + 1)) c m (sl_f (L.map Prod.fst ++ [p.1])) (sl_f (L.map Prod.snd ++ [p.2])) := by
      intro p z
      have e : L ++ sl_fl (d + 1) o = (L ++ [p]) ++ sl_fl d (o + 1) := by
        show L ++ ((sl_gx o).toList ++ sl_fl d (o + 1)) = _
        rw [z, List.append_assoc]
        rfl
      rw [e] at h
      have w := ih (o + 1) (L ++ [p]) (by omega) (by rw [List.length_append]; show L.length + 1 + d ≤ 512; omega) h
      rw [List.length_append, List.map_append, List.map_append] at w
      exact w
    have hg : sl_gx o = sl_ge (sl_bo (sl_cs o 9 0 0) 9 0 0) (sl_cs o 9 0 0) := rfl
    rw [hg] at hn hs
    generalize sl_bo (sl_cs o 9 0 0) 9 0 0 = e at hn hs ⊢
    generalize sl_cs o 9 0 0 = k at hn hs ⊢
    refine sl_brq e 0 (fun z => ?_) (fun z => ?_)
    · exact nm_r (nI_1 o) (hn (by unfold sl_ge; rw [z]; rfl))
    · refine sl_meet _ e (sl_br _ (fun y => ?_) (fun y => ?_))
      · exact nm_r (nI_1 o) (hn (by unfold sl_ge; rw [z, y]; rfl))
      · refine sl_conn _ e (sl_br _ (fun x => ?_) (fun x => ?_))
        · exact nm_r (nI_1 o) (hn (by unfold sl_ge; rw [z, y, x]; rfl))
        · have hv : vp_in (nI L.length) 512 := vp_in_nI (by omega) (by omega)
          have hc : (nI L.length).toNatClampNeg = L.length := nI_clamp (by omega)
          refine ⟨hv, nm_r (e' := sl_f (L.map Prod.fst ++ [e])) ?_ ⟨hv, nm_r (e' := sl_f (L.map Prod.snd ++ [k])) ?_ (nm_r (nI_1 _) (nm_r (nI_1 o) (hs (e, k) (by unfold sl_ge; rw [z, y, x]; rfl))))⟩⟩
          · rw [hc]
            have w := sl_fp (L.map Prod.fst) e
            rw [List.length_map] at w
            exact w
          · rw [hc]
            have w := sl_fp (L.map Prod.snd) k
            rw [List.length_map] at w
            exact w
/-! the reference's list -/
def sl_ou (s : Nat) : Bool := sl_iv s 4 || (!sl_iv s 1 || (!sl_iv s 3 || (!sl_iv s 5 || !sl_iv s 7)))
def sl_gy (s : Nat) : Option Nat := bif sl_q (sl_c2 s 9 (sl_lo s)) s then (bif sl_ou s then some (sl_by s 24 0 0) else none) else none
def sl_fy : Nat → Nat → List Nat
  | 0, _ => []
  | d + 1, s => (sl_gy s).toList ++ sl_fy d (s + 1)
theorem sl_fy_add : ∀ a b o, sl_fy (a + b) o = sl_fy a o ++ sl_fy b (o + a) := by
  intro a
  induction a with
  | zero => intro b o; rw [Nat.zero_add]; rfl
  | succ a ih =>
    intro b o
    rw [show a + 1 + b = (a + b) + 1 from by omega]
    show (sl_gy o).toList ++ sl_fy (a + b) (o + 1) = ((sl_gy o).toList ++ sl_fy a (o + 1)) ++ sl_fy b (o + (a + 1))
    rw [ih, List.append_assoc, show o + 1 + a = o + (a + 1) from by omega]
theorem sl_y120 (post : SY → Prop) (J : Int32 → Int32 → (Nat → Int32) → (Nat → Int32) → (Nat → Int32) → Prop) (s : Nat) (b o : Bool) (L : List Nat) (c m : Nat → Int32) (hL : b = true → o = true → L.length < 256) (hn : b = false ∨ o = false → J (nI (s + 1)) (nI L.length) (sl_f L) c m) (hs : b = true → o = true → J (nI (s + 1)) (nI (L.length + 1)) (sl_f (L ++ [sl_by s 24 0 0])) c m) : wY_init_120 post J (nI s) (nI b.toNat) (nI o.toNat) (nI L.length) (sl_f L) c m := by
  refine sl_br b (fun z => ?_) (fun z => ?_)
  · exact nm_r (nI_1 s) (hn (Or.inl z))
  · refine sl_br o (fun y => ?_) (fun y => ?_)
    · exact nm_r (nI_1 s) (hn (Or.inr y))
    · have h := hL z y
      refine br_f (show ¬ (256 : Int32) ≤ nI L.length from nI_ge (b := 256) h (by decide)) ?_
      refine sl_borderY _ _ s ⟨vp_in_nI h (by decide), ?_⟩
      refine nm_r (e' := sl_f (L ++ [sl_by s 24 0 0])) ?_ (nm_r (nI_1 _) (nm_r (nI_1 s) (hs z y)))
      rw [nI_clamp (by omega)]
      exact sl_fp L _
theorem sl_fyL (post : SY → Prop) (c m : Nat → Int32) : ∀ d s L, s + d = 512 → (L ++ sl_fy d s).length ≤ 256 → (∃ n, wY_init_171 post (nI (L ++ sl_fy d s).length) n 0 (sl_f (L ++ sl_fy d s)) c m) → wY_init_52 post (d + 1) (nI s) (nI L.length) (sl_f L) c m := by
  intro d
  induction d with
  | zero =>
    intro s L ho hL h
    have e : L ++ sl_fy 0 s = L := List.append_nil L
    rw [e] at h
    exact br_t (show (512 : Int32) ≤ nI s from nI_le (a := 512) (by omega) (by omega)) h
  | succ d ih =>
    intro s L ho hL h
    refine br_f (show ¬ (512 : Int32) ≤ nI s from nI_ge (b := 512) (by omega) (by decide)) ?_
    refine sl_connY _ _ s ?_
    have hn : sl_gy s = none → wY_init_52 post (d + 1) (nI (s + 1)) (nI L.length) (sl_f L) c m := by
      intro z
      have e : sl_fy (d + 1) s = sl_fy d (s + 1) := by
        show (sl_gy s).toList ++ sl_fy d (s + 1) = _
        rw [z]
        rfl
      rw [e] at h hL
      exact ih (s + 1) L (by omega) hL h
    have hs : ∀ p : Nat, sl_gy s = some p → L.length < 256 ∧ wY_init_52 post (d + 1) (nI (s + 1)) (nI (L.length + 1)) (sl_f (L ++ [p])) c m := by
      intro p z
      have e : L ++ sl_fy (d + 1) s = (L ++ [p]) ++ sl_fy d (s + 1) := by
        show L ++ ((sl_gy s).toList ++ sl_fy d (s + 1)) = _
        rw [z, List.append_assoc]
        rfl
      rw [e] at h hL
      have w := ih (s + 1) (L ++ [p]) (by omega) hL h
      rw [List.length_append] at w
      refine ⟨?_, w⟩
      rw [List.length_append, List.length_append] at hL
      have : [p].length = 1 := rfl
      omega
    have key : ∀ o : Bool, sl_ou s = o → wY_init_120 post (wY_init_52 post (d + 1)) (nI s) (nI (sl_q (sl_c2 s 9 (sl_lo s)) s).toNat) (nI o.toNat) (nI L.length) (sl_f L) c m := by
      intro o eo
      refine sl_y120 post _ s _ o L c m (fun z y => ?_) (fun z => hn ?_) (fun z y => ?_)
      · exact (hs _ (by unfold sl_gy; rw [z, eo, y]; rfl)).1
      · unfold sl_gy
        rcases z with z | z
        · rw [z]; rfl
        · rw [eo, z]; cases sl_q (sl_c2 s 9 (sl_lo s)) s <;> rfl
      · exact (hs _ (by unfold sl_gy; rw [z, eo, y]; rfl)).2
    refine sl_in _ _ s 4 _ _ (by decide) (sl_br _ (fun z1 => ?_) (fun z1 => ?_))
    · refine sl_in _ _ s 1 _ _ (by decide) (sl_br _ (fun z2 => ?_) (fun z2 => ?_))
      · exact key true (by unfold sl_ou; rw [z1, z2]; rfl)
      · refine sl_in _ _ s 3 _ _ (by decide) (sl_br _ (fun z3 => ?_) (fun z3 => ?_))
        · exact key true (by unfold sl_ou; rw [z1, z2, z3]; rfl)
        · refine sl_in _ _ s 5 _ _ (by decide) (sl_br _ (fun z4 => ?_) (fun z4 => ?_))
          · exact key true (by unfold sl_ou; rw [z1, z2, z3, z4]; rfl)
          · refine sl_in _ _ s 7 _ _ (by decide) (sl_br _ (fun z5 => ?_) (fun z5 => ?_))
            · exact key true (by unfold sl_ou; rw [z1, z2, z3, z4, z5]; rfl)
            · exact key false (by unfold sl_ou; rw [z1, z2, z3, z4, z5]; rfl)
    · exact key true (by unfold sl_ou; rw [z1]; rfl)
/-! the exchange sort -/
def sl_ps : Nat → List Nat → List Nat → Nat × List Nat
  | x, D, [] => (x, D.reverse)
  | x, D, y :: R => if nI x ≤ nI y then sl_ps x (y :: D) R else sl_ps y (x :: D) R
theorem sl_ps_len : ∀ R x D, (sl_ps x D R).2.length = D.length + R.length := by
  intro R
  induction R with
  | nil => intro x D; exact List.length_reverse
  | cons y R ih =>
    intro x D
    unfold sl_ps
    split
    · rw [ih]; simp; omega
    · rw [ih]; simp; omega
theorem sl_psL (post : SY → Prop) (J : Int32 → (Nat → Int32) → (Nat → Int32) → (Nat → Int32) → Prop) (P : List Nat) (c m : Nat → Int32) (N : Nat) (hN : N ≤ 256) : ∀ R x D, P.length + 1 + D.length + R.length = N → J (nI (P.length + 1)) (sl_f (P ++ (sl_ps x D R).1 :: (sl_ps x D R).2)) c m → wY_init_183 post J (nI P.length) (nI N) (R.length + 1) (nI (P.length + 1 + D.length)) (sl_f (P ++ x :: (D.reverse ++ R))) c m := by
  intro R
  induction R with
  | nil =>
    intro x D hl h
    rw [List.append_nil]
    have hl' : P.length + 1 + D.length = N := hl
    exact br_t (nI_le (by omega) (by omega)) (nm_r (nI_1 _) h)
  | cons y R ih =>
    intro x D hl h
    have hl' : P.length + 1 + D.length + (R.length + 1) = N := hl
    have v1 : vp_in (nI P.length) 256 := vp_in_nI (by omega) (by omega)
    have v2 : vp_in (nI (P.length + 1 + D.length)) 256 := vp_in_nI (by omega) (by omega)
    have c1 : (nI P.length).toNatClampNeg = P.length := nI_clamp (by omega)
    have c2 : (nI (P.length + 1 + D.length)).toNatClampNeg = P.length + 1 + D.length := nI_clamp (by omega)
    have ll : ∀ z, (P ++ z :: D.reverse).length = P.length + 1 + D.length := by intro z; simp; omega
    have el : ∀ z w, P ++ z :: (D.reverse ++ w :: R) = (P ++ z :: D.reverse) ++ w :: R := by intro z w; simp
    have er : ∀ w, (w :: D).reverse ++ R = D.reverse ++ w :: R := by intro w; simp
    have e1 : sl_f (P ++ x :: (D.reverse ++ y :: R)) (nI P.length).toNatClampNeg = nI x := by rw [c1]; exact sl_fa P _ x
    have e2 : sl_f (P ++ x :: (D.reverse ++ y :: R)) (nI (P.length + 1 + D.length)).toNatClampNeg = nI y := by rw [c2, el, ← ll x]; exact sl_fa _ R y
    refine br_f (nI_ge (by omega) (by omega)) ⟨v2, v1, ?_⟩
    by_cases hc : nI x ≤ nI y
    · have ep : sl_ps x D (y :: R) = sl_ps x (y :: D) R := by
        show (if nI x ≤ nI y then _ else _) = _
        rw [if_pos hc]
      rw [ep] at h
      refine br_t (by rw [e1, e2]; exact hc) (nm_r (nI_1 _) ?_)
      have w := ih x (y :: D) (by show P.length + 1 + (D.length + 1) + R.length = N; omega) h
      rw [er] at w
      exact w
    · have ep : sl_ps x D (y :: R) = sl_ps y (x :: D) R := by
        show (if nI x ≤ nI y then _ else _) = _
        rw [if_neg hc]
      rw [ep] at h
      have w := ih y (x :: D) (by show P.length + 1 + (D.length + 1) + R.length = N; omega) h
      rw [er] at w
      refine br_f (by rw [e1, e2]; exact hc) ⟨v1, nm_r e1 ⟨v2, v1, nm_r (e' := sl_f (P ++ y :: (D.reverse ++ y :: R))) ?_ ⟨v2, nm_r (e' := sl_f (P ++ y :: (D.reverse ++ x :: R))) ?_ (nm_r (nI_1 _) w)⟩⟩⟩
      · rw [e2, c1]
        exact sl_fu P _ x y
      · rw [c2, el, ← ll y, el]
        exact sl_fu _ R y x
def sl_so : Nat → List Nat → List Nat
  | 0, R => R
  | _ + 1, [] => []
  | k + 1, x :: R => (sl_ps x [] R).1 :: sl_so k (sl_ps x [] R).2
theorem sl_soL (post : SY → Prop) (c m : Nat → Int32) (N : Nat) (hN : N ≤ 256) : ∀ k R P, R.length = k → P.length + k = N → post (nI N, sl_f (P ++ sl_so k R), c, m) → wY_init_171 post (nI N) (k + 1) (nI P.length) (sl_f (P ++ R)) c m := by
  intro k
  induction k with
  | zero =>
    intro R P hR hP h
    exact br_t (nI_le (by omega) (by omega)) h
  | succ k ih =>
    intro R P hR hP h
    cases R with
    | nil => exact absurd hR (by simp)
    | cons x R =>
      have hR' : R.length = k := by simpa using hR
      refine br_f (nI_ge (by omega) (by omega)) (nm_r (nI_1 _) ⟨R.length + 1, ?_⟩)
      refine sl_psL post _ P c m N hN R x [] (by show P.length + 1 + 0 + R.length = N; omega) ?_
      have h' : post (nI N, sl_f (P ++ (sl_ps x [] R).1 :: sl_so k (sl_ps x [] R).2), c, m) := h
      have hz := sl_ps_len R x []
      generalize sl_ps x [] R = z at h' hz ⊢
      have e : ∀ Q, P ++ z.1 :: Q = (P ++ [z.1]) ++ Q := by intro Q; simp
      rw [e] at h' ⊢
      have w := ih z.2 (P ++ [z.1]) (by rw [hz]; show 0 + R.length = k; omega) (by rw [List.length_append]; show P.length + 1 + k = N; omega) h'
      rw [List.length_append] at w
      exact w
end
section
/-! the lists of both constructors (written by wip/whole/tables.py) -/
def sl_X0 : List (Nat × Nat) := [(12585216, 256), (6292608, 128), (10489216, 384), (3146304, 64), (5244608, 192), (9441216, 448), (13371424, 288), (786720, 32), (11275424, 416), (10227424, 480), (6685712, 144), (10882320, 400), (393360, 16), (5637712, 208), (9834320, 464), (11144240, 432), (6948144, 176), (13240496, 304), (655792, 48), (10096240, 496), (5900144, 240), (3342856, 72), (5441160, 200), (9637768, 456), (196680, 8), (10423976, 488), (5572120, 216), (9768728, 472), (3474072, 88), (6620248, 152), (10816856, 408), (327896, 24), (10030648, 504), (5834552, 248), (16321208, 376), (3736504, 120), (11078776, 440), (6882680, 184), (13175032, 312), (590328, 56)]
theorem sl_X0T : sl_fl 64 0 = sl_X0 := by decide +kernel
def sl_X1 : List (Nat × Nat) := [(13420548, 292), (835844, 36), (11324548, 420), (10276548, 484), (49188, 4), (11193364, 436), (6997268, 180), (13289620, 308), (704916, 52), (10145364, 500), (5949268, 244), (10473100, 492), (10079772, 508), (5883676, 252), (16370332, 380), (3785628, 124), (11127900, 444), (6931804, 188), (13224156, 316), (639452, 60)]
theorem sl_X1T : sl_fl 64 64 = sl_X1 := by decide +kernel
def sl_X2 : List (Nat × Nat) := [(6710274, 146), (10906882, 402), (417922, 18), (5662274, 210), (9858882, 466), (11168802, 434), (6972706, 178), (13265058, 306), (680354, 50), (10120802, 498), (5924706, 242), (24594, 2), (5596682, 218), (9793290, 474), (3498634, 90), (6644810, 154), (10841418, 410), (352458, 26), (10055210, 506), (5859114, 250), (16345770, 378), (3761066, 122), (11103338, 442), (6907242, 186), (13199594, 314), (614890, 58)]
theorem sl_X2T : sl_fl 64 128 = sl_X2 := by decide +kernel
def sl_X3 : List (Nat × Nat) := [(11185158, 438), (6989062, 182), (13281414, 310), (696710, 54), (10137158, 502), (5941062, 246), (6726694, 150), (10923302, 406), (434342, 22), (5678694, 214), (9875302, 470), (13412374, 294), (827670, 38), (11316374, 422), (10268374, 486), (41014, 6), (10071566, 510), (5875470, 254), (16362126, 382), (3777422, 126), (11119694, 446), (6923598, 190), (13215950, 318), (631246, 62), (5613102, 222), (9809710, 478), (3515054, 94), (6661230, 158), (10857838, 414), (368878, 30)]
theorem sl_X3T : sl_fl 64 192 = sl_X3 := by decide +kernel
def sl_X4 : List (Nat × Nat) := [(3355137, 73), (5453441, 201), (9650049, 457), (208961, 9), (10436257, 489), (5584401, 217), (9781009, 473), (3486353, 89), (6632529, 153), (10829137, 409), (340177, 25), (10042929, 505), (5846833, 249), (16333489, 377), (3748785, 121), (11091057, 441), (6894961, 185), (13187313, 313), (602609, 57), (12297, 1)]
theorem sl_X4T : sl_fl 64 256 = sl_X4 := by decide +kernel
def sl_X5 : List (Nat × Nat) := [(10485381, 493), (10092053, 509), (5895957, 253), (16382613, 381), (3797909, 125), (11140181, 445), (6944085, 189), (13236437, 317), (651733, 61)]
theorem sl_X5T : sl_fl 64 320 = sl_X5 := by decide +kernel
def sl_X6 : List (Nat × Nat) := [(5592579, 219), (9789187, 475), (3494531, 91), (6640707, 155), (10837315, 411), (348355, 27), (10051107, 507), (5855011, 251), (16341667, 379), (3756963, 123), (11099235, 443), (6903139, 187), (13195491, 315), (610787, 59), (3363347, 75), (5461651, 203), (9658259, 459), (217171, 11), (6706187, 147), (10902795, 403), (413835, 19), (5658187, 211), (9854795, 467), (11164715, 435), (6968619, 179), (13260971, 307), (676267, 51), (10116715, 499), (5920619, 243), (20507, 3)]
theorem sl_X6T : sl_fl 64 384 = sl_X6 := by decide +kernel
def sl_X7 : List (Nat × Nat) := [(10067463, 511), (5871367, 255), (16358023, 383), (3773319, 127), (11115591, 447), (6919495, 191), (13211847, 319), (627143, 63), (5608999, 223), (9805607, 479), (3510951, 95), (6657127, 159), (10853735, 415), (364775, 31), (16751127, 367), (4166423, 111), (13604951, 303), (1020247, 47), (3379767, 79), (5478071, 207), (9674679, 463), (233591, 15), (11181071, 439), (6984975, 183), (13277327, 311), (692623, 55), (10133071, 503), (5936975, 247), (6722607, 151), (10919215, 407), (430255, 23), (5674607, 215), (9871215, 471), (13408287, 295), (823583, 39), (11312287, 423), (10264287, 487), (36927, 7)]
theorem sl_X7T : sl_fl 64 448 = sl_X7 := by decide +kernel
def sl_Y0 : List Nat := [9440256, 4720128, 14158336, 2360064, 7079168, 16517376, 1179840, 8522944, 13241024, 15600064, 589920, 4261472, 13699680, 6620512, 16058720, 1769632, 9112736, 5441184, 12782240, 7800224, 15141280, 294960, 2130736, 6849840, 16288048, 15370736, 884816, 4556368, 13994576, 2720592, 6391120, 15829328, 2064528, 9407632, 5736080, 13077136, 3900304, 11243408, 7570832, 14911888]
theorem sl_Y0T : sl_fy 63 1 = sl_Y0 := by decide +kernel
def sl_Y1 : List Nat := [147468, 1065164, 8408268, 13126348, 15485388, 1654956, 8998060, 5326508, 12667564, 7685548, 15026604, 15256060, 1949852, 9292956, 5621404, 12962460, 3785628, 11128732, 7456156, 14797212]
theorem sl_Y1T : sl_fy 64 64 = sl_Y1 := by decide +kernel
def sl_Y2 : List Nat := [73734, 532582, 4204134, 13642342, 6563174, 16001382, 1712294, 9055398, 5383846, 12724902, 7742886, 15083942, 827478, 4499030, 13937238, 2663254, 6333782, 15771990, 2007190, 9350294, 5678742, 13019798, 3842966, 11186070, 7513494, 14854550]
theorem sl_Y2T : sl_fy 64 128 = sl_Y2 := by decide +kernel
def sl_Y3 : List Nat := [221194, 1138890, 8481994, 13200074, 15559114, 680042, 4351594, 13789802, 6710634, 16148842, 1597610, 8940714, 5269162, 12610218, 7628202, 14969258, 974938, 4646490, 14084698, 2810714, 6481242, 15919450, 1892506, 9235610, 5564058, 12905114, 3728282, 11071386, 7398810, 14739866]
theorem sl_Y3T : sl_fy 64 192 = sl_Y3 := by decide +kernel
def sl_Y4 : List Nat := [36867, 266291, 2102067, 6821171, 16259379, 15342067, 856147, 4527699, 13965907, 2691923, 6362451, 15800659, 2035859, 9378963, 5707411, 13048467, 3871635, 11214739, 7542163, 14883219]
theorem sl_Y4T : sl_fy 64 256 = sl_Y4 := by decide +kernel
def sl_Y5 : List Nat := [15227391, 1921183, 9264287, 5592735, 12933791, 3756959, 11100063, 7427487, 14768543]
theorem sl_Y5T : sl_fy 64 320 = sl_Y5 := by decide +kernel
def sl_Y6 : List Nat := [110597, 569445, 4240997, 13679205, 6600037, 16038245, 1749157, 9092261, 5420709, 12761765, 7779749, 15120805, 340021, 2175797, 6894901, 16333109, 798805, 4470357, 13908565, 2634581, 6305109, 15743317, 1978517, 9321621, 5650069, 12991125, 3814293, 11157397, 7484821, 14825877]
theorem sl_Y6T : sl_fy 64 384 = sl_Y6 := by decide +kernel
def sl_Y7 : List Nat := [258057, 1175753, 8518857, 13236937, 15595977, 716905, 4388457, 13826665, 6747497, 16185705, 1634473, 8977577, 5306025, 12647081, 7665065, 15006121, 487481, 2323257, 7042361, 16480569, 1405177, 8748281, 3240953, 10584057, 946265, 4617817, 14056025, 2782041, 6452569, 15890777, 1863833, 9206937, 5535385, 12876441, 3699609, 11042713, 7370137, 14711193]
theorem sl_Y7T : sl_fy 64 448 = sl_Y7 := by decide +kernel
def sl_TE : List Nat := [12585216, 6292608, 10489216, 3146304, 5244608, 9441216, 13371424, 786720, 11275424, 10227424, 6685712, 10882320, 393360, 5637712, 9834320, 11144240, 6948144, 13240496, 655792, 10096240, 5900144, 3342856, 5441160, 9637768, 196680, 10423976, 5572120, 9768728, 3474072, 6620248, 10816856, 327896, 10030648, 5834552, 16321208, 3736504, 11078776, 6882680, 13175032, 590328, 13420548, 835844, 11324548, 10276548, 49188, 11193364, 6997268, 13289620, 704916, 10145364, 5949268, 10473100, 10079772, 5883676, 16370332, 3785628, 11127900, 6931804, 13224156, 639452, 6710274, 10906882, 417922, 5662274, 9858882, 11168802, 6972706, 13265058, 680354, 10120802, 5924706, 24594, 5596682, 9793290, 3498634, 6644810, 10841418, 352458, 10055210, 5859114, 16345770, 3761066, 11103338, 6907242, 13199594, 614890, 11185158, 6989062, 13281414, 696710, 10137158, 5941062, 6726694, 10923302, 434342, 5678694, 9875302, 13412374, 827670, 11316374, 10268374, 41014, 10071566, 5875470, 16362126, 3777422, 11119694, 6923598, 13215950, 631246, 5613102, 9809710, 3515054, 6661230, 10857838, 368878, 3355137, 5453441, 9650049, 208961, 10436257, 5584401, 9781009, 3486353, 6632529, 10829137, 340177, 10042929, 5846833, 16333489, 3748785, 11091057, 6894961, 13187313, 602609, 12297, 10485381, 10092053, 5895957, 16382613, 3797909, 11140181, 6944085, 13236437, 651733, 5592579, 9789187, 3494531, 6640707, 10837315, 348355, 10051107, 5855011, 16341667, 3756963, 11099235, 6903139, 13195491, 610787, 3363347, 5461651, 9658259, 217171, 6706187, 10902795, 413835, 5658187, 9854795, 11164715, 6968619, 13260971, 676267, 10116715, 5920619, 20507, 10067463, 5871367, 16358023, 3773319, 11115591, 6919495, 13211847, 627143, 5608999, 9805607, 3510951, 6657127, 10853735, 364775, 16751127, 4166423, 13604951, 1020247, 3379767, 5478071, 9674679, 233591, 11181071, 6984975, 13277327, 692623, 10133071, 5936975, 6722607, 10919215, 430255, 5674607, 9871215, 13408287, 823583, 11312287, 10264287, 36927]
def sl_TC : List Nat := [256, 128, 384, 64, 192, 448, 288, 32, 416, 480, 144, 400, 16, 208, 464, 432, 176, 304, 48, 496, 240, 72, 200, 456, 8, 488, 216, 472, 88, 152, 408, 24, 504, 248, 376, 120, 440, 184, 312, 56, 292, 36, 420, 484, 4, 436, 180, 308, 52, 500, 244, 492, 508, 252, 380, 124, 444, 188, 316, 60, 146, 402, 18, 210, 466, 434, 178, 306, 50, 498, 242, 2, 218, 474, 90, 154, 410, 26, 506, 250, 378, 122, 442, 186, 314, 58, 438, 182, 310, 54, 502, 246, 150, 406, 22, 214, 470, 294, 38, 422, 486, 6, 510, 254, 382, 126, 446, 190, 318, 62, 222, 478, 94, 158, 414, 30, 73, 201, 457, 9, 489, 217, 473, 89, 153, 409, 25, 505, 249, 377, 121, 441, 185, 313, 57, 1, 493, 509, 253, 381, 125, 445, 189, 317, 61, 219, 475, 91, 155, 411, 27, 507, 251, 379, 123, 443, 187, 315, 59, 75, 203, 459, 11, 147, 403, 19, 211, 467, 435, 179, 307, 51, 499, 243, 3, 511, 255, 383, 127, 447, 191, 319, 63, 223, 479, 95, 159, 415, 31, 367, 111, 303, 47, 79, 207, 463, 15, 439, 183, 311, 55, 503, 247, 151, 407, 23, 215, 471, 295, 39, 423, 487, 7]
def sl_YU : List Nat := [9440256, 4720128, 14158336, 2360064, 7079168, 16517376, 1179840, 8522944, 13241024, 15600064, 589920, 4261472, 13699680, 6620512, 16058720, 1769632, 9112736, 5441184, 12782240, 7800224, 15141280, 294960, 2130736, 6849840, 16288048, 15370736, 884816, 4556368, 13994576, 2720592, 6391120, 15829328, 2064528, 9407632, 5736080, 13077136, 3900304, 11243408, 7570832, 14911888, 147468, 1065164, 8408268, 13126348, 15485388, 1654956, 8998060, 5326508, 12667564, 7685548, 15026604, 15256060, 1949852, 9292956, 5621404, 12962460, 3785628, 11128732, 7456156, 14797212, 73734, 532582, 4204134, 13642342, 6563174, 16001382, 1712294, 9055398, 5383846, 12724902, 7742886, 15083942, 827478, 4499030, 13937238, 2663254, 6333782, 15771990, 2007190, 9350294, 5678742, 13019798, 3842966, 11186070, 7513494, 14854550, 221194, 1138890, 8481994, 13200074, 15559114, 680042, 4351594, 13789802, 6710634, 16148842, 1597610, 8940714, 5269162, 12610218, 7628202, 14969258, 974938, 4646490, 14084698, 2810714, 6481242, 15919450, 1892506, 9235610, 5564058, 12905114, 3728282, 11071386, 7398810, 14739866, 36867, 266291, 2102067, 6821171, 16259379, 15342067, 856147, 4527699, 13965907, 2691923, 6362451, 15800659, 2035859, 9378963, 5707411, 13048467, 3871635, 11214739, 7542163, 14883219, 15227391, 1921183, 9264287, 5592735, 12933791, 3756959, 11100063, 7427487, 14768543, 110597, 569445, 4240997, 13679205, 6600037, 16038245, 1749157, 9092261, 5420709, 12761765, 7779749, 15120805, 340021, 2175797, 6894901, 16333109, 798805, 4470357, 13908565, 2634581, 6305109, 15743317, 1978517, 9321621, 5650069, 12991125, 3814293, 11157397, 7484821, 14825877, 258057, 1175753, 8518857, 13236937, 15595977, 716905, 4388457, 13826665, 6747497, 16185705, 1634473, 8977577, 5306025, 12647081, 7665065, 15006121, 487481, 2323257, 7042361, 16480569, 1405177, 8748281, 3240953, 10584057, 946265, 4617817, 14056025, 2782041, 6452569, 15890777, 1863833, 9206937, 5535385, 12876441, 3699609, 11042713, 7370137, 14711193]
def sl_TL : List Nat := [36867, 73734, 110597, 147468, 221194, 258057, 266291, 294960, 340021, 487481, 532582, 569445, 589920, 680042, 716905, 798805, 827478, 856147, 884816, 946265, 974938, 1065164, 1138890, 1175753, 1179840, 1405177, 1597610, 1634473, 1654956, 1712294, 1749157, 1769632, 1863833, 1892506, 1921183, 1949852, 1978517, 2007190, 2035859, 2064528, 2102067, 2130736, 2175797, 2323257, 2360064, 2634581, 2663254, 2691923, 2720592, 2782041, 2810714, 3240953, 3699609, 3728282, 3756959, 3785628, 3814293, 3842966, 3871635, 3900304, 4204134, 4240997, 4261472, 4351594, 4388457, 4470357, 4499030, 4527699, 4556368, 4617817, 4646490, 4720128, 5269162, 5306025, 5326508, 5383846, 5420709, 5441184, 5535385, 5564058, 5592735, 5621404, 5650069, 5678742, 5707411, 5736080, 6305109, 6333782, 6362451, 6391120, 6452569, 6481242, 6563174, 6600037, 6620512, 6710634, 6747497, 6821171, 6849840, 6894901, 7042361, 7079168, 7370137, 7398810, 7427487, 7456156, 7484821, 7513494, 7542163, 7570832, 7628202, 7665065, 7685548, 7742886, 7779749, 7800224, 8408268, 8481994, 8518857, 8522944, 8748281, 8940714, 8977577, 8998060, 9055398, 9092261, 9112736, 9206937, 9235610, 9264287, 9292956, 9321621, 9350294, 9378963, 9407632, 9440256, 10584057, 11042713, 11071386, 11100063, 11128732, 11157397, 11186070, 11214739, 11243408, 12610218, 12647081, 12667564, 12724902, 12761765, 12782240, 12876441, 12905114, 12933791, 12962460, 12991125, 13019798, 13048467, 13077136, 13126348, 13200074, 13236937, 13241024, 13642342, 13679205, 13699680, 13789802, 13826665, 13908565, 13937238, 13965907, 13994576, 14056025, 14084698, 14158336, 14711193, 14739866, 14768543, 14797212, 14825877, 14854550, 14883219, 14911888, 14969258, 15006121, 15026604, 15083942, 15120805, 15141280, 15227391, 15256060, 15342067, 15370736, 15485388, 15559114, 15595977, 15600064, 15743317, 15771990, 15800659, 15829328, 15890777, 15919450, 16001382, 16038245, 16058720, 16148842, 16185705, 16259379, 16288048, 16333109, 16480569, 16517376]
theorem sl_XE : (sl_X0 ++ (sl_X1 ++ (sl_X2 ++ (sl_X3 ++ (sl_X4 ++ (sl_X5 ++ (sl_X6 ++ (sl_X7)))))))).map Prod.fst = sl_TE := by decide +kernel
theorem sl_XC : (sl_X0 ++ (sl_X1 ++ (sl_X2 ++ (sl_X3 ++ (sl_X4 ++ (sl_X5 ++ (sl_X6 ++ (sl_X7)))))))).map Prod.snd = sl_TC := by decide +kernel
theorem sl_XA7 : sl_fl 64 448 = sl_X7 := sl_X7T
theorem sl_XA6 : sl_fl 128 384 = sl_X6 ++ (sl_X7) := by
  have e : sl_fl 128 384 = sl_fl 64 384 ++ sl_fl 64 448 := sl_fl_add 64 64 384
  rw [e, sl_X6T, sl_XA7]
theorem sl_XA5 : sl_fl 192 320 = sl_X5 ++ (sl_X6 ++ (sl_X7)) := by
  have e : sl_fl 192 320 = sl_fl 64 320 ++ sl_fl 128 384 := sl_fl_add 64 128 320
  rw [e, sl_X5T, sl_XA6]
theorem sl_XA4 : sl_fl 256 256 = sl_X4 ++ (sl_X5 ++ (sl_X6 ++ (sl_X7))) := by
  have e : sl_fl 256 256 = sl_fl 64 256 ++ sl_fl 192 320 := sl_fl_add 64 192 256
  rw [e, sl_X4T, sl_XA5]
theorem sl_XA3 : sl_fl 320 192 = sl_X3 ++ (sl_X4 ++ (sl_X5 ++ (sl_X6 ++ (sl_X7)))) := by
  have e : sl_fl 320 192 = sl_fl 64 192 ++ sl_fl 256 256 := sl_fl_add 64 256 192
  rw [e, sl_X3T, sl_XA4]
theorem sl_XA2 : sl_fl 384 128 = sl_X2 ++ (sl_X3 ++ (sl_X4 ++ (sl_X5 ++ (sl_X6 ++ (sl_X7))))) := by
  have e : sl_fl 384 128 = sl_fl 64 128 ++ sl_fl 320 192 := sl_fl_add 64 320 128
  rw [e, sl_X2T, sl_XA3]
theorem sl_XA1 : sl_fl 448 64 = sl_X1 ++ (sl_X2 ++ (sl_X3 ++ (sl_X4 ++ (sl_X5 ++ (sl_X6 ++ (sl_X7)))))) := by
  have e : sl_fl 448 64 = sl_fl 64 64 ++ sl_fl 384 128 := sl_fl_add 64 384 64
  rw [e, sl_X1T, sl_XA2]
theorem sl_XA0 : sl_fl 512 0 = sl_X0 ++ (sl_X1 ++ (sl_X2 ++ (sl_X3 ++ (sl_X4 ++ (sl_X5 ++ (sl_X6 ++ (sl_X7))))))) := by
  have e : sl_fl 512 0 = sl_fl 64 0 ++ sl_fl 448 64 := sl_fl_add 64 448 0
  rw [e, sl_X0T, sl_XA1]
theorem sl_YA7 : sl_fy 64 448 = sl_Y7 := sl_Y7T
theorem sl_YA6 : sl_fy 128 384 = sl_Y6 ++ (sl_Y7) := by
  have e : sl_fy 128 384 = sl_fy 64 384 ++ sl_fy 64 448 := sl_fy_add 64 64 384
  rw [e, sl_Y6T, sl_YA7]
theorem sl_YA5 : sl_fy 192 320 = sl_Y5 ++ (sl_Y6 ++ (sl_Y7)) := by
  have e : sl_fy 192 320 = sl_fy 64 320 ++ sl_fy 128 384 := sl_fy_add 64 128 320
  rw [e, sl_Y5T, sl_YA6]
theorem sl_YA4 : sl_fy 256 256 = sl_Y4 ++ (sl_Y5 ++ (sl_Y6 ++ (sl_Y7))) := by
  have e : sl_fy 256 256 = sl_fy 64 256 ++ sl_fy 192 320 := sl_fy_add 64 192 256
  rw [e, sl_Y4T, sl_YA5]
theorem sl_YA3 : sl_fy 320 192 = sl_Y3 ++ (sl_Y4 ++ (sl_Y5 ++ (sl_Y6 ++ (sl_Y7)))) := by
  have e : sl_fy 320 192 = sl_fy 64 192 ++ sl_fy 256 256 := sl_fy_add 64 256 192
  rw [e, sl_Y3T, sl_YA4]
theorem sl_YA2 : sl_fy 384 128 = sl_Y2 ++ (sl_Y3 ++ (sl_Y4 ++ (sl_Y5 ++ (sl_Y6 ++ (sl_Y7))))) := by
  have e : sl_fy 384 128 = sl_fy 64 128 ++ sl_fy 320 192 := sl_fy_add 64 320 128
  rw [e, sl_Y2T, sl_YA3]
theorem sl_YA1 : sl_fy 448 64 = sl_Y1 ++ (sl_Y2 ++ (sl_Y3 ++ (sl_Y4 ++ (sl_Y5 ++ (sl_Y6 ++ (sl_Y7)))))) := by
  have e : sl_fy 448 64 = sl_fy 64 64 ++ sl_fy 384 128 := sl_fy_add 64 384 64
  rw [e, sl_Y1T, sl_YA2]
theorem sl_YA0 : sl_fy 511 1 = sl_Y0 ++ (sl_Y1 ++ (sl_Y2 ++ (sl_Y3 ++ (sl_Y4 ++ (sl_Y5 ++ (sl_Y6 ++ (sl_Y7))))))) := by
  have e : sl_fy 511 1 = sl_fy 63 1 ++ sl_fy 448 64 := sl_fy_add 63 448 1
  rw [e, sl_Y0T, sl_YA1]
theorem sl_YE : sl_Y0 ++ (sl_Y1 ++ (sl_Y2 ++ (sl_Y3 ++ (sl_Y4 ++ (sl_Y5 ++ (sl_Y6 ++ (sl_Y7))))))) = sl_YU := by decide +kernel
theorem sl_YS : sl_so 213 sl_YU = sl_TL := by decide +kernel
end
section
/-! the tables side by side; what a solution is, on both sides -/
def sl_E (i : Nat) : Nat := sl_TE.getD i 0
def sl_C (i : Nat) : Nat := sl_TC.getD i 0
def sl_L (i : Nat) : Nat := sl_TL.getD i 0
/-- edges around a cell: the component's count, the reference's -/
def sl_kx (s i : Nat) : Nat := sl_cnt (sl_t (s &&& sl_eo i)) 24 0 0
def sl_ky (s i : Nat) : Nat := (sl_t s (23 - i)).toNat + (sl_t s (23 - (i + 3))).toNat + (sl_t s (23 - (12 + i / 3 * 4 + i % 3))).toNat + (sl_t s (23 - (13 + i / 3 * 4 + i % 3))).toNat
/-- the reference's crossings of a row -/
def sl_cr (s r : Nat) : Nat → Nat → Bool → Bool
  | 0, _, b => b
  | d + 1, k, b => sl_cr s r d (k + 1) (b ^^ sl_t s (23 - (12 + r * 4 + k)))
def sl_ins (s : Nat) : Nat → Nat → Nat → Nat
  | 0, _, a => a
  | d + 1, i, a => sl_ins s d (i + 1) (a + (sl_cr s (i / 3) (i % 3 + 1) 0 false).toNat)
def sl_ok (e l c : Nat) : Bool := (List.range 24).all (fun i => sl_t e i == sl_t l (23 - i)) && ((List.range 9).all (fun i => Nat.beq (sl_kx e i) (sl_ky l i)) && (Nat.beq (sl_cnt (sl_t c) 24 0 0) (sl_ins l 9 0 0) && (List.range 24).any (fun i => sl_t e i)))
theorem sl_okT : (List.range 213).all (fun i => sl_ok (sl_E i) (sl_L i) (sl_C i)) = true := by decide +kernel
theorem sl_ok1 (i : Nat) (hi : i < 213) : (∀ e, e < 24 → sl_t (sl_E i) e = sl_t (sl_L i) (23 - e)) ∧ (∀ k, k < 9 → sl_kx (sl_E i) k = sl_ky (sl_L i) k) ∧ sl_cnt (sl_t (sl_C i)) 24 0 0 = sl_ins (sl_L i) 9 0 0 ∧ ∃ e, e < 24 ∧ sl_t (sl_E i) e = true := by
  have h := List.all_eq_true.mp sl_okT i (List.mem_range.mpr hi)
  unfold sl_ok at h
  rw [Bool.and_eq_true, Bool.and_eq_true, Bool.and_eq_true] at h
  obtain ⟨h1, h2, h3, h4⟩ := h
  refine ⟨fun e he => ?_, fun k hk => ?_, Nat.eq_of_beq_eq_true h3, ?_⟩
  · exact eq_of_beq (List.all_eq_true.mp h1 e (List.mem_range.mpr he))
  · exact Nat.eq_of_beq_eq_true (List.all_eq_true.mp h2 k (List.mem_range.mpr hk))
  · obtain ⟨e, he, ht⟩ := List.any_eq_true.mp h4
    exact ⟨e, List.mem_range.mp he, ht⟩
theorem sl_szL (post : Int32 → Prop) (s : Nat) : ∀ d i a, i + d = 24 → post (nI (sl_cnt (sl_t s) d i a)) → wX_sizeOf_4 post (nI s) (d + 1) (nI a) (nI i) := by
  intro d
  induction d with
  | zero =>
    intro i a hi h
    exact br_t (show (24 : Int32) ≤ nI i from nI_le (a := 24) (by omega) (by omega)) h
  | succ d ih =>
    intro i a hi h
    refine br_f (show ¬ (24 : Int32) ≤ nI i from nI_ge (b := 24) (by omega) (by decide)) ?_
    refine nm_r (e' := nI (a + (sl_t s i).toNat)) (by rw [sl_bit s (by omega), nI_add]) ?_
    exact nm_r (nI_1 i) (ih (i + 1) _ (by omega) h)
theorem sl_sizeOf (post : Int32 → Prop) (s : Nat) (h : post (nI (sl_cnt (sl_t s) 24 0 0))) : wpX_sizeOf post (nI s) := ⟨25, sl_szL post s 24 0 0 rfl h⟩
theorem sl_hasY (post : Int32 → Prop) (v : SY) (s e : Nat) (he : e < 24) (h : post (nI (sl_t s (23 - e)).toNat)) : wpY_has post v (nI s) (nI e) := by
  obtain ⟨f, a1, a2, a3⟩ := v
  unfold wpY_has
  dsimp only
  rw [show (23 : Int32) - nI e = nI (23 - e) from pk_sub (a := 23) (by omega), sl_bit s (by omega)]
  revert h
  cases sl_t s (23 - e)
  · exact fun h => br_f (by decide) h
  · exact fun h => br_t rfl h
theorem sl_edL (post : Int32 → Prop) (s : Nat) (f : Int32) (a1 a2 a3 : Nat → Int32) : ∀ d i a, i + d = 24 → post (nI (sl_cnt (fun e => sl_t s (23 - e)) d i a)) → wY_edges_4 post (nI s) f a1 a2 a3 (d + 1) (nI a) (nI i) := by
  intro d
  induction d with
  | zero =>
    intro i a hi h
    exact br_t (show (24 : Int32) ≤ nI i from nI_le (a := 24) (by omega) (by omega)) h
  | succ d ih =>
    intro i a hi h
    refine br_f (show ¬ (24 : Int32) ≤ nI i from nI_ge (b := 24) (by omega) (by decide)) ?_
    have ih' := ih (i + 1) _ (by omega) h
    dsimp only at ih'
    refine sl_hasY _ _ s i (by omega) (sl_br _ (fun z => ?_) (fun z => ?_))
    · rw [z] at ih'
      exact nm_r (nI_1 i) ih'
    · rw [z] at ih'
      exact nm_r (nI_1 a) (nm_r (nI_1 i) ih')
theorem sl_edges (post : Int32 → Prop) (v : SY) (s : Nat) (h : post (nI (sl_cnt (fun e => sl_t s (23 - e)) 24 0 0))) : wpY_edges post v (nI s) := by
  obtain ⟨f, a1, a2, a3⟩ := v
  exact ⟨25, sl_edL post s f a1 a2 a3 24 0 0 rfl h⟩
/-! marks -/
def sl_mk (m : Nat → Int32) (b : Nat → Bool) : Nat → Nat → Bool
  | 0, _ => true
  | d + 1, i => bif b i then (bif decide (m i = 2) then false else sl_mk m b d (i + 1)) else (bif decide (m i = 1) then false else sl_mk m b d (i + 1))
theorem sl_mk_congr (m : Nat → Int32) {p q : Nat → Bool} : ∀ d i, (∀ j, i ≤ j → j < i + d → p j = q j) → sl_mk m p d i = sl_mk m q d i := by
  intro d
  induction d with
  | zero => intro i h; rfl
  | succ d ih =>
    intro i h
    unfold sl_mk
    rw [h i (Nat.le_refl _) (by omega), ih (i + 1) (fun j h1 h2 => h j (by omega) (by omega))]
theorem sl_mkX (post : Int32 → Prop) (s : Nat) (f : Int32) (c m a3 a4 : Nat → Int32) : ∀ d i, i + d = 24 → post (nI (sl_mk m (sl_t s) d i).toNat) → wX_marksHold_2 post (nI s) f c m a3 a4 (d + 1) (nI i) := by
  intro d
  induction d with
  | zero =>
    intro i hi h
    exact br_t (show (24 : Int32) ≤ nI i from nI_le (a := 24) (by omega) (by omega)) h
  | succ d ih =>
    intro i hi h
    refine br_f (show ¬ (24 : Int32) ≤ nI i from nI_ge (b := 24) (by omega) (by decide)) ?_
    have hv : vp_in (nI i) 24 := vp_in_nI (by omega) (by decide)
    have hc : (nI i).toNatClampNeg = i := nI_clamp (by omega)
    unfold sl_mk at h
    refine sl_has s (by omega) (sl_br _ (fun z => ?_) (fun z => ?_))
    · rw [z, cond_false] at h
      refine ⟨hv, br_c (fun q => ?_) (fun q => nm_r (nI_1 i) (ih (i + 1) (by omega) ?_))⟩
      · rw [hc] at q
        rw [decide_eq_true q] at h
        exact h
      · rw [hc] at q
        rw [decide_eq_false q] at h
        exact h
    · rw [z, cond_true] at h
      refine ⟨hv, br_c (fun q => ?_) (fun q => nm_r (nI_1 i) (ih (i + 1) (by omega) ?_))⟩
      · rw [hc] at q
        rw [decide_eq_true q] at h
        exact h
      · rw [hc] at q
        rw [decide_eq_false q] at h
        exact h
theorem sl_marksHold (post : Int32 → Prop) (s : Nat) (f : Int32) (c m a3 a4 : Nat → Int32) (h : post (nI (sl_mk m (sl_t s) 24 0).toNat)) : wpX_marksHold post (f, c, m, a3, a4) (nI s) := ⟨25, sl_mkX post s f c m a3 a4 24 0 rfl h⟩
theorem sl_y29 (post : Int32 → Prop) (J : Int32 → Prop) (x1 : Int32) (i : Nat) (hi : i < 24) (b : Bool) (f : Int32) (a1 c m : Nat → Int32) (h1 : m i = 2 → b = true → post 0) (h2 : ¬ (m i = 2 ∧ b = true) → J (nI (i + 1))) : wY_holds_29 post J x1 (nI i) (nI b.toNat) f a1 c m := by
  have hc : (nI i).toNatClampNeg = i := nI_clamp (by omega)
  refine ⟨vp_in_nI hi (by decide), br_c (fun q => sl_br b (fun z => ?_) (fun z => ?_)) (fun q => ?_)⟩
  · exact nm_r (nI_1 i) (h2 (fun w => by rw [z] at w; exact absurd w.2 (by decide)))
  · rw [hc] at q
    exact h1 q z
  · rw [hc] at q
    exact nm_r (nI_1 i) (h2 (fun w => q w.1))
theorem sl_mkY (post : Int32 → Prop) (s : Nat) (f : Int32) (a1 c m : Nat → Int32) (k : Bool) (hk : post (nI k.toNat) → ∃ n, wY_holds_53 post (nI s) f a1 c m n 0) : ∀ d i, i + d = 24 → post (nI (sl_mk m (fun e => sl_t s (23 - e)) d i && k).toNat) → wY_holds_2 post (nI s) f a1 c m (d + 1) (nI i) := by
  intro d
  induction d with
  | zero =>
    intro i hi h
    have h' : post (nI (true && k).toNat) := h
    rw [Bool.true_and] at h'
    exact br_t (show (24 : Int32) ≤ nI i from nI_le (a := 24) (by omega) (by omega)) (hk h')
  | succ d ih =>
    intro i hi h
    refine br_f (show ¬ (24 : Int32) ≤ nI i from nI_ge (b := 24) (by omega) (by decide)) ?_
    have hv : vp_in (nI i) 24 := vp_in_nI (by omega) (by decide)
    have hc : (nI i).toNatClampNeg = i := nI_clamp (by omega)
    unfold sl_mk at h
    refine sl_hasY _ _ s i (by omega) ⟨hv, ?_⟩
    rw [hc]
    cases z : sl_t s (23 - i)
    · rw [z, cond_false] at h
      refine br_c (fun q => ?_) (fun q => ?_)
      · rw [decide_eq_true q] at h
        exact br_t rfl h
      · rw [decide_eq_false q] at h
        exact sl_y29 post _ _ i (by omega) false f a1 c m (fun _ w => absurd w (by decide)) (fun _ => ih (i + 1) (by omega) h)
    · rw [z, cond_true] at h
      have g : wY_holds_29 post (wY_holds_2 post (nI s) f a1 c m (d + 1)) (nI s) (nI i) (nI (true).toNat) f a1 c m := by
        refine sl_y29 post _ _ i (by omega) true f a1 c m (fun q _ => ?_) (fun w => ih (i + 1) (by omega) ?_)
        · rw [decide_eq_true q] at h
          exact h
        · rw [decide_eq_false (fun q => w ⟨q, rfl⟩)] at h
          exact h
      exact br_c (fun q => br_f (by decide) g) (fun q => g)
/-! clues -/
def sl_ck (c : Nat → Int32) (k : Nat → Nat) : Nat → Nat → Bool
  | 0, _ => true
  | d + 1, i => bif decide (c i = 5) then sl_ck c k d (i + 1) else (bif decide (c i = nI (k i)) then sl_ck c k d (i + 1) else false)
theorem sl_ck_congr (c : Nat → Int32) {p q : Nat → Nat} : ∀ d i, (∀ j, i ≤ j → j < i + d → p j = q j) → sl_ck c p d i = sl_ck c q d i := by
  intro d
  induction d with
  | zero => intro i h; rfl
  | succ d ih =>
    intro i h
    unfold sl_ck
    rw [h i (Nat.le_refl _) (by omega), ih (i + 1) (fun j h1 h2 => h j (by omega) (by omega))]
theorem sl_ckX (post : Int32 → Prop) (s : Nat) (f : Int32) (c m a3 a4 : Nat → Int32) : ∀ d i, i + d = 9 → post (nI (sl_ck c (sl_kx s) d i).toNat) → wX_cluesHold_2 post (nI s) f c m a3 a4 (d + 1) (nI i) := by
  intro d
  induction d with
  | zero =>
    intro i hi h
    exact br_t (show (9 : Int32) ≤ nI i from nI_le (a := 9) (by omega) (by omega)) h
  | succ d ih =>
    intro i hi h
    refine br_f (show ¬ (9 : Int32) ≤ nI i from nI_ge (b := 9) (by omega) (by decide)) ?_
    have hv : vp_in (nI i) 9 := vp_in_nI (by omega) (by decide)
    have hc : (nI i).toNatClampNeg = i := nI_clamp (by omega)
    unfold sl_ck at h
    refine ⟨hv, br_c (fun q => nm_r (nI_1 i) (ih (i + 1) (by omega) ?_)) (fun q => ?_)⟩
    · rw [hc] at q
      rw [decide_eq_true q] at h
      exact h
    · rw [hc] at q
      rw [decide_eq_false q, cond_false] at h
      refine sl_edgesOf _ i (by omega) (nm_r (sl_and s (sl_eo i)) (sl_sizeOf _ _ ⟨hv, ?_⟩))
      rw [hc]
      refine br_c (fun w => nm_r (nI_1 i) (ih (i + 1) (by omega) ?_)) (fun w => ?_)
      · rw [decide_eq_true (show c i = nI (sl_kx s i) from w.symm)] at h
        exact h
      · rw [decide_eq_false (show ¬ c i = nI (sl_kx s i) from fun y => w y.symm)] at h
        exact h
theorem sl_cluesHold (post : Int32 → Prop) (s : Nat) (f : Int32) (c m a3 a4 : Nat → Int32) (h : post (nI (sl_ck c (sl_kx s) 9 0).toNat)) : wpX_cluesHold post (f, c, m, a3, a4) (nI s) := ⟨10, sl_ckX post s f c m a3 a4 9 0 rfl h⟩
theorem sl_kT : ∀ i, i < 9 → (12 + (nI i / 3) * 4) + (nI i - nI i / 3 * 3) = nI (12 + i / 3 * 4 + i % 3) ∧ (13 + (nI i / 3) * 4) + (nI i - nI i / 3 * 3) = nI (13 + i / 3 * 4 + i % 3) := by decide +kernel
theorem sl_y160 (post : Int32 → Prop) (J : Int32 → Prop) (x1 : Int32) (i n : Nat) (hi : i < 9) (f : Int32) (a1 c m : Nat → Int32) (h1 : c i = 5 → J (nI (i + 1))) (h2 : ¬ c i = 5 → c i = nI n → J (nI (i + 1))) (h3 : ¬ c i = 5 → ¬ c i = nI n → post 0) : wY_holds_160 post J x1 (nI i) (nI n) f a1 c m := by
  have hv : vp_in (nI i) 9 := vp_in_nI (by omega) (by decide)
  have hc : (nI i).toNatClampNeg = i := nI_clamp (by omega)
  unfold wY_holds_160
  rw [hc]
  exact ⟨hv, br_c (fun q => nm_r (nI_1 i) (h1 q)) (fun q => ⟨hv, br_c (fun w => nm_r (nI_1 i) (h2 q w)) (fun w => h3 q w)⟩)⟩
theorem sl_y132 (post : Int32 → Prop) (J : Int32 → Prop) (s i n : Nat) (hi : i < 9) (f : Int32) (a1 c m : Nat → Int32) (h : wY_holds_160 post J (nI s) (nI i) (nI (n + (sl_t s (23 - (13 + i / 3 * 4 + i % 3))).toNat)) f a1 c m) : wY_holds_132 post J (nI s) (nI i) (nI i / 3) (nI i - nI i / 3 * 3) (nI n) f a1 c m := by
  unfold wY_holds_132
  rw [(sl_kT i hi).2]
  refine sl_hasY _ _ s _ (by omega) (sl_br _ (fun z => ?_) (fun z => ?_))
  · rw [z] at h
    exact h
  · rw [z] at h
    rw [nI_1]
    exact h
theorem sl_y104 (post : Int32 → Prop) (J : Int32 → Prop) (s i n : Nat) (hi : i < 9) (f : Int32) (a1 c m : Nat → Int32) (h : wY_holds_132 post J (nI s) (nI i) (nI i / 3) (nI i - nI i / 3 * 3) (nI (n + (sl_t s (23 - (12 + i / 3 * 4 + i % 3))).toNat)) f a1 c m) : wY_holds_104 post J (nI s) (nI i) (nI i / 3) (nI i - nI i / 3 * 3) (nI n) f a1 c m := by
  unfold wY_holds_104
  rw [(sl_kT i hi).1]
  refine sl_hasY _ _ s _ (by omega) (sl_br _ (fun z => ?_) (fun z => ?_))
  · rw [z] at h
    exact h
  · rw [z] at h
    rw [nI_1]
    exact h
theorem sl_y82 (post : Int32 → Prop) (J : Int32 → Prop) (s i n : Nat) (hi : i < 9) (f : Int32) (a1 c m : Nat → Int32) (h : wY_holds_104 post J (nI s) (nI i) (nI i / 3) (nI i - nI i / 3 * 3) (nI (n + (sl_t s (23 - (i + 3))).toNat)) f a1 c m) : wY_holds_82 post J (nI s) (nI i) (nI i / 3) (nI i - nI i / 3 * 3) (nI n) f a1 c m := by
  unfold wY_holds_82
  rw [show nI i + 3 = nI (i + 3) from nI_add i 3]
  refine sl_hasY _ _ s _ (by omega) (sl_br _ (fun z => ?_) (fun z => ?_))
  · rw [z] at h
    exact h
  · rw [z] at h
    rw [nI_1]
    exact h
theorem sl_ckY (post : Int32 → Prop) (s : Nat) (f : Int32) (a1 c m : Nat → Int32) : ∀ d i, i + d = 9 → post (nI (sl_ck c (sl_ky s) d i).toNat) → wY_holds_53 post (nI s) f a1 c m (d + 1) (nI i) := by
  intro d
  induction d with
  | zero =>
    intro i hi h
    exact br_t (show (9 : Int32) ≤ nI i from nI_le (a := 9) (by omega) (by omega)) h
  | succ d ih =>
    intro i hi h
    refine br_f (show ¬ (9 : Int32) ≤ nI i from nI_ge (b := 9) (by omega) (by decide)) ?_
    refine ⟨by decide, nm_e ⟨by decide, nm_e ?_⟩⟩
    have g : wY_holds_82 post (wY_holds_53 post (nI s) f a1 c m (d + 1)) (nI s) (nI i) (nI i / 3) (nI i - nI i / 3 * 3) (nI (sl_t s (23 - i)).toNat) f a1 c m := by
      refine sl_y82 post _ s i _ (by omega) f a1 c m (sl_y104 post _ s i _ (by omega) f a1 c m (sl_y132 post _ s i _ (by omega) f a1 c m ?_))
      show wY_holds_160 post _ (nI s) (nI i) (nI (sl_ky s i)) f a1 c m
      unfold sl_ck at h
      refine sl_y160 post _ _ i _ (by omega) f a1 c m (fun q => ih (i + 1) (by omega) ?_) (fun q w => ih (i + 1) (by omega) ?_) (fun q w => ?_)
      · rw [decide_eq_true q] at h
        exact h
      · rw [decide_eq_false q, cond_false, decide_eq_true w] at h
        exact h
      · rw [decide_eq_false q, cond_false, decide_eq_false w] at h
        exact h
    refine sl_hasY _ _ s i (by omega) ?_
    revert g
    cases sl_t s (23 - i)
    · exact fun g => br_t rfl g
    · exact fun g => br_f (by decide) g
/-! a solution -/
def sl_S (c m : Nat → Int32) (i : Nat) : Bool := sl_mk m (sl_t (sl_E i)) 24 0 && sl_ck c (sl_kx (sl_E i)) 9 0
theorem sl_isSol (post : Int32 → Prop) (f : Int32) (c m a4 : Nat → Int32) (i : Nat) (hi : i < 512) (h : post (nI (sl_S c m i).toNat)) : wpX_isSolution post (f, c, m, sl_f sl_TE, a4) (nI i) := by
  refine ⟨vp_in_nI hi (by decide), nm_r (e' := nI (sl_E i)) (by rw [nI_clamp (by omega)]; rfl) ?_⟩
  unfold sl_S at h
  refine sl_marksHold _ _ _ _ _ _ _ (sl_br _ (fun z => ?_) (fun z => ?_))
  · rw [z] at h
    exact h
  · rw [z, Bool.true_and] at h
    refine sl_cluesHold _ _ _ _ _ _ _ (sl_br _ (fun y => ?_) (fun y => ?_))
    · rw [y] at h
      exact h
    · rw [y] at h
      exact h
theorem sl_holds (post : Int32 → Prop) (f : Int32) (a1 c m : Nat → Int32) (i : Nat) (hi : i < 213) (h : post (nI (sl_S c m i).toNat)) : wpY_holds post (f, a1, c, m) (nI (sl_L i)) := by
  obtain ⟨k1, k2, _, _⟩ := sl_ok1 i hi
  have e1 : sl_mk m (sl_t (sl_E i)) 24 0 = sl_mk m (fun e => sl_t (sl_L i) (23 - e)) 24 0 := sl_mk_congr m 24 0 (fun j _ h2 => k1 j (by omega))
  have e2 : sl_ck c (sl_kx (sl_E i)) 9 0 = sl_ck c (sl_ky (sl_L i)) 9 0 := sl_ck_congr c 9 0 (fun j _ h2 => k2 j (by omega))
  unfold sl_S at h
  rw [e1, e2] at h
  exact ⟨25, sl_mkY post _ f a1 c m _ (fun w => ⟨10, sl_ckY post _ f a1 c m 9 0 rfl w⟩) 24 0 rfl h⟩
end
section
/-! the questions, each side against one pure function -/
theorem sl_cnt_le (p : Nat → Bool) : ∀ d i a, sl_cnt p d i a ≤ a + d := by
  intro d
  induction d with
  | zero => intro i a; exact Nat.le_refl _
  | succ d ih =>
    intro i a
    have h := ih (i + 1) (a + (p i).toNat)
    have h2 : (p i).toNat ≤ 1 := Bool.toNat_le _
    show sl_cnt p d (i + 1) (a + (p i).toNat) ≤ _
    omega
theorem sl_solXL (post : Int32 → Prop) (c m a4 : Nat → Int32) : ∀ d i a, i + d = 213 → post (nI (sl_cnt (sl_S c m) d i a)) → wX_solutions_4 post (nI 213) c m (sl_f sl_TE) a4 (d + 1) (nI a) (nI i) := by
  intro d
  induction d with
  | zero =>
    intro i a hi h
    exact br_t (nI_le (by omega) (by omega)) h
  | succ d ih =>
    intro i a hi h
    refine br_f (nI_ge (by omega) (by decide)) ?_
    have ih' := ih (i + 1) _ (by omega) h
    refine sl_isSol _ _ _ _ _ i (by omega) (sl_br _ (fun z => ?_) (fun z => ?_))
    · rw [z] at ih'
      exact nm_r (nI_1 i) ih'
    · rw [z] at ih'
      exact nm_r (nI_1 a) (nm_r (nI_1 i) ih')
theorem sl_solYL (post : Int32 → Prop) (c m : Nat → Int32) : ∀ d i a, i + d = 213 → post (nI (sl_cnt (sl_S c m) d i a)) → wY_solutions_4 post (nI 213) (sl_f sl_TL) c m (d + 1) (nI a) (nI i) := by
  intro d
  induction d with
  | zero =>
    intro i a hi h
    exact br_t (nI_le (by omega) (by omega)) h
  | succ d ih =>
    intro i a hi h
    have hc : sl_f sl_TL (nI i).toNatClampNeg = nI (sl_L i) := by rw [nI_clamp (by omega)]; rfl
    refine br_f (nI_ge (by omega) (by decide)) ⟨vp_in_nI (by omega) (by decide), ?_⟩
    rw [hc]
    have ih' := ih (i + 1) _ (by omega) h
    refine sl_holds _ _ _ _ _ i (by omega) (sl_br _ (fun z => ?_) (fun z => ?_))
    · rw [z] at ih'
      exact nm_r (nI_1 i) ih'
    · rw [z] at ih'
      exact nm_r (nI_1 a) (nm_r (nI_1 i) ih')
/-- solutions with edge e -/
def sl_V (c m : Nat → Int32) (e i : Nat) : Bool := sl_t (sl_E i) e && sl_S c m i
theorem sl_votXL (post : Int32 → Prop) (c m a4 : Nat → Int32) (e : Nat) (he : e < 24) : ∀ d i a, i + d = 213 → post (nI (sl_cnt (sl_V c m e) d i a)) → wX_votes_14 post (nI e) (nI 213) c m (sl_f sl_TE) a4 (d + 1) (nI a) (nI i) := by
  intro d
  induction d with
  | zero =>
    intro i a hi h
    exact br_t (nI_le (by omega) (by omega)) h
  | succ d ih =>
    intro i a hi h
    have hc : sl_f sl_TE (nI i).toNatClampNeg = nI (sl_E i) := by rw [nI_clamp (by omega)]; rfl
    refine br_f (nI_ge (by omega) (by decide)) ⟨vp_in_nI (by omega) (by decide), ?_⟩
    rw [hc]
    have ih' := ih (i + 1) _ (by omega) h
    unfold sl_V at ih'
    refine sl_has _ (by omega) (sl_br _ (fun z => ?_) (fun z => ?_))
    · rw [z] at ih'
      exact nm_r (nI_1 i) ih'
    · rw [z, Bool.true_and] at ih'
      refine sl_isSol _ _ _ _ _ i (by omega) (sl_br _ (fun y => ?_) (fun y => ?_))
      · rw [y] at ih'
        exact nm_r (nI_1 i) ih'
      · rw [y] at ih'
        exact nm_r (nI_1 a) (nm_r (nI_1 i) ih')
theorem sl_votYL (post : Int32 → Prop) (c m : Nat → Int32) (e : Nat) (he : e < 24) : ∀ d i a, i + d = 213 → post (nI (sl_cnt (sl_V c m e) d i a)) → wY_votes_17 post (nI e) (nI 213) (sl_f sl_TL) c m (d + 1) (nI a) (nI i) := by
  intro d
  induction d with
  | zero =>
    intro i a hi h
    exact br_t (nI_le (by omega) (by omega)) h
  | succ d ih =>
    intro i a hi h
    have hc : sl_f sl_TL (nI i).toNatClampNeg = nI (sl_L i) := by rw [nI_clamp (by omega)]; rfl
    have hv : vp_in (nI i) 256 := vp_in_nI (by omega) (by decide)
    refine br_f (nI_ge (by omega) (by decide)) ⟨hv, ?_⟩
    rw [hc]
    have ih' := ih (i + 1) _ (by omega) h
    unfold sl_V at ih'
    rw [(sl_ok1 i (by omega)).1 e he] at ih'
    refine sl_hasY _ _ _ e he (sl_br _ (fun z => ?_) (fun z => ?_))
    · rw [z] at ih'
      exact nm_r (nI_1 i) ih'
    · rw [z, Bool.true_and] at ih'
      refine ⟨hv, sl_holds _ _ _ _ _ i (by omega) (sl_br _ (fun y => ?_) (fun y => ?_))⟩
      · rw [y] at ih'
        exact nm_r (nI_1 i) ih'
      · rw [y] at ih'
        exact nm_r (nI_1 a) (nm_r (nI_1 i) ih')
/-! the n-th solution -/
def sl_nth (x : Int32) (p : Nat → Bool) : Nat → Nat → Nat → Option Nat
  | 0, _, _ => none
  | d + 1, i, a => bif p i then (bif decide (nI a = x) then some i else sl_nth x p d (i + 1) (a + 1)) else sl_nth x p d (i + 1) a
def sl_rX : Option Nat → Int32
  | none => -1
  | some i => nI i
def sl_rY : Option Nat → Nat
  | none => 0
  | some i => sl_L i
theorem sl_nth_lt (x : Int32) (p : Nat → Bool) : ∀ d i a j, sl_nth x p d i a = some j → j < i + d := by
  intro d
  induction d with
  | zero => intro i a j h; exact absurd h (by simp [sl_nth])
  | succ d ih =>
    intro i a j h
    unfold sl_nth at h
    cases hp : p i
    · rw [hp, cond_false] at h
      have := ih _ _ _ h
      omega
    · rw [hp, cond_true] at h
      by_cases hx : nI a = x
      · rw [decide_eq_true hx, cond_true] at h
        injection h with h
        omega
      · rw [decide_eq_false hx, cond_false] at h
        have := ih _ _ _ h
        omega
theorem sl_nthXL (post : Int32 → Prop) (x : Int32) (c m a4 : Nat → Int32) : ∀ d i a, i + d = 213 → post (sl_rX (sl_nth x (sl_S c m) d i a)) → wX_loopOfSolution_4 post x (nI 213) c m (sl_f sl_TE) a4 (d + 1) (nI a) (nI i) := by
  intro d
  induction d with
  | zero =>
    intro i a hi h
    exact br_t (nI_le (by omega) (by omega)) h
  | succ d ih =>
    intro i a hi h
    refine br_f (nI_ge (by omega) (by decide)) ?_
    unfold sl_nth at h
    refine sl_isSol _ _ _ _ _ i (by omega) (sl_br _ (fun z => ?_) (fun z => ?_))
    · rw [z, cond_false] at h
      exact nm_r (nI_1 i) (ih (i + 1) a (by omega) h)
    · rw [z, cond_true] at h
      refine br_c (fun q => ?_) (fun q => ?_)
      · rw [decide_eq_true q] at h
        exact h
      · rw [decide_eq_false q] at h
        exact nm_r (nI_1 a) (nm_r (nI_1 i) (ih (i + 1) (a + 1) (by omega) h))
theorem sl_nthYL (post : Int32 → Prop) (x : Int32) (c m : Nat → Int32) : ∀ d i a, i + d = 213 → post (nI (sl_rY (sl_nth x (sl_S c m) d i a))) → wY_solution_4 post x (nI 213) (sl_f sl_TL) c m (d + 1) (nI a) (nI i) := by
  intro d
  induction d with
  | zero =>
    intro i a hi h
    exact br_t (nI_le (by omega) (by omega)) h
  | succ d ih =>
    intro i a hi h
    have hc : sl_f sl_TL (nI i).toNatClampNeg = nI (sl_L i) := by rw [nI_clamp (by omega)]; rfl
    have hv : vp_in (nI i) 256 := vp_in_nI (by omega) (by decide)
    refine br_f (nI_ge (by omega) (by decide)) ⟨hv, ?_⟩
    rw [hc]
    unfold sl_nth at h
    refine sl_holds _ _ _ _ _ i (by omega) (sl_br _ (fun z => ?_) (fun z => ?_))
    · rw [z, cond_false] at h
      exact nm_r (nI_1 i) (ih (i + 1) a (by omega) h)
    · rw [z, cond_true] at h
      refine br_c (fun q => ⟨hv, ?_⟩) (fun q => ?_)
      · rw [decide_eq_true q] at h
        exact h
      · rw [decide_eq_false q] at h
        exact nm_r (nI_1 a) (nm_r (nI_1 i) (ih (i + 1) (a + 1) (by omega) h))
/-- the number of the n-th solution -/
def sl_N (x : Int32) (c m : Nat → Int32) : Option Nat := sl_nth x (sl_S c m) 213 0 0
theorem sl_loopOf (post : Int32 → Prop) (x : Int32) (c m a4 : Nat → Int32) (h : post (sl_rX (sl_N x c m))) : wpX_loopOfSolution post (nI 213, c, m, sl_f sl_TE, a4) x := ⟨214, sl_nthXL post x c m a4 213 0 0 rfl h⟩
theorem sl_solution (post : Int32 → Prop) (x : Int32) (c m : Nat → Int32) (h : post (nI (sl_rY (sl_N x c m)))) : wpY_solution post (nI 213, sl_f sl_TL, c, m) x := ⟨214, sl_nthYL post x c m 213 0 0 rfl h⟩
/-- a case of the n-th solution: none, or the i-th loop -/
theorem sl_loopC {A : Prop} {B : Int32 → Prop} (x : Int32) (c m a4 : Nat → Int32) (f : sl_N x c m = none → A) (g : ∀ i, i < 213 → sl_N x c m = some i → B (nI i)) : wpX_loopOfSolution (fun r => (r = (-1) → A) ∧ (¬ r = (-1) → B r)) (nI 213, c, m, sl_f sl_TE, a4) x := by
  refine sl_loopOf _ x c m a4 ?_
  cases h : sl_N x c m with
  | none => exact br_t rfl (f h)
  | some i =>
    have hi : i < 213 := by
      have := sl_nth_lt x (sl_S c m) 213 0 0 i h
      omega
    refine br_f (fun z => ?_) (g i hi h)
    have z' : nI i = -1 := z
    have w : (nI i).toInt = (-1 : Int32).toInt := by rw [z']
    rw [nI_toInt (by omega)] at w
    have w2 : (-1 : Int32).toInt = -1 := by decide
    omega
/-! the least -/
def sl_sz (i : Nat) : Nat := sl_cnt (sl_t (sl_E i)) 24 0 0
theorem sl_szY (i : Nat) (hi : i < 213) : sl_cnt (fun e => sl_t (sl_L i) (23 - e)) 24 0 0 = sl_sz i := sl_cnt_congr 24 0 0 (fun j _ h2 => ((sl_ok1 i hi).1 j (by omega)).symm)
def sl_sh (p : Nat → Bool) : Nat → Nat → Nat → Nat
  | 0, _, a => a
  | d + 1, i, a => bif p i then (bif sl_q a 0 then sl_sh p d (i + 1) (sl_sz i) else (bif decide (nI a ≤ nI (sl_sz i)) then sl_sh p d (i + 1) a else sl_sh p d (i + 1) (sl_sz i))) else sl_sh p d (i + 1) a
theorem sl_shXL (post : Int32 → Prop) (c m a4 : Nat → Int32) : ∀ d i a, i + d = 213 → post (nI (sl_sh (sl_S c m) d i a)) → wX_shortest_4 post (nI 213) c m (sl_f sl_TE) a4 (d + 1) (nI a) (nI i) := by
  intro d
  induction d with
  | zero =>
    intro i a hi h
    exact br_t (nI_le (by omega) (by omega)) h
  | succ d ih =>
    intro i a hi h
    have hc : sl_f sl_TE (nI i).toNatClampNeg = nI (sl_E i) := by rw [nI_clamp (by omega)]; rfl
    refine br_f (nI_ge (by omega) (by decide)) ?_
    rw [hc]
    unfold sl_sh at h
    refine sl_isSol _ _ _ _ _ i (by omega) (sl_br _ (fun z => ?_) (fun z => ?_))
    · rw [z, cond_false] at h
      exact nm_r (nI_1 i) (ih (i + 1) a (by omega) h)
    · rw [z, cond_true] at h
      refine ⟨vp_in_nI (by omega) (by decide), sl_sizeOf _ _ ?_⟩
      refine sl_brq a 0 (fun y => ?_) (fun y => ?_)
      · rw [y, cond_true] at h
        exact nm_r (nI_1 i) (ih (i + 1) _ (by omega) h)
      · rw [y, cond_false] at h
        refine br_c (fun w => ?_) (fun w => ?_)
        · rw [decide_eq_true (show nI a ≤ nI (sl_sz i) from w)] at h
          exact nm_r (nI_1 i) (ih (i + 1) _ (by omega) h)
        · rw [decide_eq_false (show ¬ nI a ≤ nI (sl_sz i) from w)] at h
          exact nm_r (nI_1 i) (ih (i + 1) _ (by omega) h)
theorem sl_shYL (post : Int32 → Prop) (c m : Nat → Int32) : ∀ d i a, i + d = 213 → post (nI (sl_sh (sl_S c m) d i a)) → wY_shortest_4 post (nI 213) (sl_f sl_TL) c m (d + 1) (nI a) (nI i) := by
  intro d
  induction d with
  | zero =>
    intro i a hi h
    exact br_t (nI_le (by omega) (by omega)) h
  | succ d ih =>
    intro i a hi h
    have hc : sl_f sl_TL (nI i).toNatClampNeg = nI (sl_L i) := by rw [nI_clamp (by omega)]; rfl
    have hv : vp_in (nI i) 256 := vp_in_nI (by omega) (by decide)
    refine br_f (nI_ge (by omega) (by decide)) ⟨hv, ?_⟩
    rw [hc]
    unfold sl_sh at h
    refine sl_holds _ _ _ _ _ i (by omega) (sl_br _ (fun z => ?_) (fun z => ?_))
    · rw [z, cond_false] at h
      exact nm_r (nI_1 i) (ih (i + 1) a (by omega) h)
    · rw [z, cond_true] at h
      refine ⟨hv, sl_edges _ _ _ ?_⟩
      rw [sl_szY i (by omega)]
      refine sl_brq a 0 (fun y => ?_) (fun y => ?_)
      · rw [y, cond_true] at h
        exact nm_r (nI_1 i) (ih (i + 1) _ (by omega) h)
      · rw [y, cond_false] at h
        refine br_c (fun w => ?_) (fun w => ?_)
        · rw [decide_eq_true w] at h
          exact nm_r (nI_1 i) (ih (i + 1) _ (by omega) h)
        · rw [decide_eq_false w] at h
          exact nm_r (nI_1 i) (ih (i + 1) _ (by omega) h)
/-! the cells inside, by the reference's crossings -/
theorem sl_inT : ∀ i, i < 9 → nI i - nI i / 3 * 3 = nI (i % 3) ∧ 12 + (nI i / 3) * 4 = nI (12 + i / 3 * 4) := by decide +kernel
theorem sl_crL (post : Int32 → Prop) (J : Int32 → Int32 → Prop) (s n i : Nat) (hi : i < 9) (f : Int32) (a1 a2 a3 : Nat → Int32) : ∀ d k b, k + d = i % 3 + 1 → J (nI (n + (sl_cr s (i / 3) d k b).toNat)) (nI (i + 1)) → wY_inside_24 post J (nI s) (nI n) (nI i) f a1 a2 a3 (d + 1) (nI b.toNat) (nI k) := by
  intro d
  induction d with
  | zero =>
    intro k b hk h
    refine ⟨by decide, ?_⟩
    rw [(sl_inT i hi).1]
    refine br_t (nI_lt (by omega) (by omega)) ?_
    have h' : J (nI (n + b.toNat)) (nI (i + 1)) := h
    refine sl_br b (fun z => ?_) (fun z => ?_)
    · rw [z] at h'
      exact nm_r (nI_1 i) h'
    · rw [z] at h'
      exact nm_r (nI_1 n) (nm_r (nI_1 i) h')
  | succ d ih =>
    intro k b hk h
    refine ⟨by decide, ?_⟩
    rw [(sl_inT i hi).1]
    refine br_f (nI_nlt (by omega) (by omega)) ⟨by decide, ?_⟩
    rw [(sl_inT i hi).2, nI_add]
    have ih' := ih (k + 1) _ (by omega) h
    refine sl_hasY _ _ s _ (by omega) ?_
    revert ih'
    cases b <;> cases sl_t s (23 - (12 + i / 3 * 4 + k))
    · exact fun w => br_t rfl (nm_r (nI_1 k) w)
    · exact fun w => br_f (by decide) (nm_r (nI_1 k) w)
    · exact fun w => br_f (by decide) (nm_r (nI_1 k) w)
    · exact fun w => br_t rfl (nm_r (nI_1 k) w)
theorem sl_insL (post : Int32 → Prop) (s : Nat) (f : Int32) (a1 a2 a3 : Nat → Int32) : ∀ d i a, i + d = 9 → post (nI (sl_ins s d i a)) → wY_inside_11 post (nI s) f a1 a2 a3 (d + 1) (nI a) (nI i) := by
  intro d
  induction d with
  | zero =>
    intro i a hi h
    exact br_t (show (9 : Int32) ≤ nI i from nI_le (a := 9) (by omega) (by omega)) h
  | succ d ih =>
    intro i a hi h
    refine br_f (show ¬ (9 : Int32) ≤ nI i from nI_ge (b := 9) (by omega) (by decide)) ?_
    exact ⟨i % 3 + 1 + 1, sl_crL post _ s a i (by omega) f a1 a2 a3 (i % 3 + 1) 0 false (by omega) (ih (i + 1) _ (by omega) h)⟩
end
section
/-! decided: the component's two sets against the reference's counts -/
def sl_aa (p : Nat → Bool) : Nat → Nat → Nat → Nat
  | 0, _, a => a
  | d + 1, i, a => sl_aa p d (i + 1) (bif p i then a &&& sl_E i else a)
def sl_oo (p : Nat → Bool) : Nat → Nat → Nat → Nat
  | 0, _, a => a
  | d + 1, i, a => sl_oo p d (i + 1) (bif p i then a ||| sl_E i else a)
/-- a, o: the sets; v e: solutions with edge e; n: solutions -/
def sl_inv (a o : Nat) (v : Nat → Nat) (n : Nat) : Prop := (∀ e, e < 24 → sl_t a e = decide (v e = n)) ∧ (∀ e, e < 24 → v e ≤ n) ∧ (∀ e, e < 24 → sl_t o e = decide (0 < v e)) ∧ (n = 0 → o = 0) ∧ (0 < n → ∃ e, e < 24 ∧ 0 < v e)
theorem sl_t_and (a b i : Nat) : sl_t (a &&& b) i = (sl_t a i && sl_t b i) := by rw [sl_t_eq, sl_t_eq, sl_t_eq, Nat.testBit_and]
theorem sl_t_or (a b i : Nat) : sl_t (a ||| b) i = (sl_t a i || sl_t b i) := by rw [sl_t_eq, sl_t_eq, sl_t_eq, Nat.testBit_or]
theorem sl_t_xor (a b i : Nat) : sl_t (a ^^^ b) i = (sl_t a i ^^ sl_t b i) := by rw [sl_t_eq, sl_t_eq, sl_t_eq, Nat.testBit_xor]
theorem sl_d1 (a n : Nat) (b : Bool) (h : a ≤ n) : (decide (a = n) && b) = decide (a + b.toNat = n + 1) := by
  cases b
  · rw [Bool.and_false, decide_eq_false (show ¬ a + false.toNat = n + 1 from fun z => by have z' : a + 0 = n + 1 := z; omega)]
  · rw [Bool.and_true]
    exact decide_eq_decide.mpr ⟨fun z => by rw [z]; rfl, fun z => by have z' : a + 1 = n + 1 := z; omega⟩
theorem sl_d2 (a : Nat) (b : Bool) : (decide (0 < a) || b) = decide (0 < a + b.toNat) := by
  cases b
  · rw [Bool.or_false]
    rfl
  · rw [Bool.or_true, decide_eq_true (show 0 < a + true.toNat from Nat.succ_pos a)]
theorem sl_inv_step (a o : Nat) (v : Nat → Nat) (n i : Nat) (hi : i < 213) (h : sl_inv a o v n) : sl_inv (a &&& sl_E i) (o ||| sl_E i) (fun e => v e + (sl_t (sl_E i) e).toNat) (n + 1) := by
  obtain ⟨h1, h2, h3, h4, h5⟩ := h
  refine ⟨fun e he => ?_, fun e he => ?_, fun e he => ?_, fun z => absurd z (by omega), fun _ => ?_⟩
  · rw [sl_t_and, h1 e he]
    exact sl_d1 _ _ _ (h2 e he)
  · have := h2 e he
    have h6 : (sl_t (sl_E i) e).toNat ≤ 1 := Bool.toNat_le _
    show v e + (sl_t (sl_E i) e).toNat ≤ n + 1
    omega
  · rw [sl_t_or, h3 e he]
    exact sl_d2 _ _
  · obtain ⟨e, he, ht⟩ := (sl_ok1 i hi).2.2.2
    refine ⟨e, he, ?_⟩
    show 0 < v e + (sl_t (sl_E i) e).toNat
    rw [ht]
    show 0 < v e + 1
    omega
theorem sl_invL (c m : Nat → Int32) : ∀ d i a o (v : Nat → Nat) n, i + d = 213 → sl_inv a o v n → sl_inv (sl_aa (sl_S c m) d i a) (sl_oo (sl_S c m) d i o) (fun e => sl_cnt (sl_V c m e) d i (v e)) (sl_cnt (sl_S c m) d i n) := by
  intro d
  induction d with
  | zero => intro i a o v n hi h; exact h
  | succ d ih =>
    intro i a o v n hi h
    unfold sl_aa sl_oo sl_cnt sl_V
    cases hs : sl_S c m i
    · have w := ih (i + 1) a o v n (by omega) h
      have e : (fun e => sl_cnt (fun i => sl_t (sl_E i) e && sl_S c m i) d (i + 1) (v e + (sl_t (sl_E i) e && false).toNat)) = fun e => sl_cnt (sl_V c m e) d (i + 1) (v e) := by
        funext e
        rw [Bool.and_false]
        rfl
      rw [e]
      exact w
    · have w := ih (i + 1) _ _ _ _ (by omega) (sl_inv_step a o v n i (by omega) h)
      have e : (fun e => sl_cnt (fun i => sl_t (sl_E i) e && sl_S c m i) d (i + 1) (v e + (sl_t (sl_E i) e && true).toNat)) = fun e => sl_cnt (sl_V c m e) d (i + 1) (v e + (sl_t (sl_E i) e).toNat) := by
        funext e
        rw [Bool.and_true]
        rfl
      rw [e]
      exact w
theorem sl_full : ∀ e, e < 24 → sl_t 16777215 e = true ∧ sl_t 4294967295 e = true := by decide +kernel
theorem sl_t0 (e : Nat) : sl_t 0 e = false := by rw [sl_t_eq, Nat.zero_testBit]
theorem sl_inv0 : sl_inv 16777215 0 (fun _ => 0) 0 := by
  refine ⟨fun e he => ?_, fun e he => Nat.le_refl _, fun e he => ?_, fun _ => rfl, fun z => absurd z (by omega)⟩
  · rw [(sl_full e he).1]
    rfl
  · rw [sl_t0]
    rfl
def sl_all (c m : Nat → Int32) : Nat := sl_cnt (sl_S c m) 213 0 0
def sl_vot (c m : Nat → Int32) (e : Nat) : Nat := sl_cnt (sl_V c m e) 213 0 0
/-- an edge is decided -/
def sl_dq (c m : Nat → Int32) (e : Nat) : Bool := !decide (sl_all c m = 0) && (decide (sl_vot c m e = 0) || decide (sl_vot c m e = sl_all c m))
theorem sl_decXL (post : Int32 → Prop) (c m a4 : Nat → Int32) : ∀ d i a o, i + d = 213 → (nI (sl_oo (sl_S c m) d i o) = 0 → post 0) → (¬ nI (sl_oo (sl_S c m) d i o) = 0 → post (nI (sl_cnt (sl_t (sl_aa (sl_S c m) d i a ||| (16777215 &&& (sl_oo (sl_S c m) d i o ^^^ 4294967295)))) 24 0 0))) → wX_decided_7 post (nI 213) c m (sl_f sl_TE) a4 (d + 1) (nI a) (nI o) (nI i) := by
  intro d
  induction d with
  | zero =>
    intro i a o hi h0 h1
    refine br_t (nI_le (by omega) (by omega)) (br_c (fun q => h0 q) (fun q => ?_))
    refine nm_r (e' := nI (16777215 &&& (o ^^^ 4294967295))) ?_ ?_
    · rw [← sl_and, ← sl_xor]
      rfl
    · rw [sl_or]
      exact sl_sizeOf _ _ (h1 q)
  | succ d ih =>
    intro i a o hi h0 h1
    have hc : sl_f sl_TE (nI i).toNatClampNeg = nI (sl_E i) := by rw [nI_clamp (by omega)]; rfl
    have hv : vp_in (nI i) 512 := vp_in_nI (by omega) (by decide)
    refine br_f (nI_ge (by omega) (by decide)) ?_
    rw [hc]
    unfold sl_aa sl_oo at h1
    unfold sl_oo at h0
    refine sl_isSol _ _ _ _ _ i (by omega) (sl_br _ (fun z => ?_) (fun z => ?_))
    · rw [z] at h0 h1
      exact nm_r (nI_1 i) (ih (i + 1) a o (by omega) h0 h1)
    · rw [z] at h0 h1
      refine ⟨hv, nm_r (sl_and a (sl_E i)) ⟨hv, nm_r (sl_or o (sl_E i)) (nm_r (nI_1 i) (ih (i + 1) _ _ (by omega) h0 h1))⟩⟩
theorem sl_decX (post : Int32 → Prop) (c m a4 : Nat → Int32) (h : post (nI (sl_cnt (sl_dq c m) 24 0 0))) : wpX_decided post (nI 213, c, m, sl_f sl_TE, a4) := by
  refine ⟨214, sl_decXL post c m a4 213 0 16777215 0 rfl ?_ ?_⟩
  all_goals
    obtain ⟨h1, h2, h3, h4, h5⟩ := sl_invL c m 213 0 16777215 0 (fun _ => 0) 0 rfl sl_inv0
    have ha : sl_cnt (sl_S c m) 213 0 0 = sl_all c m := rfl
    rw [ha] at h4 h5
    intro q
  · have hz : sl_all c m = 0 := by
      rcases Nat.eq_zero_or_pos (sl_all c m) with w | w
      · exact w
      · obtain ⟨e, he, hp⟩ := h5 w
        have h6 := h3 e he
        rw [decide_eq_true hp, sl_t_eq, ← sl_btn _ (by omega), q, b_0] at h6
        exact absurd h6 (by decide)
    have e : sl_cnt (sl_dq c m) 24 0 0 = sl_cnt (fun _ => false) 24 0 0 := by
      apply sl_cnt_congr
      intro j _ _
      unfold sl_dq
      rw [hz]
      rfl
    rw [e] at h
    exact h
  · have hz : ¬ sl_all c m = 0 := fun w => q (by rw [h4 w]; rfl)
    have e : sl_cnt (sl_dq c m) 24 0 0 = sl_cnt (sl_t (sl_aa (sl_S c m) 213 0 16777215 ||| (16777215 &&& (sl_oo (sl_S c m) 213 0 0 ^^^ 4294967295)))) 24 0 0 := by
      apply sl_cnt_congr
      intro j _ hj
      have hj' : j < 24 := by omega
      have k1 : sl_t (sl_aa (sl_S c m) 213 0 16777215) j = decide (sl_vot c m j = sl_all c m) := h1 j hj'
      have k3 : sl_t (sl_oo (sl_S c m) 213 0 0) j = decide (0 < sl_vot c m j) := h3 j hj'
      rw [sl_t_or, sl_t_and, sl_t_xor, (sl_full j hj').1, (sl_full j hj').2, k1, k3]
      unfold sl_dq
      rw [decide_eq_false hz, Bool.not_false, Bool.true_and, Bool.true_and, Bool.xor_true, Bool.or_comm]
      congr 1
      by_cases w : sl_vot c m j = 0
      · rw [decide_eq_true w, decide_eq_false (by omega)]
        rfl
      · rw [decide_eq_false w, decide_eq_true (by omega)]
        rfl
    rw [e] at h
    exact h
theorem sl_votY (post : Int32 → Prop) (c m : Nat → Int32) (e : Nat) (he : e < 24) (h : post (nI (sl_vot c m e))) : wpY_votes post (nI 213, sl_f sl_TL, c, m) (nI e) := by
  refine br_f (nI_pos (by omega)) (br_t (show nI e ≤ (23 : Int32) from nI_le (b := 23) (by omega) (by decide)) ?_)
  exact ⟨214, sl_votYL post c m e he 213 0 0 rfl h⟩
theorem sl_decYL (post : Int32 → Prop) (c m : Nat → Int32) : ∀ d e a, e + d = 24 → post (nI (sl_cnt (sl_dq c m) d e a)) → wY_decided_9 post (nI (sl_all c m)) (nI 213) (sl_f sl_TL) c m (d + 1) (nI a) (nI e) := by
  have hA : sl_all c m ≤ 213 := sl_cnt_le (sl_S c m) 213 0 0
  intro d
  induction d with
  | zero =>
    intro i a hi h
    exact br_t (show (24 : Int32) ≤ nI i from nI_le (a := 24) (by omega) (by omega)) h
  | succ d ih =>
    intro e a hi h
    have hV : sl_vot c m e ≤ 213 := sl_cnt_le (sl_V c m e) 213 0 0
    refine br_f (show ¬ (24 : Int32) ≤ nI e from nI_ge (b := 24) (by omega) (by decide)) ?_
    have ih' := ih (e + 1) _ (by omega) h
    unfold sl_dq at ih'
    refine sl_votY _ c m e (by omega) ?_
    rcases Nat.eq_zero_or_pos (sl_all c m) with w | w
    · refine br_t (by rw [w]; decide) ?_
      rw [decide_eq_true w] at ih'
      exact nm_r (nI_1 e) ih'
    · refine br_f (nI_nle w (by omega)) ?_
      rw [decide_eq_false (by omega), Bool.not_false, Bool.true_and] at ih'
      by_cases y : sl_vot c m e = 0
      · refine br_t (by rw [y]; rfl) ?_
        rw [decide_eq_true y, Bool.true_or] at ih'
        exact nm_r (nI_1 a) (nm_r (nI_1 e) ih')
      · refine br_f (nI_ne0 (by omega) (by omega)) ?_
        rw [decide_eq_false y, Bool.false_or] at ih'
        by_cases x : sl_vot c m e = sl_all c m
        · refine br_t (by rw [x]) ?_
          rw [decide_eq_true x] at ih'
          exact nm_r (nI_1 a) (nm_r (nI_1 e) ih')
        · refine br_f (fun z => x ((nI_eq (by omega) (by omega)).mp z)) ?_
          rw [decide_eq_false x] at ih'
          exact nm_r (nI_1 e) ih'
theorem sl_decY (post : Int32 → Prop) (c m : Nat → Int32) (h : post (nI (sl_cnt (sl_dq c m) 24 0 0))) : wpY_decided post (nI 213, sl_f sl_TL, c, m) := ⟨214, sl_solYL _ c m 213 0 0 rfl ⟨25, sl_decYL post c m 24 0 0 rfl h⟩⟩
end
section
/-! the hints taken away, and the constructors -/
theorem sl_thX23 (post : SX → Prop) (f : Int32) (c a3 a4 : Nat → Int32) : ∀ d i m, i + d = 24 → post (f, c, sl_fill 0 d i m, a3, a4) → wX_takeHintsAway_23 post f (d + 1) (nI i) c m a3 a4 := by
  intro d
  induction d with
  | zero =>
    intro i m hi h
    exact br_t (show (24 : Int32) ≤ nI i from nI_le (a := 24) (by omega) (by omega)) h
  | succ d ih =>
    intro i m hi h
    refine br_f (show ¬ (24 : Int32) ≤ nI i from nI_ge (b := 24) (by omega) (by decide)) ⟨vp_in_nI (by omega) (by decide), ?_⟩
    exact nm_r (e' := upd m i 0) (by rw [nI_clamp (by omega)]) (nm_r (nI_1 i) (ih (i + 1) _ (by omega) h))
theorem sl_thX2 (post : SX → Prop) (f : Int32) (m a3 a4 : Nat → Int32) : ∀ d i c, i + d = 9 → post (f, sl_fill 5 d i c, sl_fill 0 24 0 m, a3, a4) → wX_takeHintsAway_2 post f (d + 1) (nI i) c m a3 a4 := by
  intro d
  induction d with
  | zero =>
    intro i c hi h
    exact br_t (show (9 : Int32) ≤ nI i from nI_le (a := 9) (by omega) (by omega)) ⟨25, sl_thX23 post f c a3 a4 24 0 m rfl h⟩
  | succ d ih =>
    intro i c hi h
    refine br_f (show ¬ (9 : Int32) ≤ nI i from nI_ge (b := 9) (by omega) (by decide)) ⟨vp_in_nI (by omega) (by decide), ?_⟩
    exact nm_r (e' := upd c i 5) (by rw [nI_clamp (by omega)]) (nm_r (nI_1 i) (ih (i + 1) _ (by omega) h))
theorem sl_takeX (post : SX → Prop) (f : Int32) (c m a3 a4 : Nat → Int32) (h : post (f, sl_fill 5 9 0 c, sl_fill 0 24 0 m, a3, a4)) : wpX_takeHintsAway post (f, c, m, a3, a4) := ⟨10, sl_thX2 post f m a3 a4 9 0 c rfl h⟩
theorem sl_clY23 (post : SY → Prop) (f : Int32) (a1 c : Nat → Int32) : ∀ d i m, i + d = 24 → post (f, a1, c, sl_fill 0 d i m) → wY_clear_23 post f (d + 1) (nI i) a1 c m := by
  intro d
  induction d with
  | zero =>
    intro i m hi h
    exact br_t (show (24 : Int32) ≤ nI i from nI_le (a := 24) (by omega) (by omega)) h
  | succ d ih =>
    intro i m hi h
    refine br_f (show ¬ (24 : Int32) ≤ nI i from nI_ge (b := 24) (by omega) (by decide)) ⟨vp_in_nI (by omega) (by decide), ?_⟩
    exact nm_r (e' := upd m i 0) (by rw [nI_clamp (by omega)]) (nm_r (nI_1 i) (ih (i + 1) _ (by omega) h))
theorem sl_clY2 (post : SY → Prop) (f : Int32) (a1 m : Nat → Int32) : ∀ d i c, i + d = 9 → post (f, a1, sl_fill 5 d i c, sl_fill 0 24 0 m) → wY_clear_2 post f (d + 1) (nI i) a1 c m := by
  intro d
  induction d with
  | zero =>
    intro i c hi h
    exact br_t (show (9 : Int32) ≤ nI i from nI_le (a := 9) (by omega) (by omega)) ⟨25, sl_clY23 post f a1 c 24 0 m rfl h⟩
  | succ d ih =>
    intro i c hi h
    refine br_f (show ¬ (9 : Int32) ≤ nI i from nI_ge (b := 9) (by omega) (by decide)) ⟨vp_in_nI (by omega) (by decide), ?_⟩
    exact nm_r (e' := upd c i 5) (by rw [nI_clamp (by omega)]) (nm_r (nI_1 i) (ih (i + 1) _ (by omega) h))
theorem sl_clearY (post : SY → Prop) (f : Int32) (a1 c m : Nat → Int32) (h : post (f, a1, sl_fill 5 9 0 c, sl_fill 0 24 0 m)) : wpY_clear post (f, a1, c, m) := ⟨10, sl_clY2 post f a1 m 9 0 c rfl h⟩
theorem sl_XN : (sl_X0 ++ (sl_X1 ++ (sl_X2 ++ (sl_X3 ++ (sl_X4 ++ (sl_X5 ++ (sl_X6 ++ (sl_X7)))))))).length = 213 := by decide +kernel
theorem sl_findX (post : SX → Prop) (c m : Nat → Int32) (h : post (nI 213, c, m, sl_f sl_TE, sl_f sl_TC)) : wpX_findLoops post (0, c, m, fun _ => 0, fun _ => 0) := by
  have w := sl_flL post c m 512 0 [] rfl (by decide)
  rw [List.nil_append, sl_XA0, sl_XE, sl_XC, sl_XN] at w
  exact ⟨513, w h⟩
theorem sl_i31 (post : SY → Prop) (a1 m : Nat → Int32) : ∀ d i c, i + d = 9 → (∃ n, wY_init_52 post n 1 0 a1 (sl_fill 5 d i c) m) → wY_init_31 post 0 (d + 1) (nI i) a1 c m := by
  intro d
  induction d with
  | zero =>
    intro i c hi h
    exact br_t (show (9 : Int32) ≤ nI i from nI_le (a := 9) (by omega) (by omega)) h
  | succ d ih =>
    intro i c hi h
    refine br_f (show ¬ (9 : Int32) ≤ nI i from nI_ge (b := 9) (by omega) (by decide)) ⟨vp_in_nI (by omega) (by decide), ?_⟩
    exact nm_r (e' := upd c i 5) (by rw [nI_clamp (by omega)]) (nm_r (nI_1 i) (ih (i + 1) _ (by omega) h))
theorem sl_YN : sl_YU.length = 213 := by decide +kernel
theorem sl_i52 (post : SY → Prop) (c m : Nat → Int32) (h : post (nI 213, sl_f sl_TL, c, m)) : ∃ n, wY_init_52 post n 1 0 (fun _ => 0) c m := by
  have w := sl_fyL post c m 511 1 [] rfl
  rw [List.nil_append, sl_YA0, sl_YE, sl_YN] at w
  have s := sl_soL post c m 213 (by decide) 213 sl_YU [] sl_YN rfl
  rw [List.nil_append, sl_YS, List.nil_append] at s
  exact ⟨512, w (by decide) ⟨214, s h⟩⟩
theorem sl_initY (post : SY → Prop) (h : post (nI 213, sl_f sl_TL, sl_fill 5 9 0 (fun _ => 0), fun _ => 0)) : wpY_init post := ⟨10, sl_i31 post _ _ 9 0 _ rfl (sl_i52 post _ _ h)⟩
theorem sl_initX (post : SX → Prop) (h : post (nI 213, sl_fill 5 9 0 (fun _ => 0), fun _ => 0, sl_f sl_TE, sl_f sl_TC)) : wpX_init post := by
  unfold wpX_init
  refine sl_takeX _ _ _ _ _ _ ?_
  rw [sl_fill0]
  exact sl_findX _ _ _ h
end
section
/-! what is owed -/
/-- both hold the same clues and marks, and the lists of all loops -/
def i_Rel (k : Nat) (u : SX) (v : SY) : Prop := ∃ c m : Nat → Int32, u = (nI 213, c, m, sl_f sl_TE, sl_f sl_TC) ∧ v = (nI 213, sl_f sl_TL, c, m)
theorem i_up {k : Nat} {u : SX} {v : SY} (h : i_Rel k u v) : i_Rel (k + 4) u v := h
theorem i_vc0 : wpX_init (fun u => wpY_init (fun v => i_Rel 0 u v)) := sl_initX _ (sl_initY _ ⟨_, _, rfl, rfl⟩)
theorem sl_3 (x : Int32) : x ≤ 2 ↔ x < 3 := by
  rw [Int32.le_iff_toInt_le, Int32.lt_iff_toInt_lt]
  have h2 : (2 : Int32).toInt = 2 := by decide
  have h3 : (3 : Int32).toInt = 3 := by decide
  omega
theorem sl_24 (x : Int32) : x ≤ 23 ↔ ¬ 24 ≤ x := by
  rw [Int32.le_iff_toInt_le, Int32.le_iff_toInt_le]
  have h2 : (23 : Int32).toInt = 23 := by decide
  have h3 : (24 : Int32).toInt = 24 := by decide
  omega
theorem sl_ofLt {x : Int32} {n : Nat} (h0 : ¬ x < 0) (h : ¬ nI n ≤ x) (hn : n < 2 ^ 31) : ∃ j, j < n ∧ x = nI j := by
  obtain ⟨j, hj, rfl⟩ := nI_of h0
  refine ⟨j, ?_, rfl⟩
  rcases Nat.lt_or_ge j n with z | z
  · exact z
  · exact absurd (nI_le z hj) h
theorem i_vc_clue {k : Nat} {u : SX} {v : SY} (I : i_Rel k u v) (hk : k + 4 ≤ 2048) (v1 : Int32) (v2 : Int32) (v3 : Int32) : wpX_clue (fun r u' => wpY_clue (fun r' v' => r' = r ∧ i_Rel (k + 4) u' v') v v1 v2 v3) u v1 v2 v3 := by
  obtain ⟨c, m, rfl, rfl⟩ := I
  have J : i_Rel (k + 4) (nI 213, c, m, sl_f sl_TE, sl_f sl_TC) (nI 213, sl_f sl_TL, c, m) := ⟨c, m, rfl, rfl⟩
  by_cases h1 : v1 < 0
  · exact br_t h1 (br_t h1 ⟨rfl, J⟩)
  by_cases h2 : 3 ≤ v1
  · have h2' : 2 < v1 := Int32.not_le.mp (fun w => Int32.not_lt.mpr h2 ((sl_3 v1).mp w))
    exact br_f h1 (br_t h2 (br_f h1 (br_t h2' ⟨rfl, J⟩)))
  have h2' : ¬ 2 < v1 := fun w => h2 (Int32.not_lt.mp (fun z => Int32.not_le.mpr w ((sl_3 v1).mpr z)))
  by_cases h3 : v2 < 0
  · exact br_f h1 (br_f h2 (br_t h3 (br_f h1 (br_f h2' (br_t h3 ⟨rfl, J⟩)))))
  by_cases h4 : v2 < 3
  · have h4' : v2 ≤ 2 := (sl_3 v2).mpr h4
    by_cases h5 : v3 < 0
    · exact br_f h1 (br_f h2 (br_f h3 (br_t h4 (br_t h5 (br_f h1 (br_f h2' (br_f h3 (br_t h4' (br_t h5 ⟨rfl, J⟩)))))))))
    by_cases h6 : v3 ≤ 5
    · obtain ⟨a, ha, rfl⟩ := sl_ofLt (n := 3) h1 h2 (by decide)
      obtain ⟨b, hb, rfl⟩ := sl_ofLt (n := 3) h3 (Int32.not_le.mpr h4) (by decide)
      have e : nI a * 3 + nI b = nI (a * 3 + b) := by
        rw [← nI_add, ← pk_mul]
        rfl
      have hv : vp_in (nI a * 3 + nI b) 9 := by
        rw [e]
        exact vp_in_nI (by omega) (by decide)
      refine br_f h1 (br_f h2 (br_f h3 (br_t h4 (br_f h5 (br_t h6 (nm_e ⟨hv, nm_e ⟨hv, nm_e ?_⟩⟩))))))
      exact br_f h1 (br_f h2' (br_f h3 (br_t h4' (br_f h5 (br_t h6 ⟨hv, nm_e ⟨hv, nm_e ⟨rfl, ⟨_, _, rfl, rfl⟩⟩⟩⟩)))))
    · exact br_f h1 (br_f h2 (br_f h3 (br_t h4 (br_f h5 (br_f h6 (br_f h1 (br_f h2' (br_f h3 (br_t h4' (br_f h5 (br_f h6 ⟨rfl, J⟩)))))))))))
  · have h4' : ¬ v2 ≤ 2 := fun w => h4 ((sl_3 v2).mp w)
    exact br_f h1 (br_f h2 (br_f h3 (br_f h4 (br_f h1 (br_f h2' (br_f h3 (br_f h4' ⟨rfl, J⟩)))))))
/-- the component's test of an edge -/
theorem sl_isEdge {A B : Prop} (x : Int32) (f : x < 0 ∨ (¬ x < 0 ∧ ¬ x ≤ 23) → A) (g : ∀ e, e < 24 → x = nI e → B) : wpX_isEdge (fun r => (r = 0 → A) ∧ (¬ r = 0 → B)) x := by
  by_cases h1 : x < 0
  · exact br_t h1 (br_t rfl (f (Or.inl h1)))
  by_cases h2 : 24 ≤ x
  · exact br_f h1 (br_t h2 (br_t rfl (f (Or.inr ⟨h1, fun w => (sl_24 x).mp w h2⟩))))
  · obtain ⟨e, he, rfl⟩ := sl_ofLt (n := 24) h1 h2 (by decide)
    exact br_f h1 (br_f h2 (br_f (by decide) (g e he rfl)))
/-- the reference's -/
theorem sl_edgeY0 {A B C : Prop} {x : Int32} (h : x < 0 ∨ (¬ x < 0 ∧ ¬ x ≤ 23)) (a : A) (c : C) : (x < 0 → A) ∧ (¬ x < 0 → ((x ≤ 23 → B) ∧ (¬ x ≤ 23 → C))) := by
  rcases h with h | ⟨h1, h2⟩
  · exact br_t h a
  · exact br_f h1 (br_f h2 c)
theorem sl_edgeY1 {A B C : Prop} {e : Nat} (he : e < 24) (b : B) : (nI e < 0 → A) ∧ (¬ nI e < 0 → ((nI e ≤ 23 → B) ∧ (¬ nI e ≤ 23 → C))) := br_f (nI_pos (by omega)) (br_t (show nI e ≤ (23 : Int32) from nI_le (b := 23) (by omega) (by decide)) b)
theorem i_vc_mark {k : Nat} {u : SX} {v : SY} (I : i_Rel k u v) (hk : k + 4 ≤ 2048) (v1 : Int32) (v2 : Int32) : wpX_mark (fun r u' => wpY_mark (fun r' v' => r' = r ∧ i_Rel (k + 4) u' v') v v1 v2) u v1 v2 := by
  obtain ⟨c, m, rfl, rfl⟩ := I
  have J : i_Rel (k + 4) (nI 213, c, m, sl_f sl_TE, sl_f sl_TC) (nI 213, sl_f sl_TL, c, m) := ⟨c, m, rfl, rfl⟩
  refine sl_isEdge v1 (fun h => ?_) (fun e he hx => ?_)
  · exact sl_edgeY0 h ⟨rfl, J⟩ ⟨rfl, J⟩
  · subst hx
    have hv : vp_in (nI e) 24 := vp_in_nI he (by decide)
    refine br_c (fun h5 => ?_) (fun h5 => br_c (fun h6 => ⟨hv, nm_e ⟨hv, nm_e ?_⟩⟩) (fun h6 => ?_))
    · exact sl_edgeY1 he (br_t h5 ⟨rfl, J⟩)
    · exact sl_edgeY1 he (br_f h5 (br_t h6 ⟨hv, nm_e ⟨hv, nm_e ⟨rfl, ⟨_, _, rfl, rfl⟩⟩⟩⟩))
    · exact sl_edgeY1 he (br_f h5 (br_f h6 ⟨rfl, J⟩))
theorem i_vc_clear {k : Nat} {u : SX} {v : SY} (I : i_Rel k u v) (hk : k + 4 ≤ 2048) : wpX_clear (fun u' => wpY_clear (fun v' => i_Rel (k + 4) u' v') v) u := by
  obtain ⟨c, m, rfl, rfl⟩ := I
  refine sl_takeX _ _ _ _ _ _ ?_
  exact sl_clearY _ _ _ _ _ ⟨_, _, rfl, rfl⟩
theorem i_vc_solutions {k : Nat} {u : SX} {v : SY} (I : i_Rel k u v) (hk : k + 4 ≤ 2048) : wpX_solutions (fun r => wpY_solutions (fun r' => r' = r ∧ i_Rel (k + 4) u v) v) u := by
  obtain ⟨c, m, rfl, rfl⟩ := I
  exact ⟨214, sl_solXL _ c m _ 213 0 0 rfl ⟨214, sl_solYL _ c m 213 0 0 rfl ⟨rfl, ⟨c, m, rfl, rfl⟩⟩⟩⟩
theorem i_vc_votes {k : Nat} {u : SX} {v : SY} (I : i_Rel k u v) (hk : k + 4 ≤ 2048) (v1 : Int32) : wpX_votes (fun r => wpY_votes (fun r' => r' = r ∧ i_Rel (k + 4) u v) v v1) u v1 := by
  obtain ⟨c, m, rfl, rfl⟩ := I
  have J : i_Rel (k + 4) (nI 213, c, m, sl_f sl_TE, sl_f sl_TC) (nI 213, sl_f sl_TL, c, m) := ⟨c, m, rfl, rfl⟩
  refine sl_isEdge v1 (fun h => ?_) (fun e he hx => ?_)
  · exact sl_edgeY0 h ⟨rfl, J⟩ ⟨rfl, J⟩
  · subst hx
    exact ⟨214, sl_votXL _ c m _ e he 213 0 0 rfl (sl_votY _ c m e he ⟨rfl, J⟩)⟩
theorem i_vc_chosen {k : Nat} {u : SX} {v : SY} (I : i_Rel k u v) (hk : k + 4 ≤ 2048) (v1 : Int32) (v2 : Int32) : wpX_chosen (fun r => wpY_chosen (fun r' => r' = r ∧ i_Rel (k + 4) u v) v v1 v2) u v1 v2 := by
  obtain ⟨c, m, rfl, rfl⟩ := I
  have J : i_Rel (k + 4) (nI 213, c, m, sl_f sl_TE, sl_f sl_TC) (nI 213, sl_f sl_TL, c, m) := ⟨c, m, rfl, rfl⟩
  refine sl_loopC v1 c m _ (fun hn => ?_) (fun i hi hs => ?_)
  · rcases Classical.em (v2 < 0 ∨ (¬ v2 < 0 ∧ ¬ v2 ≤ 23)) with h | h
    · exact sl_edgeY0 h ⟨rfl, J⟩ ⟨rfl, J⟩
    · have h1 : ¬ v2 < 0 := fun w => h (Or.inl w)
      have h2 : ¬ 24 ≤ v2 := fun w => h (Or.inr ⟨h1, fun z => (sl_24 v2).mp z w⟩)
      obtain ⟨e, he, rfl⟩ := sl_ofLt (n := 24) h1 h2 (by decide)
      refine sl_edgeY1 he (sl_solution _ v1 c m ?_)
      rw [hn]
      refine sl_hasY _ _ _ e he ?_
      show narrow .boolean (.int (nI (sl_t 0 (23 - e)).toNat)) = .int (nI (sl_t 0 (23 - e)).toNat) ∧ nI (sl_t 0 (23 - e)).toNat = 0 ∧ _
      rw [sl_t0]
      exact ⟨by decide, rfl, J⟩
  · refine sl_isEdge v2 (fun h => ?_) (fun e he hx => ?_)
    · exact sl_edgeY0 h ⟨rfl, J⟩ ⟨rfl, J⟩
    · subst hx
      refine ⟨vp_in_nI (by omega) (by decide), ?_⟩
      rw [show sl_f sl_TE (nI i).toNatClampNeg = nI (sl_E i) from by rw [nI_clamp (by omega)]; rfl]
      have key : ∀ b : Bool, sl_t (sl_E i) e = b → wpY_chosen (fun r' => r' = nI b.toNat ∧ i_Rel (k + 4) (nI 213, c, m, sl_f sl_TE, sl_f sl_TC) (nI 213, sl_f sl_TL, c, m)) (nI 213, sl_f sl_TL, c, m) v1 (nI e) := by
        intro b hb
        refine sl_edgeY1 he (sl_solution _ v1 c m ?_)
        rw [hs]
        refine sl_hasY _ _ _ e he ?_
        show narrow .boolean (.int (nI (sl_t (sl_L i) (23 - e)).toNat)) = .int (nI (sl_t (sl_L i) (23 - e)).toNat) ∧ nI (sl_t (sl_L i) (23 - e)).toNat = nI b.toNat ∧ _
        rw [← (sl_ok1 i hi).1 e he, hb]
        refine ⟨?_, rfl, J⟩
        cases b <;> decide
      refine sl_has _ (by omega) (sl_br _ (fun z => ?_) (fun z => ?_))
      · exact key false z
      · exact key true z
theorem i_vc_length {k : Nat} {u : SX} {v : SY} (I : i_Rel k u v) (hk : k + 4 ≤ 2048) (v1 : Int32) : wpX_length (fun r => wpY_length (fun r' => r' = r ∧ i_Rel (k + 4) u v) v v1) u v1 := by
  obtain ⟨c, m, rfl, rfl⟩ := I
  have J : i_Rel (k + 4) (nI 213, c, m, sl_f sl_TE, sl_f sl_TC) (nI 213, sl_f sl_TL, c, m) := ⟨c, m, rfl, rfl⟩
  refine sl_loopC v1 c m _ (fun hn => ?_) (fun i hi hs => ?_)
  · refine sl_solution _ v1 c m ?_
    rw [hn]
    exact sl_edges _ _ _ ⟨by decide, J⟩
  · refine ⟨vp_in_nI (by omega) (by decide), ?_⟩
    rw [show sl_f sl_TE (nI i).toNatClampNeg = nI (sl_E i) from by rw [nI_clamp (by omega)]; rfl]
    refine sl_sizeOf _ _ (sl_solution _ v1 c m ?_)
    rw [hs]
    exact sl_edges _ _ _ ⟨congrArg nI (sl_szY i hi), J⟩
theorem i_vc_inside {k : Nat} {u : SX} {v : SY} (I : i_Rel k u v) (hk : k + 4 ≤ 2048) (v1 : Int32) : wpX_inside (fun r => wpY_inside (fun r' => r' = r ∧ i_Rel (k + 4) u v) v v1) u v1 := by
  obtain ⟨c, m, rfl, rfl⟩ := I
  have J : i_Rel (k + 4) (nI 213, c, m, sl_f sl_TE, sl_f sl_TC) (nI 213, sl_f sl_TL, c, m) := ⟨c, m, rfl, rfl⟩
  refine sl_loopC v1 c m _ (fun hn => ?_) (fun i hi hs => ?_)
  · refine sl_solution _ v1 c m ?_
    rw [hn]
    exact ⟨10, sl_insL _ _ _ _ _ _ 9 0 0 rfl ⟨by decide, J⟩⟩
  · refine ⟨vp_in_nI (by omega) (by decide), ?_⟩
    rw [show sl_f sl_TC (nI i).toNatClampNeg = nI (sl_C i) from by rw [nI_clamp (by omega)]; rfl]
    refine sl_sizeOf _ _ (sl_solution _ v1 c m ?_)
    rw [hs]
    exact ⟨10, sl_insL _ _ _ _ _ _ 9 0 0 rfl ⟨congrArg nI (sl_ok1 i hi).2.2.1.symm, J⟩⟩
theorem i_vc_decided {k : Nat} {u : SX} {v : SY} (I : i_Rel k u v) (hk : k + 4 ≤ 2048) : wpX_decided (fun r => wpY_decided (fun r' => r' = r ∧ i_Rel (k + 4) u v) v) u := by
  obtain ⟨c, m, rfl, rfl⟩ := I
  exact sl_decX _ c m _ (sl_decY _ c m ⟨rfl, ⟨c, m, rfl, rfl⟩⟩)
theorem i_vc_shortest {k : Nat} {u : SX} {v : SY} (I : i_Rel k u v) (hk : k + 4 ≤ 2048) : wpX_shortest (fun r => wpY_shortest (fun r' => r' = r ∧ i_Rel (k + 4) u v) v) u := by
  obtain ⟨c, m, rfl, rfl⟩ := I
  exact ⟨214, sl_shXL _ c m _ 213 0 0 rfl ⟨214, sl_shYL _ c m 213 0 0 rfl ⟨rfl, ⟨c, m, rfl, rfl⟩⟩⟩⟩
end
