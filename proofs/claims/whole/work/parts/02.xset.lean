/-! the component's sets: cellSet, borderOf, meetInPairs, withNeighbours, isConnected -/
theorem sl_has {post : Int32 → Prop} (s : Nat) {i : Nat} (hi : i < 32) (h : post (nI (sl_t s i).toNat)) : wpX_has post (nI s) (nI i) := by
  unfold wpX_has
  rw [sl_bit s hi]
  revert h
  cases sl_t s i
  · exact fun h => br_t rfl h
  · exact fun h => br_f (by decide) h
def sl_cs (o : Nat) : Nat → Nat → Nat → Nat
  | 0, _, s => s
  | d + 1, i, s => sl_cs o d (i + 1) (bif (sl_t o (8 - i) ^^ (Nat.ble 3 i && sl_t s (i - 3))) then s ||| (1 <<< i) else s)
theorem sl_cs39 (post : Int32 → Prop) (J : Int32 → Int32 → Prop) (o s i : Nat) (hi : i < 9) (b c : Bool) (h : J (nI (bif (b ^^ c) then s ||| (1 <<< i) else s)) (nI (i + 1))) : wX_cellSet_39 post J (nI o) (nI s) (nI i) (nI b.toNat) (nI c.toNat) := by
  unfold wX_cellSet_39
  rw [nI_1, sl_one i (by omega), sl_or]
  cases b <;> cases c
  · exact br_t rfl (nm_e h)
  · exact br_f (by decide) (nm_e (nm_e h))
  · exact br_f (by decide) (nm_e (nm_e h))
  · exact br_t rfl (nm_e h)
theorem sl_csL (post : Int32 → Prop) (o : Nat) : ∀ d i s, i + d = 9 → post (nI (sl_cs o d i s)) → wX_cellSet_4 post (nI o) (d + 1) (nI s) (nI i) := by
  intro d
  induction d with
  | zero =>
    intro i s hi h
    exact br_t (show (9 : Int32) ≤ nI i from nI_le (a := 9) (by omega) (by omega)) h
  | succ d ih =>
    intro i s hi h
    refine br_f (show ¬ (9 : Int32) ≤ nI i from nI_ge (b := 9) (by omega) (by decide)) ?_
    have e8 : (8 : Int32) - nI i = nI (8 - i) := pk_sub (a := 8) (by omega)
    rw [e8]
    refine sl_has o (by omega) ?_
    have ih' := ih (i + 1) _ (by omega) h
    rcases Nat.lt_or_ge i 3 with h3 | h3
    · refine br_t (show nI i < (3 : Int32) from nI_lt (b := 3) h3 (by decide)) ?_
      have e : Nat.ble 3 i = false := by
        rw [← Bool.not_eq_true, Nat.ble_eq]; omega
      rw [e, Bool.false_and] at ih'
      exact sl_cs39 post _ o s i (by omega) (sl_t o (8 - i)) false ih'
    · refine br_f (show ¬ nI i < (3 : Int32) from nI_nlt (b := 3) h3 (by omega)) ?_
      have e : Nat.ble 3 i = true := by rw [Nat.ble_eq]; omega
      rw [e, Bool.true_and] at ih'
      have e3 : nI i - (3 : Int32) = nI (i - 3) := pk_sub (b := 3) (by omega)
      rw [e3]
      refine sl_has s (by omega) ?_
      refine sl_br _ (fun z => ?_) (fun z => ?_)
      · rw [z] at ih'
        exact sl_cs39 post _ o s i (by omega) (sl_t o (8 - i)) false ih'
      · rw [z] at ih'
        exact sl_cs39 post _ o s i (by omega) (sl_t o (8 - i)) true ih'
theorem sl_cellSet (post : Int32 → Prop) (o : Nat) (h : post (nI (sl_cs o 9 0 0))) : wpX_cellSet post (nI o) := ⟨10, sl_csL post o 9 0 0 rfl h⟩
def sl_eo (c : Nat) : Nat := 1 <<< c ||| 1 <<< (c + 3) ||| 1 <<< (12 + c / 3 * 4 + c % 3) ||| 1 <<< (13 + c / 3 * 4 + c % 3)
theorem sl_eoT : ∀ c, c < 9 → (((((1 : Int32) <<< (nI c &&& 31)) ||| ((1 : Int32) <<< ((nI c + 3) &&& 31))) ||| ((1 : Int32) <<< (((12 + ((nI c / 3) * 4)) + (nI c - nI c / 3 * 3)) &&& 31))) ||| ((1 : Int32) <<< ((((12 + ((nI c / 3) * 4)) + (nI c - nI c / 3 * 3)) + 1) &&& 31))) = nI (sl_eo c) := by decide +kernel
theorem sl_edgesOf (post : Int32 → Prop) (c : Nat) (hc : c < 9) (h : post (nI (sl_eo c))) : wpX_edgesOf post (nI c) := by
  intro x2 e2
  refine ⟨by decide, by decide, fun x3 e3 x4 e4 => ?_⟩
  subst e4 e3 e2
  rw [sl_eoT c hc]
  exact h
def sl_bo (s : Nat) : Nat → Nat → Nat → Nat
  | 0, _, a => a
  | d + 1, i, a => sl_bo s d (i + 1) (bif sl_t s i then a ^^^ sl_eo i else a)
theorem sl_boL (post : Int32 → Prop) (s : Nat) : ∀ d i a, i + d = 9 → post (nI (sl_bo s d i a)) → wX_borderOf_4 post (nI s) (d + 1) (nI a) (nI i) := by
  intro d
  induction d with
  | zero =>
    intro i a hi h
    exact br_t (show (9 : Int32) ≤ nI i from nI_le (a := 9) (by omega) (by omega)) h
  | succ d ih =>
    intro i a hi h
    refine br_f (show ¬ (9 : Int32) ≤ nI i from nI_ge (b := 9) (by omega) (by decide)) ?_
    refine sl_has s (by omega) ?_
    have ih' := ih (i + 1) _ (by omega) h
    refine sl_br _ (fun z => ?_) (fun z => ?_)
    · rw [z] at ih'
      exact nm_r (nI_1 i) ih'
    · rw [z] at ih'
      refine sl_edgesOf _ i (by omega) ?_
      exact nm_r (sl_xor a (sl_eo i)) (nm_r (nI_1 i) ih')
theorem sl_borderOf (post : Int32 → Prop) (s : Nat) (h : post (nI (sl_bo s 9 0 0))) : wpX_borderOf post (nI s) := ⟨10, sl_boL post s 9 0 0 rfl h⟩
def sl_en (e : Nat) : Nat := bif Nat.ble 12 e then 17 <<< (e - 12) else 3 <<< (e + e / 3)
theorem sl_enT1 : ∀ e, e < 24 → 12 ≤ e → (((1 : Int32) <<< ((nI e - 12) &&& 31)) ||| ((1 : Int32) <<< (((nI e - 12) + 4) &&& 31))) = nI (sl_en e) := by decide +kernel
theorem sl_enT2 : ∀ e, e < 12 → (((1 : Int32) <<< ((((nI e / 3) * 4) + (nI e - nI e / 3 * 3)) &&& 31)) ||| ((1 : Int32) <<< (((((nI e / 3) * 4) + (nI e - nI e / 3 * 3)) + 1) &&& 31))) = nI (sl_en e) := by decide +kernel
theorem sl_endsOf (post : Int32 → Prop) (e : Nat) (he : e < 24) (h : post (nI (sl_en e))) : wpX_endsOf post (nI e) := by
  rcases Nat.lt_or_ge e 12 with h1 | h1
  · refine br_f (show ¬ (12 : Int32) ≤ nI e from nI_ge (b := 12) h1 (by decide)) ⟨by decide, by decide, fun x ex => ?_⟩
    subst ex
    rw [sl_enT2 e h1]
    exact h
  · refine br_t (show (12 : Int32) ≤ nI e from nI_le (a := 12) h1 (by omega)) (fun x ex => ?_)
    subst ex
    rw [sl_enT1 e he h1]
    exact h
def sl_mp (s : Nat) : Nat → Nat → Nat → Nat → Nat → Bool
  | 0, _, a, b, c => sl_q a b && sl_q c 0
  | d + 1, i, a, b, c => bif sl_t s i then sl_mp s d (i + 1) (a ||| sl_en i) (b ||| (a &&& sl_en i)) (c ||| (b &&& sl_en i)) else sl_mp s d (i + 1) a b c
theorem sl_mpL (post : Int32 → Prop) (s : Nat) : ∀ d i a b c, i + d = 24 → post (nI (sl_mp s d i a b c).toNat) → wX_meetInPairs_9 post (nI s) (d + 1) (nI a) (nI b) (nI c) (nI i) := by
  intro d
  induction d with
  | zero =>
    intro i a b c hi h
    refine br_t (show (24 : Int32) ≤ nI i from nI_le (a := 24) (by omega) (by omega)) ?_
    have h' : post (nI (sl_q a b && sl_q c 0).toNat) := h
    refine sl_brq a b (fun z => ?_) (fun z => ?_)
    · rw [z] at h'
      refine sl_brq c 0 (fun y => ?_) (fun y => ?_)
      · rw [y] at h'
        exact h'
      · rw [y] at h'
        exact h'
    · rw [z] at h'
      exact h'
  | succ d ih =>
    intro i a b c hi h
    refine br_f (show ¬ (24 : Int32) ≤ nI i from nI_ge (b := 24) (by omega) (by decide)) ?_
    refine sl_has s (by omega) ?_
    have h' : post (nI (bif sl_t s i then sl_mp s d (i + 1) (a ||| sl_en i) (b ||| (a &&& sl_en i)) (c ||| (b &&& sl_en i)) else sl_mp s d (i + 1) a b c).toNat) := h
    refine sl_br _ (fun z => ?_) (fun z => ?_)
    · rw [z] at h'
      exact nm_r (nI_1 i) (ih (i + 1) a b c (by omega) h')
    · rw [z] at h'
      refine sl_endsOf _ i (by omega) ?_
      refine nm_r (e' := nI (c ||| (b &&& sl_en i))) (by rw [sl_and, sl_or]) ?_
      refine nm_r (e' := nI (b ||| (a &&& sl_en i))) (by rw [sl_and, sl_or]) ?_
      exact nm_r (sl_or a (sl_en i)) (nm_r (nI_1 i) (ih (i + 1) _ _ _ (by omega) h'))
theorem sl_meet (post : Int32 → Prop) (s : Nat) (h : post (nI (sl_mp s 24 0 0 0 0).toNat)) : wpX_meetInPairs post (nI s) := ⟨25, sl_mpL post s 24 0 0 0 0 rfl h⟩
def sl_pt (r : Nat) : Nat → Nat → Nat → Nat
  | 0, _, p => p
  | d + 1, i, p => sl_pt r d (i + 1) (bif sl_t r i then p ||| sl_en i else p)
def sl_wd (s p : Nat) : Nat → Nat → Nat → Nat
  | 0, _, w => w
  | d + 1, i, w => sl_wd s p d (i + 1) (bif sl_t s i then (bif sl_q (sl_en i &&& p) 0 then w else w ||| (1 <<< i)) else w)
def sl_wn (s r : Nat) : Nat := sl_wd s (sl_pt r 24 0 0) 24 0 r
theorem sl_wdL (post : Int32 → Prop) (s p : Nat) : ∀ d i w, i + d = 24 → post (nI (sl_wd s p d i w)) → wX_withNeighbours_36 post (nI s) (nI p) (d + 1) (nI w) (nI i) := by
  intro d
  induction d with
  | zero =>
    intro i w hi h
    exact br_t (show (24 : Int32) ≤ nI i from nI_le (a := 24) (by omega) (by omega)) h
  | succ d ih =>
    intro i w hi h
    refine br_f (show ¬ (24 : Int32) ≤ nI i from nI_ge (b := 24) (by omega) (by decide)) ?_
    refine sl_has s (by omega) ?_
    have ih' := ih (i + 1) _ (by omega) h
    refine sl_br _ (fun z => ?_) (fun z => ?_)
    · rw [z] at ih'
      exact nm_r (nI_1 i) ih'
    · rw [z] at ih'
      refine sl_endsOf _ i (by omega) ?_
      refine sl_brq (sl_en i &&& p) 0 (fun y => ?_) (fun y => ?_) (sl_and _ _)
      · rw [y] at ih'
        exact nm_r (nI_1 i) ih'
      · rw [y] at ih'
        refine nm_r (e' := nI (w ||| (1 <<< i))) (by rw [sl_one i (by omega), sl_or]) ?_
        exact nm_r (nI_1 i) ih'
theorem sl_ptL (post : Int32 → Prop) (s r : Nat) : ∀ d i p, i + d = 24 → post (nI (sl_wd s (sl_pt r d i p) 24 0 r)) → wX_withNeighbours_4 post (nI s) (nI r) (d + 1) (nI p) (nI i) := by
  intro d
  induction d with
  | zero =>
    intro i p hi h
    exact br_t (show (24 : Int32) ≤ nI i from nI_le (a := 24) (by omega) (by omega)) ⟨25, sl_wdL post s p 24 0 r rfl h⟩
  | succ d ih =>
    intro i p hi h
    refine br_f (show ¬ (24 : Int32) ≤ nI i from nI_ge (b := 24) (by omega) (by decide)) ?_
    refine sl_has r (by omega) ?_
    have ih' := ih (i + 1) _ (by omega) h
    refine sl_br _ (fun z => ?_) (fun z => ?_)
    · rw [z] at ih'
      exact nm_r (nI_1 i) ih'
    · rw [z] at ih'
      refine sl_endsOf _ i (by omega) ?_
      exact nm_r (sl_or p (sl_en i)) (nm_r (nI_1 i) ih')
theorem sl_with (post : Int32 → Prop) (s r : Nat) (h : post (nI (sl_wn s r))) : wpX_withNeighbours post (nI s) (nI r) := ⟨25, sl_ptL post s r 24 0 0 rfl h⟩
def sl_cn (s : Nat) : Nat → Nat → Nat
  | 0, r => r
  | d + 1, r => sl_cn s d (sl_wn s r)
theorem sl_cnL (post : Int32 → Prop) (s : Nat) : ∀ d i r, i + d = 24 → post (nI (sl_q (sl_cn s d r) s).toNat) → wX_isConnected_7 post (nI s) (d + 1) (nI r) (nI i) := by
  intro d
  induction d with
  | zero =>
    intro i r hi h
    refine br_t (show (24 : Int32) ≤ nI i from nI_le (a := 24) (by omega) (by omega)) ?_
    have h' : post (nI (sl_q r s).toNat) := h
    refine sl_brq r s (fun z => ?_) (fun z => ?_)
    · rw [z] at h'
      exact h'
    · rw [z] at h'
      exact h'
  | succ d ih =>
    intro i r hi h
    refine br_f (show ¬ (24 : Int32) ≤ nI i from nI_ge (b := 24) (by omega) (by decide)) ?_
    exact sl_with _ s r (nm_r (nI_1 i) (ih (i + 1) _ (by omega) h))
/-- the lowest bit -/
def sl_lo (s : Nat) : Nat := s &&& (4294967296 - s % 4294967296)
theorem sl_conn (post : Int32 → Prop) (s : Nat) (h : post (nI (sl_q (sl_cn s 24 (sl_lo s)) s).toNat)) : wpX_isConnected post (nI s) := by
  refine nm_r (e' := nI (sl_lo s)) (by rw [sl_neg, sl_and]; rfl) ?_
  exact ⟨25, sl_cnL post s 24 0 _ rfl h⟩
