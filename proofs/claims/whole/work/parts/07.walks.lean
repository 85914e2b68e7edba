/-! the questions, each side against one pure function -/
theorem sl_cnt_le (p : Nat → Bool) : ∀ d i a, sl_cnt p d i a ≤ a + d := by
  intro d
  induction d with
  | zero => intro i a; exact Nat.le_refl _
  | succ d ih =>
    intro i a
    have h := ih (i + 1) (a + (p i).toNat)
    have h2 : (p i).toNat ≤ 1 := Bool.toNat_le _
    show sl_cnt p d (i + 1) (a + (p i).toNat) ≤ _
    omega
theorem sl_solXL (post : Int32 → Prop) (c m a4 : Nat → Int32) : ∀ d i a, i + d = 213 → post (nI (sl_cnt (sl_S c m) d i a)) → wX_solutions_4 post (nI 213) c m (sl_f sl_TE) a4 (d + 1) (nI a) (nI i) := by
  intro d
  induction d with
  | zero =>
    intro i a hi h
    exact br_t (nI_le (by omega) (by omega)) h
  | succ d ih =>
    intro i a hi h
    refine br_f (nI_ge (by omega) (by decide)) ?_
    have ih' := ih (i + 1) _ (by omega) h
    refine sl_isSol _ _ _ _ _ i (by omega) (sl_br _ (fun z => ?_) (fun z => ?_))
    · rw [z] at ih'
      exact nm_r (nI_1 i) ih'
    · rw [z] at ih'
      exact nm_r (nI_1 a) (nm_r (nI_1 i) ih')
theorem sl_solYL (post : Int32 → Prop) (c m : Nat → Int32) : ∀ d i a, i + d = 213 → post (nI (sl_cnt (sl_S c m) d i a)) → wY_solutions_4 post (nI 213) (sl_f sl_TL) c m (d + 1) (nI a) (nI i) := by
  intro d
  induction d with
  | zero =>
    intro i a hi h
    exact br_t (nI_le (by omega) (by omega)) h
  | succ d ih =>
    intro i a hi h
    have hc : sl_f sl_TL (nI i).toNatClampNeg = nI (sl_L i) := by rw [nI_clamp (by omega)]; rfl
    refine br_f (nI_ge (by omega) (by decide)) ⟨vp_in_nI (by omega) (by decide), ?_⟩
    rw [hc]
    have ih' := ih (i + 1) _ (by omega) h
    refine sl_holds _ _ _ _ _ i (by omega) (sl_br _ (fun z => ?_) (fun z => ?_))
    · rw [z] at ih'
      exact nm_r (nI_1 i) ih'
    · rw [z] at ih'
      exact nm_r (nI_1 a) (nm_r (nI_1 i) ih')
/-- solutions with edge e -/
def sl_V (c m : Nat → Int32) (e i : Nat) : Bool := sl_t (sl_E i) e && sl_S c m i
theorem sl_votXL (post : Int32 → Prop) (c m a4 : Nat → Int32) (e : Nat) (he : e < 24) : ∀ d i a, i + d = 213 → post (nI (sl_cnt (sl_V c m e) d i a)) → wX_votes_14 post (nI e) (nI 213) c m (sl_f sl_TE) a4 (d + 1) (nI a) (nI i) := by
  intro d
  induction d with
  | zero =>
    intro i a hi h
    exact br_t (nI_le (by omega) (by omega)) h
  | succ d ih =>
    intro i a hi h
    have hc : sl_f sl_TE (nI i).toNatClampNeg = nI (sl_E i) := by rw [nI_clamp (by omega)]; rfl
    refine br_f (nI_ge (by omega) (by decide)) ⟨vp_in_nI (by omega) (by decide), ?_⟩
    rw [hc]
    have ih' := ih (i + 1) _ (by omega) h
    unfold sl_V at ih'
    refine sl_has _ (by omega) (sl_br _ (fun z => ?_) (fun z => ?_))
    · rw [z] at ih'
      exact nm_r (nI_1 i) ih'
    · rw [z, Bool.true_and] at ih'
      refine sl_isSol _ _ _ _ _ i (by omega) (sl_br _ (fun y => ?_) (fun y => ?_))
      · rw [y] at ih'
        exact nm_r (nI_1 i) ih'
      · rw [y] at ih'
        exact nm_r (nI_1 a) (nm_r (nI_1 i) ih')
theorem sl_votYL (post : Int32 → Prop) (c m : Nat → Int32) (e : Nat) (he : e < 24) : ∀ d i a, i + d = 213 → post (nI (sl_cnt (sl_V c m e) d i a)) → wY_votes_17 post (nI e) (nI 213) (sl_f sl_TL) c m (d + 1) (nI a) (nI i) := by
  intro d
  induction d with
  | zero =>
    intro i a hi h
    exact br_t (nI_le (by omega) (by omega)) h
  | succ d ih =>
    intro i a hi h
    have hc : sl_f sl_TL (nI i).toNatClampNeg = nI (sl_L i) := by rw [nI_clamp (by omega)]; rfl
    have hv : vp_in (nI i) 256 := vp_in_nI (by omega) (by decide)
    refine br_f (nI_ge (by omega) (by decide)) ⟨hv, ?_⟩
    rw [hc]
    have ih' := ih (i + 1) _ (by omega) h
    unfold sl_V at ih'
    rw [(sl_ok1 i (by omega)).1 e he] at ih'
    refine sl_hasY _ _ _ e he (sl_br _ (fun z => ?_) (fun z => ?_))
    · rw [z] at ih'
      exact nm_r (nI_1 i) ih'
    · rw [z, Bool.true_and] at ih'
      refine ⟨hv, sl_holds _ _ _ _ _ i (by omega) (sl_br _ (fun y => ?_) (fun y => ?_))⟩
      · rw [y] at ih'
        exact nm_r (nI_1 i) ih'
      · rw [y] at ih'
        exact nm_r (nI_1 a) (nm_r (nI_1 i) ih')
/-! the n-th solution -/
def sl_nth (x : Int32) (p : Nat → Bool) : Nat → Nat → Nat → Option Nat
  | 0, _, _ => none
  | d + 1, i, a => bif p i then (bif decide (nI a = x) then some i else sl_nth x p d (i + 1) (a + 1)) else sl_nth x p d (i + 1) a
def sl_rX : Option Nat → Int32
  | none => -1
  | some i => nI i
def sl_rY : Option Nat → Nat
  | none => 0
  | some i => sl_L i
theorem sl_nth_lt (x : Int32) (p : Nat → Bool) : ∀ d i a j, sl_nth x p d i a = some j → j < i + d := by
  intro d
  induction d with
  | zero => intro i a j h; exact absurd h (by simp [sl_nth])
  | succ d ih =>
    intro i a j h
    unfold sl_nth at h
    cases hp : p i
    · rw [hp, cond_false] at h
      have := ih _ _ _ h
      omega
    · rw [hp, cond_true] at h
      by_cases hx : nI a = x
      · rw [decide_eq_true hx, cond_true] at h
        injection h with h
        omega
      · rw [decide_eq_false hx, cond_false] at h
        have := ih _ _ _ h
        omega
theorem sl_nthXL (post : Int32 → Prop) (x : Int32) (c m a4 : Nat → Int32) : ∀ d i a, i + d = 213 → post (sl_rX (sl_nth x (sl_S c m) d i a)) → wX_loopOfSolution_4 post x (nI 213) c m (sl_f sl_TE) a4 (d + 1) (nI a) (nI i) := by
  intro d
  induction d with
  | zero =>
    intro i a hi h
    exact br_t (nI_le (by omega) (by omega)) h
  | succ d ih =>
    intro i a hi h
    refine br_f (nI_ge (by omega) (by decide)) ?_
    unfold sl_nth at h
    refine sl_isSol _ _ _ _ _ i (by omega) (sl_br _ (fun z => ?_) (fun z => ?_))
    · rw [z, cond_false] at h
      exact nm_r (nI_1 i) (ih (i + 1) a (by omega) h)
    · rw [z, cond_true] at h
      refine br_c (fun q => ?_) (fun q => ?_)
      · rw [decide_eq_true q] at h
        exact h
      · rw [decide_eq_false q] at h
        exact nm_r (nI_1 a) (nm_r (nI_1 i) (ih (i + 1) (a + 1) (by omega) h))
theorem sl_nthYL (post : Int32 → Prop) (x : Int32) (c m : Nat → Int32) : ∀ d i a, i + d = 213 → post (nI (sl_rY (sl_nth x (sl_S c m) d i a))) → wY_solution_4 post x (nI 213) (sl_f sl_TL) c m (d + 1) (nI a) (nI i) := by
  intro d
  induction d with
  | zero =>
    intro i a hi h
    exact br_t (nI_le (by omega) (by omega)) h
  | succ d ih =>
    intro i a hi h
    have hc : sl_f sl_TL (nI i).toNatClampNeg = nI (sl_L i) := by rw [nI_clamp (by omega)]; rfl
    have hv : vp_in (nI i) 256 := vp_in_nI (by omega) (by decide)
    refine br_f (nI_ge (by omega) (by decide)) ⟨hv, ?_⟩
    rw [hc]
    unfold sl_nth at h
    refine sl_holds _ _ _ _ _ i (by omega) (sl_br _ (fun z => ?_) (fun z => ?_))
    · rw [z, cond_false] at h
      exact nm_r (nI_1 i) (ih (i + 1) a (by omega) h)
    · rw [z, cond_true] at h
      refine br_c (fun q => ⟨hv, ?_⟩) (fun q => ?_)
      · rw [decide_eq_true q] at h
        exact h
      · rw [decide_eq_false q] at h
        exact nm_r (nI_1 a) (nm_r (nI_1 i) (ih (i + 1) (a + 1) (by omega) h))
/-- the number of the n-th solution -/
def sl_N (x : Int32) (c m : Nat → Int32) : Option Nat := sl_nth x (sl_S c m) 213 0 0
theorem sl_loopOf (post : Int32 → Prop) (x : Int32) (c m a4 : Nat → Int32) (h : post (sl_rX (sl_N x c m))) : wpX_loopOfSolution post (nI 213, c, m, sl_f sl_TE, a4) x := ⟨214, sl_nthXL post x c m a4 213 0 0 rfl h⟩
theorem sl_solution (post : Int32 → Prop) (x : Int32) (c m : Nat → Int32) (h : post (nI (sl_rY (sl_N x c m)))) : wpY_solution post (nI 213, sl_f sl_TL, c, m) x := ⟨214, sl_nthYL post x c m 213 0 0 rfl h⟩
/-- a case of the n-th solution: none, or the i-th loop -/
theorem sl_loopC {A : Prop} {B : Int32 → Prop} (x : Int32) (c m a4 : Nat → Int32) (f : sl_N x c m = none → A) (g : ∀ i, i < 213 → sl_N x c m = some i → B (nI i)) : wpX_loopOfSolution (fun r => (r = (-1) → A) ∧ (¬ r = (-1) → B r)) (nI 213, c, m, sl_f sl_TE, a4) x := by
  refine sl_loopOf _ x c m a4 ?_
  cases h : sl_N x c m with
  | none => exact br_t rfl (f h)
  | some i =>
    have hi : i < 213 := by
      have := sl_nth_lt x (sl_S c m) 213 0 0 i h
      omega
    refine br_f (fun z => ?_) (g i hi h)
    have z' : nI i = -1 := z
    have w : (nI i).toInt = (-1 : Int32).toInt := by rw [z']
    rw [nI_toInt (by omega)] at w
    have w2 : (-1 : Int32).toInt = -1 := by decide
    omega
/-! the least -/
def sl_sz (i : Nat) : Nat := sl_cnt (sl_t (sl_E i)) 24 0 0
theorem sl_szY (i : Nat) (hi : i < 213) : sl_cnt (fun e => sl_t (sl_L i) (23 - e)) 24 0 0 = sl_sz i := sl_cnt_congr 24 0 0 (fun j _ h2 => ((sl_ok1 i hi).1 j (by omega)).symm)
def sl_sh (p : Nat → Bool) : Nat → Nat → Nat → Nat
  | 0, _, a => a
  | d + 1, i, a => bif p i then (bif sl_q a 0 then sl_sh p d (i + 1) (sl_sz i) else (bif decide (nI a ≤ nI (sl_sz i)) then sl_sh p d (i + 1) a else sl_sh p d (i + 1) (sl_sz i))) else sl_sh p d (i + 1) a
theorem sl_shXL (post : Int32 → Prop) (c m a4 : Nat → Int32) : ∀ d i a, i + d = 213 → post (nI (sl_sh (sl_S c m) d i a)) → wX_shortest_4 post (nI 213) c m (sl_f sl_TE) a4 (d + 1) (nI a) (nI i) := by
  intro d
  induction d with
  | zero =>
    intro i a hi h
    exact br_t (nI_le (by omega) (by omega)) h
  | succ d ih =>
    intro i a hi h
    have hc : sl_f sl_TE (nI i).toNatClampNeg = nI (sl_E i) := by rw [nI_clamp (by omega)]; rfl
    refine br_f (nI_ge (by omega) (by decide)) ?_
    rw [hc]
    unfold sl_sh at h
    refine sl_isSol _ _ _ _ _ i (by omega) (sl_br _ (fun z => ?_) (fun z => ?_))
    · rw [z, cond_false] at h
      exact nm_r (nI_1 i) (ih (i + 1) a (by omega) h)
    · rw [z, cond_true] at h
      refine ⟨vp_in_nI (by omega) (by decide), sl_sizeOf _ _ ?_⟩
      refine sl_brq a 0 (fun y => ?_) (fun y => ?_)
      · rw [y, cond_true] at h
        exact nm_r (nI_1 i) (ih (i + 1) _ (by omega) h)
      · rw [y, cond_false] at h
        refine br_c (fun w => ?_) (fun w => ?_)
        · rw [decide_eq_true (show nI a ≤ nI (sl_sz i) from w)] at h
          exact nm_r (nI_1 i) (ih (i + 1) _ (by omega) h)
        · rw [decide_eq_false (show ¬ nI a ≤ nI (sl_sz i) from w)] at h
          exact nm_r (nI_1 i) (ih (i + 1) _ (by omega) h)
theorem sl_shYL (post : Int32 → Prop) (c m : Nat → Int32) : ∀ d i a, i + d = 213 → post (nI (sl_sh (sl_S c m) d i a)) → wY_shortest_4 post (nI 213) (sl_f sl_TL) c m (d + 1) (nI a) (nI i) := by
  intro d
  induction d with
  | zero =>
    intro i a hi h
    exact br_t (nI_le (by omega) (by omega)) h
  | succ d ih =>
    intro i a hi h
    have hc : sl_f sl_TL (nI i).toNatClampNeg = nI (sl_L i) := by rw [nI_clamp (by omega)]; rfl
    have hv : vp_in (nI i) 256 := vp_in_nI (by omega) (by decide)
    refine br_f (nI_ge (by omega) (by decide)) ⟨hv, ?_⟩
    rw [hc]
    unfold sl_sh at h
    refine sl_holds _ _ _ _ _ i (by omega) (sl_br _ (fun z => ?_) (fun z => ?_))
    · rw [z, cond_false] at h
      exact nm_r (nI_1 i) (ih (i + 1) a (by omega) h)
    · rw [z, cond_true] at h
      refine ⟨hv, sl_edges _ _ _ ?_⟩
      rw [sl_szY i (by omega)]
      refine sl_brq a 0 (fun y => ?_) (fun y => ?_)
      · rw [y, cond_true] at h
        exact nm_r (nI_1 i) (ih (i + 1) _ (by omega) h)
      · rw [y, cond_false] at h
        refine br_c (fun w => ?_) (fun w => ?_)
        · rw [decide_eq_true w] at h
          exact nm_r (nI_1 i) (ih (i + 1) _ (by omega) h)
        · rw [decide_eq_false w] at h
          exact nm_r (nI_1 i) (ih (i + 1) _ (by omega) h)
/-! the cells inside, by the reference's crossings -/
theorem sl_inT : ∀ i, i < 9 → nI i - nI i / 3 * 3 = nI (i % 3) ∧ 12 + (nI i / 3) * 4 = nI (12 + i / 3 * 4) := by decide +kernel
theorem sl_crL (post : Int32 → Prop) (J : Int32 → Int32 → Prop) (s n i : Nat) (hi : i < 9) (f : Int32) (a1 a2 a3 : Nat → Int32) : ∀ d k b, k + d = i % 3 + 1 → J (nI (n + (sl_cr s (i / 3) d k b).toNat)) (nI (i + 1)) → wY_inside_24 post J (nI s) (nI n) (nI i) f a1 a2 a3 (d + 1) (nI b.toNat) (nI k) := by
  intro d
  induction d with
  | zero =>
    intro k b hk h
    refine ⟨by decide, ?_⟩
    rw [(sl_inT i hi).1]
    refine br_t (nI_lt (by omega) (by omega)) ?_
    have h' : J (nI (n + b.toNat)) (nI (i + 1)) := h
    refine sl_br b (fun z => ?_) (fun z => ?_)
    · rw [z] at h'
      exact nm_r (nI_1 i) h'
    · rw [z] at h'
      exact nm_r (nI_1 n) (nm_r (nI_1 i) h')
  | succ d ih =>
    intro k b hk h
    refine ⟨by decide, ?_⟩
    rw [(sl_inT i hi).1]
    refine br_f (nI_nlt (by omega) (by omega)) ⟨by decide, ?_⟩
    rw [(sl_inT i hi).2, nI_add]
    have ih' := ih (k + 1) _ (by omega) h
    refine sl_hasY _ _ s _ (by omega) ?_
    revert ih'
    cases b <;> cases sl_t s (23 - (12 + i / 3 * 4 + k))
    · exact fun w => br_t rfl (nm_r (nI_1 k) w)
    · exact fun w => br_f (by decide) (nm_r (nI_1 k) w)
    · exact fun w => br_f (by decide) (nm_r (nI_1 k) w)
    · exact fun w => br_t rfl (nm_r (nI_1 k) w)
theorem sl_insL (post : Int32 → Prop) (s : Nat) (f : Int32) (a1 a2 a3 : Nat → Int32) : ∀ d i a, i + d = 9 → post (nI (sl_ins s d i a)) → wY_inside_11 post (nI s) f a1 a2 a3 (d + 1) (nI a) (nI i) := by
  intro d
  induction d with
  | zero =>
    intro i a hi h
    exact br_t (show (9 : Int32) ≤ nI i from nI_le (a := 9) (by omega) (by omega)) h
  | succ d ih =>
    intro i a hi h
    refine br_f (show ¬ (9 : Int32) ≤ nI i from nI_ge (b := 9) (by omega) (by decide)) ?_
    exact ⟨i % 3 + 1 + 1, sl_crL post _ s a i (by omega) f a1 a2 a3 (i % 3 + 1) 0 false (by omega) (ih (i + 1) _ (by omega) h)⟩
