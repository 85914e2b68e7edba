/-! decided: the component's two sets against the reference's counts -/
def sl_aa (p : Nat → Bool) : Nat → Nat → Nat → Nat
  | 0, _, a => a
  | d + 1, i, a => sl_aa p d (i + 1) (bif p i then a &&& sl_E i else a)
def sl_oo (p : Nat → Bool) : Nat → Nat → Nat → Nat
  | 0, _, a => a
  | d + 1, i, a => sl_oo p d (i + 1) (bif p i then a ||| sl_E i else a)
/-- a, o: the sets; v e: solutions with edge e; n: solutions -/
def sl_inv (a o : Nat) (v : Nat → Nat) (n : Nat) : Prop := (∀ e, e < 24 → sl_t a e = decide (v e = n)) ∧ (∀ e, e < 24 → v e ≤ n) ∧ (∀ e, e < 24 → sl_t o e = decide (0 < v e)) ∧ (n = 0 → o = 0) ∧ (0 < n → ∃ e, e < 24 ∧ 0 < v e)
theorem sl_t_and (a b i : Nat) : sl_t (a &&& b) i = (sl_t a i && sl_t b i) := by rw [sl_t_eq, sl_t_eq, sl_t_eq, Nat.testBit_and]
theorem sl_t_or (a b i : Nat) : sl_t (a ||| b) i = (sl_t a i || sl_t b i) := by rw [sl_t_eq, sl_t_eq, sl_t_eq, Nat.testBit_or]
theorem sl_t_xor (a b i : Nat) : sl_t (a ^^^ b) i = (sl_t a i ^^ sl_t b i) := by rw [sl_t_eq, sl_t_eq, sl_t_eq, Nat.testBit_xor]
theorem sl_d1 (a n : Nat) (b : Bool) (h : a ≤ n) : (decide (a = n) && b) = decide (a + b.toNat = n + 1) := by
  cases b
  · rw [Bool.and_false, decide_eq_false (show ¬ a + false.toNat = n + 1 from fun z => by have z' : a + 0 = n + 1 := z; omega)]
  · rw [Bool.and_true]
    exact decide_eq_decide.mpr ⟨fun z => by rw [z]; rfl, fun z => by have z' : a + 1 = n + 1 := z; omega⟩
theorem sl_d2 (a : Nat) (b : Bool) : (decide (0 < a) || b) = decide (0 < a + b.toNat) := by
  cases b
  · rw [Bool.or_false]
    rfl
  · rw [Bool.or_true, decide_eq_true (show 0 < a + true.toNat from Nat.succ_pos a)]
theorem sl_inv_step (a o : Nat) (v : Nat → Nat) (n i : Nat) (hi : i < 213) (h : sl_inv a o v n) : sl_inv (a &&& sl_E i) (o ||| sl_E i) (fun e => v e + (sl_t (sl_E i) e).toNat) (n + 1) := by
  obtain ⟨h1, h2, h3, h4, h5⟩ := h
  refine ⟨fun e he => ?_, fun e he => ?_, fun e he => ?_, fun z => absurd z (by omega), fun _ => ?_⟩
  · rw [sl_t_and, h1 e he]
    exact sl_d1 _ _ _ (h2 e he)
  · have := h2 e he
    have h6 : (sl_t (sl_E i) e).toNat ≤ 1 := Bool.toNat_le _
    show v e + (sl_t (sl_E i) e).toNat ≤ n + 1
    omega
  · rw [sl_t_or, h3 e he]
    exact sl_d2 _ _
  · obtain ⟨e, he, ht⟩ := (sl_ok1 i hi).2.2.2
    refine ⟨e, he, ?_⟩
    show 0 < v e + (sl_t (sl_E i) e).toNat
    rw [ht]
    show 0 < v e + 1
    omega
theorem sl_invL (c m : Nat → Int32) : ∀ d i a o (v : Nat → Nat) n, i + d = 213 → sl_inv a o v n → sl_inv (sl_aa (sl_S c m) d i a) (sl_oo (sl_S c m) d i o) (fun e => sl_cnt (sl_V c m e) d i (v e)) (sl_cnt (sl_S c m) d i n) := by
  intro d
  induction d with
  | zero => intro i a o v n hi h; exact h
  | succ d ih =>
    intro i a o v n hi h
    unfold sl_aa sl_oo sl_cnt sl_V
    cases hs : sl_S c m i
    · have w := ih (i + 1) a o v n (by omega) h
      have e : (fun e => sl_cnt (fun i => sl_t (sl_E i) e && sl_S c m i) d (i + 1) (v e + (sl_t (sl_E i) e && false).toNat)) = fun e => sl_cnt (sl_V c m e) d (i + 1) (v e) := by
        funext e
        rw [Bool.and_false]
        rfl
      rw [e]
      exact w
    · have w := ih (i + 1) _ _ _ _ (by omega) (sl_inv_step a o v n i (by omega) h)
      have e : (fun e => sl_cnt (fun i => sl_t (sl_E i) e && sl_S c m i) d (i + 1) (v e + (sl_t (sl_E i) e && true).toNat)) = fun e => sl_cnt (sl_V c m e) d (i + 1) (v e + (sl_t (sl_E i) e).toNat) := by
        funext e
        rw [Bool.and_true]
        rfl
      rw [e]
      exact w
theorem sl_full : ∀ e, e < 24 → sl_t 16777215 e = true ∧ sl_t 4294967295 e = true := by decide +kernel
theorem sl_t0 (e : Nat) : sl_t 0 e = false := by rw [sl_t_eq, Nat.zero_testBit]
theorem sl_inv0 : sl_inv 16777215 0 (fun _ => 0) 0 := by
  refine ⟨fun e he => ?_, fun e he => Nat.le_refl _, fun e he => ?_, fun _ => rfl, fun z => absurd z (by omega)⟩
  · rw [(sl_full e he).1]
    rfl
  · rw [sl_t0]
    rfl
def sl_all (c m : Nat → Int32) : Nat := sl_cnt (sl_S c m) 213 0 0
def sl_vot (c m : Nat → Int32) (e : Nat) : Nat := sl_cnt (sl_V c m e) 213 0 0
/-- an edge is decided -/
def sl_dq (c m : Nat → Int32) (e : Nat) : Bool := !decide (sl_all c m = 0) && (decide (sl_vot c m e = 0) || decide (sl_vot c m e = sl_all c m))
theorem sl_decXL (post : Int32 → Prop) (c m a4 : Nat → Int32) : ∀ d i a o, i + d = 213 → (nI (sl_oo (sl_S c m) d i o) = 0 → post 0) → (¬ nI (sl_oo (sl_S c m) d i o) = 0 → post (nI (sl_cnt (sl_t (sl_aa (sl_S c m) d i a ||| (16777215 &&& (sl_oo (sl_S c m) d i o ^^^ 4294967295)))) 24 0 0))) → wX_decided_7 post (nI 213) c m (sl_f sl_TE) a4 (d + 1) (nI a) (nI o) (nI i) := by
  intro d
  induction d with
  | zero =>
    intro i a o hi h0 h1
    refine br_t (nI_le (by omega) (by omega)) (br_c (fun q => h0 q) (fun q => ?_))
    refine nm_r (e' := nI (16777215 &&& (o ^^^ 4294967295))) ?_ ?_
    · rw [← sl_and, ← sl_xor]
      rfl
    · rw [sl_or]
      exact sl_sizeOf _ _ (h1 q)
  | succ d ih =>
    intro i a o hi h0 h1
    have hc : sl_f sl_TE (nI i).toNatClampNeg = nI (sl_E i) := by rw [nI_clamp (by omega)]; rfl
    have hv : vp_in (nI i) 512 := vp_in_nI (by omega) (by decide)
    refine br_f (nI_ge (by omega) (by decide)) ?_
    rw [hc]
    unfold sl_aa sl_oo at h1
    unfold sl_oo at h0
    refine sl_isSol _ _ _ _ _ i (by omega) (sl_br _ (fun z => ?_) (fun z => ?_))
    · rw [z] at h0 h1
      exact nm_r (nI_1 i) (ih (i + 1) a o (by omega) h0 h1)
    · rw [z] at h0 h1
      refine ⟨hv, nm_r (sl_and a (sl_E i)) ⟨hv, nm_r (sl_or o (sl_E i)) (nm_r (nI_1 i) (ih (i + 1) _ _ (by omega) h0 h1))⟩⟩
theorem sl_decX (post : Int32 → Prop) (c m a4 : Nat → Int32) (h : post (nI (sl_cnt (sl_dq c m) 24 0 0))) : wpX_decided post (nI 213, c, m, sl_f sl_TE, a4) := by
  refine ⟨214, sl_decXL post c m a4 213 0 16777215 0 rfl ?_ ?_⟩
  all_goals
    obtain ⟨h1, h2, h3, h4, h5⟩ := sl_invL c m 213 0 16777215 0 (fun _ => 0) 0 rfl sl_inv0
    have ha : sl_cnt (sl_S c m) 213 0 0 = sl_all c m := rfl
    rw [ha] at h4 h5
    intro q
  · have hz : sl_all c m = 0 := by
      rcases Nat.eq_zero_or_pos (sl_all c m) with w | w
      · exact w
      · obtain ⟨e, he, hp⟩ := h5 w
        have h6 := h3 e he
        rw [decide_eq_true hp, sl_t_eq, ← sl_btn _ (by omega), q, b_0] at h6
        exact absurd h6 (by decide)
    have e : sl_cnt (sl_dq c m) 24 0 0 = sl_cnt (fun _ => false) 24 0 0 := by
      apply sl_cnt_congr
      intro j _ _
      unfold sl_dq
      rw [hz]
      rfl
    rw [e] at h
    exact h
  · have hz : ¬ sl_all c m = 0 := fun w => q (by rw [h4 w]; rfl)
    have e : sl_cnt (sl_dq c m) 24 0 0 = sl_cnt (sl_t (sl_aa (sl_S c m) 213 0 16777215 ||| (16777215 &&& (sl_oo (sl_S c m) 213 0 0 ^^^ 4294967295)))) 24 0 0 := by
      apply sl_cnt_congr
      intro j _ hj
      have hj' : j < 24 := by omega
      have k1 : sl_t (sl_aa (sl_S c m) 213 0 16777215) j = decide (sl_vot c m j = sl_all c m) := h1 j hj'
      have k3 : sl_t (sl_oo (sl_S c m) 213 0 0) j = decide (0 < sl_vot c m j) := h3 j hj'
      rw [sl_t_or, sl_t_and, sl_t_xor, (sl_full j hj').1, (sl_full j hj').2, k1, k3]
      unfold sl_dq
      rw [decide_eq_false hz, Bool.not_false, Bool.true_and, Bool.true_and, Bool.xor_true, Bool.or_comm]
      congr 1
      by_cases w : sl_vot c m j = 0
      · rw [decide_eq_true w, decide_eq_false (by omega)]
        rfl
      · rw [decide_eq_false w, decide_eq_true (by omega)]
        rfl
    rw [e] at h
    exact h
theorem sl_votY (post : Int32 → Prop) (c m : Nat → Int32) (e : Nat) (he : e < 24) (h : post (nI (sl_vot c m e))) : wpY_votes post (nI 213, sl_f sl_TL, c, m) (nI e) := by
  refine br_f (nI_pos (by omega)) (br_t (show nI e ≤ (23 : Int32) from nI_le (b := 23) (by omega) (by decide)) ?_)
  exact ⟨214, sl_votYL post c m e he 213 0 0 rfl h⟩
theorem sl_decYL (post : Int32 → Prop) (c m : Nat → Int32) : ∀ d e a, e + d = 24 → post (nI (sl_cnt (sl_dq c m) d e a)) → wY_decided_9 post (nI (sl_all c m)) (nI 213) (sl_f sl_TL) c m (d + 1) (nI a) (nI e) := by
  have hA : sl_all c m ≤ 213 := sl_cnt_le (sl_S c m) 213 0 0
  intro d
  induction d with
  | zero =>
    intro i a hi h
    exact br_t (show (24 : Int32) ≤ nI i from nI_le (a := 24) (by omega) (by omega)) h
  | succ d ih =>
    intro e a hi h
    have hV : sl_vot c m e ≤ 213 := sl_cnt_le (sl_V c m e) 213 0 0
    refine br_f (show ¬ (24 : Int32) ≤ nI e from nI_ge (b := 24) (by omega) (by decide)) ?_
    have ih' := ih (e + 1) _ (by omega) h
    unfold sl_dq at ih'
    refine sl_votY _ c m e (by omega) ?_
    rcases Nat.eq_zero_or_pos (sl_all c m) with w | w
    · refine br_t (by rw [w]; decide) ?_
      rw [decide_eq_true w] at ih'
      exact nm_r (nI_1 e) ih'
    · refine br_f (nI_nle w (by omega)) ?_
      rw [decide_eq_false (by omega), Bool.not_false, Bool.true_and] at ih'
      by_cases y : sl_vot c m e = 0
      · refine br_t (by rw [y]; rfl) ?_
        rw [decide_eq_true y, Bool.true_or] at ih'
        exact nm_r (nI_1 a) (nm_r (nI_1 e) ih')
      · refine br_f (nI_ne0 (by omega) (by omega)) ?_
        rw [decide_eq_false y, Bool.false_or] at ih'
        by_cases x : sl_vot c m e = sl_all c m
        · refine br_t (by rw [x]) ?_
          rw [decide_eq_true x] at ih'
          exact nm_r (nI_1 a) (nm_r (nI_1 e) ih')
        · refine br_f (fun z => x ((nI_eq (by omega) (by omega)).mp z)) ?_
          rw [decide_eq_false x] at ih'
          exact nm_r (nI_1 e) ih'
theorem sl_decY (post : Int32 → Prop) (c m : Nat → Int32) (h : post (nI (sl_cnt (sl_dq c m) 24 0 0))) : wpY_decided post (nI 213, sl_f sl_TL, c, m) := ⟨214, sl_solYL _ c m 213 0 0 rfl ⟨25, sl_decYL post c m 24 0 0 rfl h⟩⟩
