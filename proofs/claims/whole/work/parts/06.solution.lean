/-! the tables side by side; what a solution is, on both sides -/
def sl_E (i : Nat) : Nat := sl_TE.getD i 0
def sl_C (i : Nat) : Nat := sl_TC.getD i 0
def sl_L (i : Nat) : Nat := sl_TL.getD i 0
/-- edges around a cell: the component's count, the reference's -/
def sl_kx (s i : Nat) : Nat := sl_cnt (sl_t (s &&& sl_eo i)) 24 0 0
def sl_ky (s i : Nat) : Nat := (sl_t s (23 - i)).toNat + (sl_t s (23 - (i + 3))).toNat + (sl_t s (23 - (12 + i / 3 * 4 + i % 3))).toNat + (sl_t s (23 - (13 + i / 3 * 4 + i % 3))).toNat
/-- the reference's crossings of a row -/
def sl_cr (s r : Nat) : Nat → Nat → Bool → Bool
  | 0, _, b => b
  | d + 1, k, b => sl_cr s r d (k + 1) (b ^^ sl_t s (23 - (12 + r * 4 + k)))
def sl_ins (s : Nat) : Nat → Nat → Nat → Nat
  | 0, _, a => a
  | d + 1, i, a => sl_ins s d (i + 1) (a + (sl_cr s (i / 3) (i % 3 + 1) 0 false).toNat)
def sl_ok (e l c : Nat) : Bool := (List.range 24).all (fun i => sl_t e i == sl_t l (23 - i)) && ((List.range 9).all (fun i => Nat.beq (sl_kx e i) (sl_ky l i)) && (Nat.beq (sl_cnt (sl_t c) 24 0 0) (sl_ins l 9 0 0) && (List.range 24).any (fun i => sl_t e i)))
theorem sl_okT : (List.range 213).all (fun i => sl_ok (sl_E i) (sl_L i) (sl_C i)) = true := by decide +kernel
theorem sl_ok1 (i : Nat) (hi : i < 213) : (∀ e, e < 24 → sl_t (sl_E i) e = sl_t (sl_L i) (23 - e)) ∧ (∀ k, k < 9 → sl_kx (sl_E i) k = sl_ky (sl_L i) k) ∧ sl_cnt (sl_t (sl_C i)) 24 0 0 = sl_ins (sl_L i) 9 0 0 ∧ ∃ e, e < 24 ∧ sl_t (sl_E i) e = true := by
  have h := List.all_eq_true.mp sl_okT i (List.mem_range.mpr hi)
  unfold sl_ok at h
  rw [Bool.and_eq_true, Bool.and_eq_true, Bool.and_eq_true] at h
  obtain ⟨h1, h2, h3, h4⟩ := h
  refine ⟨fun e he => ?_, fun k hk => ?_, Nat.eq_of_beq_eq_true h3, ?_⟩
  · exact eq_of_beq (List.all_eq_true.mp h1 e (List.mem_range.mpr he))
  · exact Nat.eq_of_beq_eq_true (List.all_eq_true.mp h2 k (List.mem_range.mpr hk))
  · obtain ⟨e, he, ht⟩ := List.any_eq_true.mp h4
    exact ⟨e, List.mem_range.mp he, ht⟩
theorem sl_szL (post : Int32 → Prop) (s : Nat) : ∀ d i a, i + d = 24 → post (nI (sl_cnt (sl_t s) d i a)) → wX_sizeOf_4 post (nI s) (d + 1) (nI a) (nI i) := by
  intro d
  induction d with
  | zero =>
    intro i a hi h
    exact br_t (show (24 : Int32) ≤ nI i from nI_le (a := 24) (by omega) (by omega)) h
  | succ d ih =>
    intro i a hi h
    refine br_f (show ¬ (24 : Int32) ≤ nI i from nI_ge (b := 24) (by omega) (by decide)) ?_
    refine nm_r (e' := nI (a + (sl_t s i).toNat)) (by rw [sl_bit s (by omega), nI_add]) ?_
    exact nm_r (nI_1 i) (ih (i + 1) _ (by omega) h)
theorem sl_sizeOf (post : Int32 → Prop) (s : Nat) (h : post (nI (sl_cnt (sl_t s) 24 0 0))) : wpX_sizeOf post (nI s) := ⟨25, sl_szL post s 24 0 0 rfl h⟩
theorem sl_hasY (post : Int32 → Prop) (v : SY) (s e : Nat) (he : e < 24) (h : post (nI (sl_t s (23 - e)).toNat)) : wpY_has post v (nI s) (nI e) := by
  obtain ⟨f, a1, a2, a3⟩ := v
  unfold wpY_has
  dsimp only
  rw [show (23 : Int32) - nI e = nI (23 - e) from pk_sub (a := 23) (by omega), sl_bit s (by omega)]
  revert h
  cases sl_t s (23 - e)
  · exact fun h => br_f (by decide) h
  · exact fun h => br_t rfl h
theorem sl_edL (post : Int32 → Prop) (s : Nat) (f : Int32) (a1 a2 a3 : Nat → Int32) : ∀ d i a, i + d = 24 → post (nI (sl_cnt (fun e => sl_t s (23 - e)) d i a)) → wY_edges_4 post (nI s) f a1 a2 a3 (d + 1) (nI a) (nI i) := by
  intro d
  induction d with
  | zero =>
    intro i a hi h
    exact br_t (show (24 : Int32) ≤ nI i from nI_le (a := 24) (by omega) (by omega)) h
  | succ d ih =>
    intro i a hi h
    refine br_f (show ¬ (24 : Int32) ≤ nI i from nI_ge (b := 24) (by omega) (by decide)) ?_
    have ih' := ih (i + 1) _ (by omega) h
    dsimp only at ih'
    refine sl_hasY _ _ s i (by omega) (sl_br _ (fun z => ?_) (fun z => ?_))
    · rw [z] at ih'
      exact nm_r (nI_1 i) ih'
    · rw [z] at ih'
      exact nm_r (nI_1 a) (nm_r (nI_1 i) ih')
theorem sl_edges (post : Int32 → Prop) (v : SY) (s : Nat) (h : post (nI (sl_cnt (fun e => sl_t s (23 - e)) 24 0 0))) : wpY_edges post v (nI s) := by
  obtain ⟨f, a1, a2, a3⟩ := v
  exact ⟨25, sl_edL post s f a1 a2 a3 24 0 0 rfl h⟩
/-! marks -/
def sl_mk (m : Nat → Int32) (b : Nat → Bool) : Nat → Nat → Bool
  | 0, _ => true
  | d + 1, i => bif b i then (bif decide (m i = 2) then false else sl_mk m b d (i + 1)) else (bif decide (m i = 1) then false else sl_mk m b d (i + 1))
theorem sl_mk_congr (m : Nat → Int32) {p q : Nat → Bool} : ∀ d i, (∀ j, i ≤ j → j < i + d → p j = q j) → sl_mk m p d i = sl_mk m q d i := by
  intro d
  induction d with
  | zero => intro i h; rfl
  | succ d ih =>
    intro i h
    unfold sl_mk
    rw [h i (Nat.le_refl _) (by omega), ih (i + 1) (fun j h1 h2 => h j (by omega) (by omega))]
theorem sl_mkX (post : Int32 → Prop) (s : Nat) (f : Int32) (c m a3 a4 : Nat → Int32) : ∀ d i, i + d = 24 → post (nI (sl_mk m (sl_t s) d i).toNat) → wX_marksHold_2 post (nI s) f c m a3 a4 (d + 1) (nI i) := by
  intro d
  induction d with
  | zero =>
    intro i hi h
    exact br_t (show (24 : Int32) ≤ nI i from nI_le (a := 24) (by omega) (by omega)) h
  | succ d ih =>
    intro i hi h
    refine br_f (show ¬ (24 : Int32) ≤ nI i from nI_ge (b := 24) (by omega) (by decide)) ?_
    have hv : vp_in (nI i) 24 := vp_in_nI (by omega) (by decide)
    have hc : (nI i).toNatClampNeg = i := nI_clamp (by omega)
    unfold sl_mk at h
    refine sl_has s (by omega) (sl_br _ (fun z => ?_) (fun z => ?_))
    · rw [z, cond_false] at h
      refine ⟨hv, br_c (fun q => ?_) (fun q => nm_r (nI_1 i) (ih (i + 1) (by omega) ?_))⟩
      · rw [hc] at q
        rw [decide_eq_true q] at h
        exact h
      · rw [hc] at q
        rw [decide_eq_false q] at h
        exact h
    · rw [z, cond_true] at h
      refine ⟨hv, br_c (fun q => ?_) (fun q => nm_r (nI_1 i) (ih (i + 1) (by omega) ?_))⟩
      · rw [hc] at q
        rw [decide_eq_true q] at h
        exact h
      · rw [hc] at q
        rw [decide_eq_false q] at h
        exact h
theorem sl_marksHold (post : Int32 → Prop) (s : Nat) (f : Int32) (c m a3 a4 : Nat → Int32) (h : post (nI (sl_mk m (sl_t s) 24 0).toNat)) : wpX_marksHold post (f, c, m, a3, a4) (nI s) := ⟨25, sl_mkX post s f c m a3 a4 24 0 rfl h⟩
theorem sl_y29 (post : Int32 → Prop) (J : Int32 → Prop) (x1 : Int32) (i : Nat) (hi : i < 24) (b : Bool) (f : Int32) (a1 c m : Nat → Int32) (h1 : m i = 2 → b = true → post 0) (h2 : ¬ (m i = 2 ∧ b = true) → J (nI (i + 1))) : wY_holds_29 post J x1 (nI i) (nI b.toNat) f a1 c m := by
  have hc : (nI i).toNatClampNeg = i := nI_clamp (by omega)
  refine ⟨vp_in_nI hi (by decide), br_c (fun q => sl_br b (fun z => ?_) (fun z => ?_)) (fun q => ?_)⟩
  · exact nm_r (nI_1 i) (h2 (fun w => by rw [z] at w; exact absurd w.2 (by decide)))
  · rw [hc] at q
    exact h1 q z
  · rw [hc] at q
    exact nm_r (nI_1 i) (h2 (fun w => q w.1))
theorem sl_mkY (post : Int32 → Prop) (s : Nat) (f : Int32) (a1 c m : Nat → Int32) (k : Bool) (hk : post (nI k.toNat) → ∃ n, wY_holds_53 post (nI s) f a1 c m n 0) : ∀ d i, i + d = 24 → post (nI (sl_mk m (fun e => sl_t s (23 - e)) d i && k).toNat) → wY_holds_2 post (nI s) f a1 c m (d + 1) (nI i) := by
  intro d
  induction d with
  | zero =>
    intro i hi h
    have h' : post (nI (true && k).toNat) := h
    rw [Bool.true_and] at h'
    exact br_t (show (24 : Int32) ≤ nI i from nI_le (a := 24) (by omega) (by omega)) (hk h')
  | succ d ih =>
    intro i hi h
    refine br_f (show ¬ (24 : Int32) ≤ nI i from nI_ge (b := 24) (by omega) (by decide)) ?_
    have hv : vp_in (nI i) 24 := vp_in_nI (by omega) (by decide)
    have hc : (nI i).toNatClampNeg = i := nI_clamp (by omega)
    unfold sl_mk at h
    refine sl_hasY _ _ s i (by omega) ⟨hv, ?_⟩
    rw [hc]
    cases z : sl_t s (23 - i)
    · rw [z, cond_false] at h
      refine br_c (fun q => ?_) (fun q => ?_)
      · rw [decide_eq_true q] at h
        exact br_t rfl h
      · rw [decide_eq_false q] at h
        exact sl_y29 post _ _ i (by omega) false f a1 c m (fun _ w => absurd w (by decide)) (fun _ => ih (i + 1) (by omega) h)
    · rw [z, cond_true] at h
      have g : wY_holds_29 post (wY_holds_2 post (nI s) f a1 c m (d + 1)) (nI s) (nI i) (nI (true).toNat) f a1 c m := by
        refine sl_y29 post _ _ i (by omega) true f a1 c m (fun q _ => ?_) (fun w => ih (i + 1) (by omega) ?_)
        · rw [decide_eq_true q] at h
          exact h
        · rw [decide_eq_false (fun q => w ⟨q, rfl⟩)] at h
          exact h
      exact br_c (fun q => br_f (by decide) g) (fun q => g)
/-! clues -/
def sl_ck (c : Nat → Int32) (k : Nat → Nat) : Nat → Nat → Bool
  | 0, _ => true
  | d + 1, i => bif decide (c i = 5) then sl_ck c k d (i + 1) else (bif decide (c i = nI (k i)) then sl_ck c k d (i + 1) else false)
theorem sl_ck_congr (c : Nat → Int32) {p q : Nat → Nat} : ∀ d i, (∀ j, i ≤ j → j < i + d → p j = q j) → sl_ck c p d i = sl_ck c q d i := by
  intro d
  induction d with
  | zero => intro i h; rfl
  | succ d ih =>
    intro i h
    unfold sl_ck
    rw [h i (Nat.le_refl _) (by omega), ih (i + 1) (fun j h1 h2 => h j (by omega) (by omega))]
theorem sl_ckX (post : Int32 → Prop) (s : Nat) (f : Int32) (c m a3 a4 : Nat → Int32) : ∀ d i, i + d = 9 → post (nI (sl_ck c (sl_kx s) d i).toNat) → wX_cluesHold_2 post (nI s) f c m a3 a4 (d + 1) (nI i) := by
  intro d
  induction d with
  | zero =>
    intro i hi h
    exact br_t (show (9 : Int32) ≤ nI i from nI_le (a := 9) (by omega) (by omega)) h
  | succ d ih =>
    intro i hi h
    refine br_f (show ¬ (9 : Int32) ≤ nI i from nI_ge (b := 9) (by omega) (by decide)) ?_
    have hv : vp_in (nI i) 9 := vp_in_nI (by omega) (by decide)
    have hc : (nI i).toNatClampNeg = i := nI_clamp (by omega)
    unfold sl_ck at h
    refine ⟨hv, br_c (fun q => nm_r (nI_1 i) (ih (i + 1) (by omega) ?_)) (fun q => ?_)⟩
    · rw [hc] at q
      rw [decide_eq_true q] at h
      exact h
    · rw [hc] at q
      rw [decide_eq_false q, cond_false] at h
      refine sl_edgesOf _ i (by omega) (nm_r (sl_and s (sl_eo i)) (sl_sizeOf _ _ ⟨hv, ?_⟩))
      rw [hc]
      refine br_c (fun w => nm_r (nI_1 i) (ih (i + 1) (by omega) ?_)) (fun w => ?_)
      · rw [decide_eq_true (show c i = nI (sl_kx s i) from w.symm)] at h
        exact h
      · rw [decide_eq_false (show ¬ c i = nI (sl_kx s i) from fun y => w y.symm)] at h
        exact h
theorem sl_cluesHold (post : Int32 → Prop) (s : Nat) (f : Int32) (c m a3 a4 : Nat → Int32) (h : post (nI (sl_ck c (sl_kx s) 9 0).toNat)) : wpX_cluesHold post (f, c, m, a3, a4) (nI s) := ⟨10, sl_ckX post s f c m a3 a4 9 0 rfl h⟩
theorem sl_kT : ∀ i, i < 9 → (12 + (nI i / 3) * 4) + (nI i - nI i / 3 * 3) = nI (12 + i / 3 * 4 + i % 3) ∧ (13 + (nI i / 3) * 4) + (nI i - nI i / 3 * 3) = nI (13 + i / 3 * 4 + i % 3) := by decide +kernel
theorem sl_y160 (post : Int32 → Prop) (J : Int32 → Prop) (x1 : Int32) (i n : Nat) (hi : i < 9) (f : Int32) (a1 c m : Nat → Int32) (h1 : c i = 5 → J (nI (i + 1))) (h2 : ¬ c i = 5 → c i = nI n → J (nI (i + 1))) (h3 : ¬ c i = 5 → ¬ c i = nI n → post 0) : wY_holds_160 post J x1 (nI i) (nI n) f a1 c m := by
  have hv : vp_in (nI i) 9 := vp_in_nI (by omega) (by decide)
  have hc : (nI i).toNatClampNeg = i := nI_clamp (by omega)
  unfold wY_holds_160
  rw [hc]
  exact ⟨hv, br_c (fun q => nm_r (nI_1 i) (h1 q)) (fun q => ⟨hv, br_c (fun w => nm_r (nI_1 i) (h2 q w)) (fun w => h3 q w)⟩)⟩
theorem sl_y132 (post : Int32 → Prop) (J : Int32 → Prop) (s i n : Nat) (hi : i < 9) (f : Int32) (a1 c m : Nat → Int32) (h : wY_holds_160 post J (nI s) (nI i) (nI (n + (sl_t s (23 - (13 + i / 3 * 4 + i % 3))).toNat)) f a1 c m) : wY_holds_132 post J (nI s) (nI i) (nI i / 3) (nI i - nI i / 3 * 3) (nI n) f a1 c m := by
  unfold wY_holds_132
  rw [(sl_kT i hi).2]
  refine sl_hasY _ _ s _ (by omega) (sl_br _ (fun z => ?_) (fun z => ?_))
  · rw [z] at h
    exact h
  · rw [z] at h
    rw [nI_1]
    exact h
theorem sl_y104 (post : Int32 → Prop) (J : Int32 → Prop) (s i n : Nat) (hi : i < 9) (f : Int32) (a1 c m : Nat → Int32) (h : wY_holds_132 post J (nI s) (nI i) (nI i / 3) (nI i - nI i / 3 * 3) (nI (n + (sl_t s (23 - (12 + i / 3 * 4 + i % 3))).toNat)) f a1 c m) : wY_holds_104 post J (nI s) (nI i) (nI i / 3) (nI i - nI i / 3 * 3) (nI n) f a1 c m := by
  unfold wY_holds_104
  rw [(sl_kT i hi).1]
  refine sl_hasY _ _ s _ (by omega) (sl_br _ (fun z => ?_) (fun z => ?_))
  · rw [z] at h
    exact h
  · rw [z] at h
    rw [nI_1]
    exact h
theorem sl_y82 (post : Int32 → Prop) (J : Int32 → Prop) (s i n : Nat) (hi : i < 9) (f : Int32) (a1 c m : Nat → Int32) (h : wY_holds_104 post J (nI s) (nI i) (nI i / 3) (nI i - nI i / 3 * 3) (nI (n + (sl_t s (23 - (i + 3))).toNat)) f a1 c m) : wY_holds_82 post J (nI s) (nI i) (nI i / 3) (nI i - nI i / 3 * 3) (nI n) f a1 c m := by
  unfold wY_holds_82
  rw [show nI i + 3 = nI (i + 3) from nI_add i 3]
  refine sl_hasY _ _ s _ (by omega) (sl_br _ (fun z => ?_) (fun z => ?_))
  · rw [z] at h
    exact h
  · rw [z] at h
    rw [nI_1]
    exact h
theorem sl_ckY (post : Int32 → Prop) (s : Nat) (f : Int32) (a1 c m : Nat → Int32) : ∀ d i, i + d = 9 → post (nI (sl_ck c (sl_ky s) d i).toNat) → wY_holds_53 post (nI s) f a1 c m (d + 1) (nI i) := by
  intro d
  induction d with
  | zero =>
    intro i hi h
    exact br_t (show (9 : Int32) ≤ nI i from nI_le (a := 9) (by omega) (by omega)) h
  | succ d ih =>
    intro i hi h
    refine br_f (show ¬ (9 : Int32) ≤ nI i from nI_ge (b := 9) (by omega) (by decide)) ?_
    refine ⟨by decide, nm_e ⟨by decide, nm_e ?_⟩⟩
    have g : wY_holds_82 post (wY_holds_53 post (nI s) f a1 c m (d + 1)) (nI s) (nI i) (nI i / 3) (nI i - nI i / 3 * 3) (nI (sl_t s (23 - i)).toNat) f a1 c m := by
      refine sl_y82 post _ s i _ (by omega) f a1 c m (sl_y104 post _ s i _ (by omega) f a1 c m (sl_y132 post _ s i _ (by omega) f a1 c m ?_))
      show wY_holds_160 post _ (nI s) (nI i) (nI (sl_ky s i)) f a1 c m
      unfold sl_ck at h
      refine sl_y160 post _ _ i _ (by omega) f a1 c m (fun q => ih (i + 1) (by omega) ?_) (fun q w => ih (i + 1) (by omega) ?_) (fun q w => ?_)
      · rw [decide_eq_true q] at h
        exact h
      · rw [decide_eq_false q, cond_false, decide_eq_true w] at h
        exact h
      · rw [decide_eq_false q, cond_false, decide_eq_false w] at h
        exact h
    refine sl_hasY _ _ s i (by omega) ?_
    revert g
    cases sl_t s (23 - i)
    · exact fun g => br_t rfl g
    · exact fun g => br_f (by decide) g
/-! a solution -/
def sl_S (c m : Nat → Int32) (i : Nat) : Bool := sl_mk m (sl_t (sl_E i)) 24 0 && sl_ck c (sl_kx (sl_E i)) 9 0
theorem sl_isSol (post : Int32 → Prop) (f : Int32) (c m a4 : Nat → Int32) (i : Nat) (hi : i < 512) (h : post (nI (sl_S c m i).toNat)) : wpX_isSolution post (f, c, m, sl_f sl_TE, a4) (nI i) := by
  refine ⟨vp_in_nI hi (by decide), nm_r (e' := nI (sl_E i)) (by rw [nI_clamp (by omega)]; rfl) ?_⟩
  unfold sl_S at h
  refine sl_marksHold _ _ _ _ _ _ _ (sl_br _ (fun z => ?_) (fun z => ?_))
  · rw [z] at h
    exact h
  · rw [z, Bool.true_and] at h
    refine sl_cluesHold _ _ _ _ _ _ _ (sl_br _ (fun y => ?_) (fun y => ?_))
    · rw [y] at h
      exact h
    · rw [y] at h
      exact h
theorem sl_holds (post : Int32 → Prop) (f : Int32) (a1 c m : Nat → Int32) (i : Nat) (hi : i < 213) (h : post (nI (sl_S c m i).toNat)) : wpY_holds post (f, a1, c, m) (nI (sl_L i)) := by
  obtain ⟨k1, k2, _, _⟩ := sl_ok1 i hi
  have e1 : sl_mk m (sl_t (sl_E i)) 24 0 = sl_mk m (fun e => sl_t (sl_L i) (23 - e)) 24 0 := sl_mk_congr m 24 0 (fun j _ h2 => k1 j (by omega))
  have e2 : sl_ck c (sl_kx (sl_E i)) 9 0 = sl_ck c (sl_ky (sl_L i)) 9 0 := sl_ck_congr c 9 0 (fun j _ h2 => k2 j (by omega))
  unfold sl_S at h
  rw [e1, e2] at h
  exact ⟨25, sl_mkY post _ f a1 c m _ (fun w => ⟨10, sl_ckY post _ f a1 c m 9 0 rfl w⟩) 24 0 rfl h⟩
