/-! the hints taken away, and the constructors -/
theorem sl_thX23 (post : SX → Prop) (f : Int32) (c a3 a4 : Nat → Int32) : ∀ d i m, i + d = 24 → post (f, c, sl_fill 0 d i m, a3, a4) → wX_takeHintsAway_23 post f (d + 1) (nI i) c m a3 a4 := by
  intro d
  induction d with
  | zero =>
    intro i m hi h
    exact br_t (show (24 : Int32) ≤ nI i from nI_le (a := 24) (by omega) (by omega)) h
  | succ d ih =>
    intro i m hi h
    refine br_f (show ¬ (24 : Int32) ≤ nI i from nI_ge (b := 24) (by omega) (by decide)) ⟨vp_in_nI (by omega) (by decide), ?_⟩
    exact nm_r (e' := upd m i 0) (by rw [nI_clamp (by omega)]) (nm_r (nI_1 i) (ih (i + 1) _ (by omega) h))
theorem sl_thX2 (post : SX → Prop) (f : Int32) (m a3 a4 : Nat → Int32) : ∀ d i c, i + d = 9 → post (f, sl_fill 5 d i c, sl_fill 0 24 0 m, a3, a4) → wX_takeHintsAway_2 post f (d + 1) (nI i) c m a3 a4 := by
  intro d
  induction d with
  | zero =>
    intro i c hi h
    exact br_t (show (9 : Int32) ≤ nI i from nI_le (a := 9) (by omega) (by omega)) ⟨25, sl_thX23 post f c a3 a4 24 0 m rfl h⟩
  | succ d ih =>
    intro i c hi h
    refine br_f (show ¬ (9 : Int32) ≤ nI i from nI_ge (b := 9) (by omega) (by decide)) ⟨vp_in_nI (by omega) (by decide), ?_⟩
    exact nm_r (e' := upd c i 5) (by rw [nI_clamp (by omega)]) (nm_r (nI_1 i) (ih (i + 1) _ (by omega) h))
theorem sl_takeX (post : SX → Prop) (f : Int32) (c m a3 a4 : Nat → Int32) (h : post (f, sl_fill 5 9 0 c, sl_fill 0 24 0 m, a3, a4)) : wpX_takeHintsAway post (f, c, m, a3, a4) := ⟨10, sl_thX2 post f m a3 a4 9 0 c rfl h⟩
theorem sl_clY23 (post : SY → Prop) (f : Int32) (a1 c : Nat → Int32) : ∀ d i m, i + d = 24 → post (f, a1, c, sl_fill 0 d i m) → wY_clear_23 post f (d + 1) (nI i) a1 c m := by
  intro d
  induction d with
  | zero =>
    intro i m hi h
    exact br_t (show (24 : Int32) ≤ nI i from nI_le (a := 24) (by omega) (by omega)) h
  | succ d ih =>
    intro i m hi h
    refine br_f (show ¬ (24 : Int32) ≤ nI i from nI_ge (b := 24) (by omega) (by decide)) ⟨vp_in_nI (by omega) (by decide), ?_⟩
    exact nm_r (e' := upd m i 0) (by rw [nI_clamp (by omega)]) (nm_r (nI_1 i) (ih (i + 1) _ (by omega) h))
theorem sl_clY2 (post : SY → Prop) (f : Int32) (a1 m : Nat → Int32) : ∀ d i c, i + d = 9 → post (f, a1, sl_fill 5 d i c, sl_fill 0 24 0 m) → wY_clear_2 post f (d + 1) (nI i) a1 c m := by
  intro d
  induction d with
  | zero =>
    intro i c hi h
    exact br_t (show (9 : Int32) ≤ nI i from nI_le (a := 9) (by omega) (by omega)) ⟨25, sl_clY23 post f a1 c 24 0 m rfl h⟩
  | succ d ih =>
    intro i c hi h
    refine br_f (show ¬ (9 : Int32) ≤ nI i from nI_ge (b := 9) (by omega) (by decide)) ⟨vp_in_nI (by omega) (by decide), ?_⟩
    exact nm_r (e' := upd c i 5) (by rw [nI_clamp (by omega)]) (nm_r (nI_1 i) (ih (i + 1) _ (by omega) h))
theorem sl_clearY (post : SY → Prop) (f : Int32) (a1 c m : Nat → Int32) (h : post (f, a1, sl_fill 5 9 0 c, sl_fill 0 24 0 m)) : wpY_clear post (f, a1, c, m) := ⟨10, sl_clY2 post f a1 m 9 0 c rfl h⟩
theorem sl_XN : (sl_X0 ++ (sl_X1 ++ (sl_X2 ++ (sl_X3 ++ (sl_X4 ++ (sl_X5 ++ (sl_X6 ++ (sl_X7)))))))).length = 213 := by decide +kernel
theorem sl_findX (post : SX → Prop) (c m : Nat → Int32) (h : post (nI 213, c, m, sl_f sl_TE, sl_f sl_TC)) : wpX_findLoops post (0, c, m, fun _ => 0, fun _ => 0) := by
  have w := sl_flL post c m 512 0 [] rfl (by decide)
  rw [List.nil_append, sl_XA0, sl_XE, sl_XC, sl_XN] at w
  exact ⟨513, w h⟩
theorem sl_i31 (post : SY → Prop) (a1 m : Nat → Int32) : ∀ d i c, i + d = 9 → (∃ n, wY_init_52 post n 1 0 a1 (sl_fill 5 d i c) m) → wY_init_31 post 0 (d + 1) (nI i) a1 c m := by
  intro d
  induction d with
  | zero =>
    intro i c hi h
    exact br_t (show (9 : Int32) ≤ nI i from nI_le (a := 9) (by omega) (by omega)) h
  | succ d ih =>
    intro i c hi h
    refine br_f (show ¬ (9 : Int32) ≤ nI i from nI_ge (b := 9) (by omega) (by decide)) ⟨vp_in_nI (by omega) (by decide), ?_⟩
    exact nm_r (e' := upd c i 5) (by rw [nI_clamp (by omega)]) (nm_r (nI_1 i) (ih (i + 1) _ (by omega) h))
theorem sl_YN : sl_YU.length = 213 := by decide +kernel
theorem sl_i52 (post : SY → Prop) (c m : Nat → Int32) (h : post (nI 213, sl_f sl_TL, c, m)) : ∃ n, wY_init_52 post n 1 0 (fun _ => 0) c m := by
  have w := sl_fyL post c m 511 1 [] rfl
  rw [List.nil_append, sl_YA0, sl_YE, sl_YN] at w
  have s := sl_soL post c m 213 (by decide) 213 sl_YU [] sl_YN rfl
  rw [List.nil_append, sl_YS, List.nil_append] at s
  exact ⟨512, w (by decide) ⟨214, s h⟩⟩
theorem sl_initY (post : SY → Prop) (h : post (nI 213, sl_f sl_TL, sl_fill 5 9 0 (fun _ => 0), fun _ => 0)) : wpY_init post := ⟨10, sl_i31 post _ _ 9 0 _ rfl (sl_i52 post _ _ h)⟩
theorem sl_initX (post : SX → Prop) (h : post (nI 213, sl_fill 5 9 0 (fun _ => 0), fun _ => 0, sl_f sl_TE, sl_f sl_TC)) : wpX_init post := by
  unfold wpX_init
  refine sl_takeX _ _ _ _ _ _ ?_
  rw [sl_fill0]
  exact sl_findX _ _ _ h
