/-! both constructors against lists -/
def sl_ge (e c : Nat) : Option (Nat × Nat) := bif sl_q e 0 then none else bif sl_mp e 24 0 0 0 0 then (bif sl_q (sl_cn e 24 (sl_lo e)) e then some (e, c) else none) else none
def sl_gx (o : Nat) : Option (Nat × Nat) := sl_ge (sl_bo (sl_cs o 9 0 0) 9 0 0) (sl_cs o 9 0 0)
def sl_fl : Nat → Nat → List (Nat × Nat)
  | 0, _ => []
  | d + 1, o => (sl_gx o).toList ++ sl_fl d (o + 1)
theorem sl_fl_add : ∀ a b o, sl_fl (a + b) o = sl_fl a o ++ sl_fl b (o + a) := by
  intro a
  induction a with
  | zero => intro b o; rw [Nat.zero_add]; rfl
  | succ a ih =>
    intro b o
    rw [show a + 1 + b = (a + b) + 1 from by omega]
    show (sl_gx o).toList ++ sl_fl (a + b) (o + 1) = ((sl_gx o).toList ++ sl_fl a (o + 1)) ++ sl_fl b (o + (a + 1))
    rw [ih, List.append_assoc, show o + 1 + a = o + (a + 1) from by omega]
theorem sl_flL (post : SX → Prop) (c m : Nat → Int32) : ∀ d o L, o + d = 512 → L.length + d ≤ 512 → post (nI (L ++ sl_fl d o).length, c, m, sl_f ((L ++ sl_fl d o).map Prod.fst), sl_f ((L ++ sl_fl d o).map Prod.snd)) → wX_findLoops_2 post (d + 1) (nI o) (nI L.length) c m (sl_f (L.map Prod.fst)) (sl_f (L.map Prod.snd)) := by
  intro d
  induction d with
  | zero =>
    intro o L ho hL h
    have e : L ++ sl_fl 0 o = L := List.append_nil L
    rw [e] at h
    exact br_t (show (512 : Int32) ≤ nI o from nI_le (a := 512) (by omega) (by omega)) h
  | succ d ih =>
    intro o L ho hL h
    refine br_f (show ¬ (512 : Int32) ≤ nI o from nI_ge (b := 512) (by omega) (by decide)) ?_
    refine sl_cellSet _ o (sl_borderOf _ _ ?_)
    have hn : sl_gx o = none → wX_findLoops_2 post (d + 1) (nI (o + 1)) (nI L.length) c m (sl_f (L.map Prod.fst)) (sl_f (L.map Prod.snd)) := by
      intro z
      refine ih (o + 1) L (by omega) (by omega) ?_
      have e : sl_fl (d + 1) o = sl_fl d (o + 1) := by
        show (sl_gx o).toList ++ sl_fl d (o + 1) = _
        rw [z]
        rfl
      rw [e] at h
      exact h
    have hs : ∀ p : Nat × Nat, sl_gx o = some p → wX_findLoops_2 post (d + 1) (nI (o + 1)) (nI (L.length + 1)) c m (sl_f (L.map Prod.fst ++ [p.1])) (sl_f (L.map Prod.snd ++ [p.2])) := by
      intro p z
      have e : L ++ sl_fl (d + 1) o = (L ++ [p]) ++ sl_fl d (o + 1) := by
        show L ++ ((sl_gx o).toList ++ sl_fl d (o + 1)) = _
        rw [z, List.append_assoc]
        rfl
      rw [e] at h
      have w := ih (o + 1) (L ++ [p]) (by omega) (by rw [List.length_append]; show L.length + 1 + d ≤ 512; omega) h
      rw [List.length_append, List.map_append, List.map_append] at w
      exact w
    have hg : sl_gx o = sl_ge (sl_bo (sl_cs o 9 0 0) 9 0 0) (sl_cs o 9 0 0) := rfl
    rw [hg] at hn hs
    generalize sl_bo (sl_cs o 9 0 0) 9 0 0 = e at hn hs ⊢
    generalize sl_cs o 9 0 0 = k at hn hs ⊢
    refine sl_brq e 0 (fun z => ?_) (fun z => ?_)
    · exact nm_r (nI_1 o) (hn (by unfold sl_ge; rw [z]; rfl))
    · refine sl_meet _ e (sl_br _ (fun y => ?_) (fun y => ?_))
      · exact nm_r (nI_1 o) (hn (by unfold sl_ge; rw [z, y]; rfl))
      · refine sl_conn _ e (sl_br _ (fun x => ?_) (fun x => ?_))
        · exact nm_r (nI_1 o) (hn (by unfold sl_ge; rw [z, y, x]; rfl))
        · have hv : vp_in (nI L.length) 512 := vp_in_nI (by omega) (by omega)
          have hc : (nI L.length).toNatClampNeg = L.length := nI_clamp (by omega)
          refine ⟨hv, nm_r (e' := sl_f (L.map Prod.fst ++ [e])) ?_ ⟨hv, nm_r (e' := sl_f (L.map Prod.snd ++ [k])) ?_ (nm_r (nI_1 _) (nm_r (nI_1 o) (hs (e, k) (by unfold sl_ge; rw [z, y, x]; rfl))))⟩⟩
          · rw [hc]
            have w := sl_fp (L.map Prod.fst) e
            rw [List.length_map] at w
            exact w
          · rw [hc]
            have w := sl_fp (L.map Prod.snd) k
            rw [List.length_map] at w
            exact w
/-! the reference's list -/
def sl_ou (s : Nat) : Bool := sl_iv s 4 || (!sl_iv s 1 || (!sl_iv s 3 || (!sl_iv s 5 || !sl_iv s 7)))
def sl_gy (s : Nat) : Option Nat := bif sl_q (sl_c2 s 9 (sl_lo s)) s then (bif sl_ou s then some (sl_by s 24 0 0) else none) else none
def sl_fy : Nat → Nat → List Nat
  | 0, _ => []
  | d + 1, s => (sl_gy s).toList ++ sl_fy d (s + 1)
theorem sl_fy_add : ∀ a b o, sl_fy (a + b) o = sl_fy a o ++ sl_fy b (o + a) := by
  intro a
  induction a with
  | zero => intro b o; rw [Nat.zero_add]; rfl
  | succ a ih =>
    intro b o
    rw [show a + 1 + b = (a + b) + 1 from by omega]
    show (sl_gy o).toList ++ sl_fy (a + b) (o + 1) = ((sl_gy o).toList ++ sl_fy a (o + 1)) ++ sl_fy b (o + (a + 1))
    rw [ih, List.append_assoc, show o + 1 + a = o + (a + 1) from by omega]
theorem sl_y120 (post : SY → Prop) (J : Int32 → Int32 → (Nat → Int32) → (Nat → Int32) → (Nat → Int32) → Prop) (s : Nat) (b o : Bool) (L : List Nat) (c m : Nat → Int32) (hL : b = true → o = true → L.length < 256) (hn : b = false ∨ o = false → J (nI (s + 1)) (nI L.length) (sl_f L) c m) (hs : b = true → o = true → J (nI (s + 1)) (nI (L.length + 1)) (sl_f (L ++ [sl_by s 24 0 0])) c m) : wY_init_120 post J (nI s) (nI b.toNat) (nI o.toNat) (nI L.length) (sl_f L) c m := by
  refine sl_br b (fun z => ?_) (fun z => ?_)
  · exact nm_r (nI_1 s) (hn (Or.inl z))
  · refine sl_br o (fun y => ?_) (fun y => ?_)
    · exact nm_r (nI_1 s) (hn (Or.inr y))
    · have h := hL z y
      refine br_f (show ¬ (256 : Int32) ≤ nI L.length from nI_ge (b := 256) h (by decide)) ?_
      refine sl_borderY _ _ s ⟨vp_in_nI h (by decide), ?_⟩
      refine nm_r (e' := sl_f (L ++ [sl_by s 24 0 0])) ?_ (nm_r (nI_1 _) (nm_r (nI_1 s) (hs z y)))
      rw [nI_clamp (by omega)]
      exact sl_fp L _
theorem sl_fyL (post : SY → Prop) (c m : Nat → Int32) : ∀ d s L, s + d = 512 → (L ++ sl_fy d s).length ≤ 256 → (∃ n, wY_init_171 post (nI (L ++ sl_fy d s).length) n 0 (sl_f (L ++ sl_fy d s)) c m) → wY_init_52 post (d + 1) (nI s) (nI L.length) (sl_f L) c m := by
  intro d
  induction d with
  | zero =>
    intro s L ho hL h
    have e : L ++ sl_fy 0 s = L := List.append_nil L
    rw [e] at h
    exact br_t (show (512 : Int32) ≤ nI s from nI_le (a := 512) (by omega) (by omega)) h
  | succ d ih =>
    intro s L ho hL h
    refine br_f (show ¬ (512 : Int32) ≤ nI s from nI_ge (b := 512) (by omega) (by decide)) ?_
    refine sl_connY _ _ s ?_
    have hn : sl_gy s = none → wY_init_52 post (d + 1) (nI (s + 1)) (nI L.length) (sl_f L) c m := by
      intro z
      have e : sl_fy (d + 1) s = sl_fy d (s + 1) := by
        show (sl_gy s).toList ++ sl_fy d (s + 1) = _
        rw [z]
        rfl
      rw [e] at h hL
      exact ih (s + 1) L (by omega) hL h
    have hs : ∀ p : Nat, sl_gy s = some p → L.length < 256 ∧ wY_init_52 post (d + 1) (nI (s + 1)) (nI (L.length + 1)) (sl_f (L ++ [p])) c m := by
      intro p z
      have e : L ++ sl_fy (d + 1) s = (L ++ [p]) ++ sl_fy d (s + 1) := by
        show L ++ ((sl_gy s).toList ++ sl_fy d (s + 1)) = _
        rw [z, List.append_assoc]
        rfl
      rw [e] at h hL
      have w := ih (s + 1) (L ++ [p]) (by omega) hL h
      rw [List.length_append] at w
      refine ⟨?_, w⟩
      rw [List.length_append, List.length_append] at hL
      have : [p].length = 1 := rfl
      omega
    have key : ∀ o : Bool, sl_ou s = o → wY_init_120 post (wY_init_52 post (d + 1)) (nI s) (nI (sl_q (sl_c2 s 9 (sl_lo s)) s).toNat) (nI o.toNat) (nI L.length) (sl_f L) c m := by
      intro o eo
      refine sl_y120 post _ s _ o L c m (fun z y => ?_) (fun z => hn ?_) (fun z y => ?_)
      · exact (hs _ (by unfold sl_gy; rw [z, eo, y]; rfl)).1
      · unfold sl_gy
        rcases z with z | z
        · rw [z]; rfl
        · rw [eo, z]; cases sl_q (sl_c2 s 9 (sl_lo s)) s <;> rfl
      · exact (hs _ (by unfold sl_gy; rw [z, eo, y]; rfl)).2
    refine sl_in _ _ s 4 _ _ (by decide) (sl_br _ (fun z1 => ?_) (fun z1 => ?_))
    · refine sl_in _ _ s 1 _ _ (by decide) (sl_br _ (fun z2 => ?_) (fun z2 => ?_))
      · exact key true (by unfold sl_ou; rw [z1, z2]; rfl)
      · refine sl_in _ _ s 3 _ _ (by decide) (sl_br _ (fun z3 => ?_) (fun z3 => ?_))
        · exact key true (by unfold sl_ou; rw [z1, z2, z3]; rfl)
        · refine sl_in _ _ s 5 _ _ (by decide) (sl_br _ (fun z4 => ?_) (fun z4 => ?_))
          · exact key true (by unfold sl_ou; rw [z1, z2, z3, z4]; rfl)
          · refine sl_in _ _ s 7 _ _ (by decide) (sl_br _ (fun z5 => ?_) (fun z5 => ?_))
            · exact key true (by unfold sl_ou; rw [z1, z2, z3, z4, z5]; rfl)
            · exact key false (by unfold sl_ou; rw [z1, z2, z3, z4, z5]; rfl)
    · exact key true (by unfold sl_ou; rw [z1]; rfl)
/-! the exchange sort -/
def sl_ps : Nat → List Nat → List Nat → Nat × List Nat
  | x, D, [] => (x, D.reverse)
  | x, D, y :: R => if nI x ≤ nI y then sl_ps x (y :: D) R else sl_ps y (x :: D) R
theorem sl_ps_len : ∀ R x D, (sl_ps x D R).2.length = D.length + R.length := by
  intro R
  induction R with
  | nil => intro x D; exact List.length_reverse
  | cons y R ih =>
    intro x D
    unfold sl_ps
    split
    · rw [ih]; simp; omega
    · rw [ih]; simp; omega
theorem sl_psL (post : SY → Prop) (J : Int32 → (Nat → Int32) → (Nat → Int32) → (Nat → Int32) → Prop) (P : List Nat) (c m : Nat → Int32) (N : Nat) (hN : N ≤ 256) : ∀ R x D, P.length + 1 + D.length + R.length = N → J (nI (P.length + 1)) (sl_f (P ++ (sl_ps x D R).1 :: (sl_ps x D R).2)) c m → wY_init_183 post J (nI P.length) (nI N) (R.length + 1) (nI (P.length + 1 + D.length)) (sl_f (P ++ x :: (D.reverse ++ R))) c m := by
  intro R
  induction R with
  | nil =>
    intro x D hl h
    rw [List.append_nil]
    have hl' : P.length + 1 + D.length = N := hl
    exact br_t (nI_le (by omega) (by omega)) (nm_r (nI_1 _) h)
  | cons y R ih =>
    intro x D hl h
    have hl' : P.length + 1 + D.length + (R.length + 1) = N := hl
    have v1 : vp_in (nI P.length) 256 := vp_in_nI (by omega) (by omega)
    have v2 : vp_in (nI (P.length + 1 + D.length)) 256 := vp_in_nI (by omega) (by omega)
    have c1 : (nI P.length).toNatClampNeg = P.length := nI_clamp (by omega)
    have c2 : (nI (P.length + 1 + D.length)).toNatClampNeg = P.length + 1 + D.length := nI_clamp (by omega)
    have ll : ∀ z, (P ++ z :: D.reverse).length = P.length + 1 + D.length := by intro z; simp; omega
    have el : ∀ z w, P ++ z :: (D.reverse ++ w :: R) = (P ++ z :: D.reverse) ++ w :: R := by intro z w; simp
    have er : ∀ w, (w :: D).reverse ++ R = D.reverse ++ w :: R := by intro w; simp
    have e1 : sl_f (P ++ x :: (D.reverse ++ y :: R)) (nI P.length).toNatClampNeg = nI x := by rw [c1]; exact sl_fa P _ x
    have e2 : sl_f (P ++ x :: (D.reverse ++ y :: R)) (nI (P.length + 1 + D.length)).toNatClampNeg = nI y := by rw [c2, el, ← ll x]; exact sl_fa _ R y
    refine br_f (nI_ge (by omega) (by omega)) ⟨v2, v1, ?_⟩
    by_cases hc : nI x ≤ nI y
    · have ep : sl_ps x D (y :: R) = sl_ps x (y :: D) R := by
        show (if nI x ≤ nI y then _ else _) = _
        rw [if_pos hc]
      rw [ep] at h
      refine br_t (by rw [e1, e2]; exact hc) (nm_r (nI_1 _) ?_)
      have w := ih x (y :: D) (by show P.length + 1 + (D.length + 1) + R.length = N; omega) h
      rw [er] at w
      exact w
    · have ep : sl_ps x D (y :: R) = sl_ps y (x :: D) R := by
        show (if nI x ≤ nI y then _ else _) = _
        rw [if_neg hc]
      rw [ep] at h
      have w := ih y (x :: D) (by show P.length + 1 + (D.length + 1) + R.length = N; omega) h
      rw [er] at w
      refine br_f (by rw [e1, e2]; exact hc) ⟨v1, nm_r e1 ⟨v2, v1, nm_r (e' := sl_f (P ++ y :: (D.reverse ++ y :: R))) ?_ ⟨v2, nm_r (e' := sl_f (P ++ y :: (D.reverse ++ x :: R))) ?_ (nm_r (nI_1 _) w)⟩⟩⟩
      · rw [e2, c1]
        exact sl_fu P _ x y
      · rw [c2, el, ← ll y, el]
        exact sl_fu _ R y x
def sl_so : Nat → List Nat → List Nat
  | 0, R => R
  | _ + 1, [] => []
  | k + 1, x :: R => (sl_ps x [] R).1 :: sl_so k (sl_ps x [] R).2
theorem sl_soL (post : SY → Prop) (c m : Nat → Int32) (N : Nat) (hN : N ≤ 256) : ∀ k R P, R.length = k → P.length + k = N → post (nI N, sl_f (P ++ sl_so k R), c, m) → wY_init_171 post (nI N) (k + 1) (nI P.length) (sl_f (P ++ R)) c m := by
  intro k
  induction k with
  | zero =>
    intro R P hR hP h
    exact br_t (nI_le (by omega) (by omega)) h
  | succ k ih =>
    intro R P hR hP h
    cases R with
    | nil => exact absurd hR (by simp)
    | cons x R =>
      have hR' : R.length = k := by simpa using hR
      refine br_f (nI_ge (by omega) (by omega)) (nm_r (nI_1 _) ⟨R.length + 1, ?_⟩)
      refine sl_psL post _ P c m N hN R x [] (by show P.length + 1 + 0 + R.length = N; omega) ?_
      have h' : post (nI N, sl_f (P ++ (sl_ps x [] R).1 :: sl_so k (sl_ps x [] R).2), c, m) := h
      have hz := sl_ps_len R x []
      generalize sl_ps x [] R = z at h' hz ⊢
      have e : ∀ Q, P ++ z.1 :: Q = (P ++ [z.1]) ++ Q := by intro Q; simp
      rw [e] at h' ⊢
      have w := ih z.2 (P ++ [z.1]) (by rw [hz]; show 0 + R.length = k; omega) (by rw [List.length_append]; show P.length + 1 + k = N; omega) h'
      rw [List.length_append] at w
      exact w
