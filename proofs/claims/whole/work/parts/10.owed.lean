/-! what is owed -/
/-- both hold the same clues and marks, and the lists of all loops -/
def i_Rel (k : Nat) (u : SX) (v : SY) : Prop := ∃ c m : Nat → Int32, u = (nI 213, c, m, sl_f sl_TE, sl_f sl_TC) ∧ v = (nI 213, sl_f sl_TL, c, m)
theorem i_up {k : Nat} {u : SX} {v : SY} (h : i_Rel k u v) : i_Rel (k + 4) u v := h
theorem i_vc0 : wpX_init (fun u => wpY_init (fun v => i_Rel 0 u v)) := sl_initX _ (sl_initY _ ⟨_, _, rfl, rfl⟩)
theorem sl_3 (x : Int32) : x ≤ 2 ↔ x < 3 := by
  rw [Int32.le_iff_toInt_le, Int32.lt_iff_toInt_lt]
  have h2 : (2 : Int32).toInt = 2 := by decide
  have h3 : (3 : Int32).toInt = 3 := by decide
  omega
theorem sl_24 (x : Int32) : x ≤ 23 ↔ ¬ 24 ≤ x := by
  rw [Int32.le_iff_toInt_le, Int32.le_iff_toInt_le]
  have h2 : (23 : Int32).toInt = 23 := by decide
  have h3 : (24 : Int32).toInt = 24 := by decide
  omega
theorem sl_ofLt {x : Int32} {n : Nat} (h0 : ¬ x < 0) (h : ¬ nI n ≤ x) (hn : n < 2 ^ 31) : ∃ j, j < n ∧ x = nI j := by
  obtain ⟨j, hj, rfl⟩ := nI_of h0
  refine ⟨j, ?_, rfl⟩
  rcases Nat.lt_or_ge j n with z | z
  · exact z
  · exact absurd (nI_le z hj) h
theorem i_vc_clue {k : Nat} {u : SX} {v : SY} (I : i_Rel k u v) (hk : k + 4 ≤ 2048) (v1 : Int32) (v2 : Int32) (v3 : Int32) : wpX_clue (fun r u' => wpY_clue (fun r' v' => r' = r ∧ i_Rel (k + 4) u' v') v v1 v2 v3) u v1 v2 v3 := by
  obtain ⟨c, m, rfl, rfl⟩ := I
  have J : i_Rel (k + 4) (nI 213, c, m, sl_f sl_TE, sl_f sl_TC) (nI 213, sl_f sl_TL, c, m) := ⟨c, m, rfl, rfl⟩
  by_cases h1 : v1 < 0
  · exact br_t h1 (br_t h1 ⟨rfl, J⟩)
  by_cases h2 : 3 ≤ v1
  · have h2' : 2 < v1 := Int32.not_le.mp (fun w => Int32.not_lt.mpr h2 ((sl_3 v1).mp w))
    exact br_f h1 (br_t h2 (br_f h1 (br_t h2' ⟨rfl, J⟩)))
  have h2' : ¬ 2 < v1 := fun w => h2 (Int32.not_lt.mp (fun z => Int32.not_le.mpr w ((sl_3 v1).mpr z)))
  by_cases h3 : v2 < 0
  · exact br_f h1 (br_f h2 (br_t h3 (br_f h1 (br_f h2' (br_t h3 ⟨rfl, J⟩)))))
  by_cases h4 : v2 < 3
  · have h4' : v2 ≤ 2 := (sl_3 v2).mpr h4
    by_cases h5 : v3 < 0
    · exact br_f h1 (br_f h2 (br_f h3 (br_t h4 (br_t h5 (br_f h1 (br_f h2' (br_f h3 (br_t h4' (br_t h5 ⟨rfl, J⟩)))))))))
    by_cases h6 : v3 ≤ 5
    · obtain ⟨a, ha, rfl⟩ := sl_ofLt (n := 3) h1 h2 (by decide)
      obtain ⟨b, hb, rfl⟩ := sl_ofLt (n := 3) h3 (Int32.not_le.mpr h4) (by decide)
      have e : nI a * 3 + nI b = nI (a * 3 + b) := by
        rw [← nI_add, ← pk_mul]
        rfl
      have hv : vp_in (nI a * 3 + nI b) 9 := by
        rw [e]
        exact vp_in_nI (by omega) (by decide)
      refine br_f h1 (br_f h2 (br_f h3 (br_t h4 (br_f h5 (br_t h6 (nm_e ⟨hv, nm_e ⟨hv, nm_e ?_⟩⟩))))))
      exact br_f h1 (br_f h2' (br_f h3 (br_t h4' (br_f h5 (br_t h6 ⟨hv, nm_e ⟨hv, nm_e ⟨rfl, ⟨_, _, rfl, rfl⟩⟩⟩⟩)))))
    · exact br_f h1 (br_f h2 (br_f h3 (br_t h4 (br_f h5 (br_f h6 (br_f h1 (br_f h2' (br_f h3 (br_t h4' (br_f h5 (br_f h6 ⟨rfl, J⟩)))))))))))
  · have h4' : ¬ v2 ≤ 2 := fun w => h4 ((sl_3 v2).mp w)
    exact br_f h1 (br_f h2 (br_f h3 (br_f h4 (br_f h1 (br_f h2' (br_f h3 (br_f h4' ⟨rfl, J⟩)))))))
/-- the component's test of an edge -/
theorem sl_isEdge {A B : Prop} (x : Int32) (f : x < 0 ∨ (¬ x < 0 ∧ ¬ x ≤ 23) → A) (g : ∀ e, e < 24 → x = nI e → B) : wpX_isEdge (fun r => (r = 0 → A) ∧ (¬ r = 0 → B)) x := by
  by_cases h1 : x < 0
  · exact br_t h1 (br_t rfl (f (Or.inl h1)))
  by_cases h2 : 24 ≤ x
  · exact br_f h1 (br_t h2 (br_t rfl (f (Or.inr ⟨h1, fun w => (sl_24 x).mp w h2⟩))))
  · obtain ⟨e, he, rfl⟩ := sl_ofLt (n := 24) h1 h2 (by decide)
    exact br_f h1 (br_f h2 (br_f (by decide) (g e he rfl)))
/-- the reference's -/
theorem sl_edgeY0 {A B C : Prop} {x : Int32} (h : x < 0 ∨ (¬ x < 0 ∧ ¬ x ≤ 23)) (a : A) (c : C) : (x < 0 → A) ∧ (¬ x < 0 → ((x ≤ 23 → B) ∧ (¬ x ≤ 23 → C))) := by
  rcases h with h | ⟨h1, h2⟩
  · exact br_t h a
  · exact br_f h1 (br_f h2 c)
theorem sl_edgeY1 {A B C : Prop} {e : Nat} (he : e < 24) (b : B) : (nI e < 0 → A) ∧ (¬ nI e < 0 → ((nI e ≤ 23 → B) ∧ (¬ nI e ≤ 23 → C))) := br_f (nI_pos (by omega)) (br_t (show nI e ≤ (23 : Int32) from nI_le (b := 23) (by omega) (by decide)) b)
theorem i_vc_mark {k : Nat} {u : SX} {v : SY} (I : i_Rel k u v) (hk : k + 4 ≤ 2048) (v1 : Int32) (v2 : Int32) : wpX_mark (fun r u' => wpY_mark (fun r' v' => r' = r ∧ i_Rel (k + 4) u' v') v v1 v2) u v1 v2 := by
  obtain ⟨c, m, rfl, rfl⟩ := I
  have J : i_Rel (k + 4) (nI 213, c, m, sl_f sl_TE, sl_f sl_TC) (nI 213, sl_f sl_TL, c, m) := ⟨c, m, rfl, rfl⟩
  refine sl_isEdge v1 (fun h => ?_) (fun e he hx => ?_)
  · exact sl_edgeY0 h ⟨rfl, J⟩ ⟨rfl, J⟩
  · subst hx
    have hv : vp_in (nI e) 24 := vp_in_nI he (by decide)
    refine br_c (fun h5 => ?_) (fun h5 => br_c (fun h6 => ⟨hv, nm_e ⟨hv, nm_e ?_⟩⟩) (fun h6 => ?_))
    · exact sl_edgeY1 he (br_t h5 ⟨rfl, J⟩)
    · exact sl_edgeY1 he (br_f h5 (br_t h6 ⟨hv, nm_e ⟨hv, nm_e ⟨rfl, ⟨_, _, rfl, rfl⟩⟩⟩⟩))
    · exact sl_edgeY1 he (br_f h5 (br_f h6 ⟨rfl, J⟩))
theorem i_vc_clear {k : Nat} {u : SX} {v : SY} (I : i_Rel k u v) (hk : k + 4 ≤ 2048) : wpX_clear (fun u' => wpY_clear (fun v' => i_Rel (k + 4) u' v') v) u := by
  obtain ⟨c, m, rfl, rfl⟩ := I
  refine sl_takeX _ _ _ _ _ _ ?_
  exact sl_clearY _ _ _ _ _ ⟨_, _, rfl, rfl⟩
theorem i_vc_solutions {k : Nat} {u : SX} {v : SY} (I : i_Rel k u v) (hk : k + 4 ≤ 2048) : wpX_solutions (fun r => wpY_solutions (fun r' => r' = r ∧ i_Rel (k + 4) u v) v) u := by
  obtain ⟨c, m, rfl, rfl⟩ := I
  exact ⟨214, sl_solXL _ c m _ 213 0 0 rfl ⟨214, sl_solYL _ c m 213 0 0 rfl ⟨rfl, ⟨c, m, rfl, rfl⟩⟩⟩⟩
theorem i_vc_votes {k : Nat} {u : SX} {v : SY} (I : i_Rel k u v) (hk : k + 4 ≤ 2048) (v1 : Int32) : wpX_votes (fun r => wpY_votes (fun r' => r' = r ∧ i_Rel (k + 4) u v) v v1) u v1 := by
  obtain ⟨c, m, rfl, rfl⟩ := I
  have J : i_Rel (k + 4) (nI 213, c, m, sl_f sl_TE, sl_f sl_TC) (nI 213, sl_f sl_TL, c, m) := ⟨c, m, rfl, rfl⟩
  refine sl_isEdge v1 (fun h => ?_) (fun e he hx => ?_)
  · exact sl_edgeY0 h ⟨rfl, J⟩ ⟨rfl, J⟩
  · subst hx
    exact ⟨214, sl_votXL _ c m _ e he 213 0 0 rfl (sl_votY _ c m e he ⟨rfl, J⟩)⟩
theorem i_vc_chosen {k : Nat} {u : SX} {v : SY} (I : i_Rel k u v) (hk : k + 4 ≤ 2048) (v1 : Int32) (v2 : Int32) : wpX_chosen (fun r => wpY_chosen (fun r' => r' = r ∧ i_Rel (k + 4) u v) v v1 v2) u v1 v2 := by
  obtain ⟨c, m, rfl, rfl⟩ := I
  have J : i_Rel (k + 4) (nI 213, c, m, sl_f sl_TE, sl_f sl_TC) (nI 213, sl_f sl_TL, c, m) := ⟨c, m, rfl, rfl⟩
  refine sl_loopC v1 c m _ (fun hn => ?_) (fun i hi hs => ?_)
  · rcases Classical.em (v2 < 0 ∨ (¬ v2 < 0 ∧ ¬ v2 ≤ 23)) with h | h
    · exact sl_edgeY0 h ⟨rfl, J⟩ ⟨rfl, J⟩
    · have h1 : ¬ v2 < 0 := fun w => h (Or.inl w)
      have h2 : ¬ 24 ≤ v2 := fun w => h (Or.inr ⟨h1, fun z => (sl_24 v2).mp z w⟩)
      obtain ⟨e, he, rfl⟩ := sl_ofLt (n := 24) h1 h2 (by decide)
      refine sl_edgeY1 he (sl_solution _ v1 c m ?_)
      rw [hn]
      refine sl_hasY _ _ _ e he ?_
      show narrow .boolean (.int (nI (sl_t 0 (23 - e)).toNat)) = .int (nI (sl_t 0 (23 - e)).toNat) ∧ nI (sl_t 0 (23 - e)).toNat = 0 ∧ _
      rw [sl_t0]
      exact ⟨by decide, rfl, J⟩
  · refine sl_isEdge v2 (fun h => ?_) (fun e he hx => ?_)
    · exact sl_edgeY0 h ⟨rfl, J⟩ ⟨rfl, J⟩
    · subst hx
      refine ⟨vp_in_nI (by omega) (by decide), ?_⟩
      rw [show sl_f sl_TE (nI i).toNatClampNeg = nI (sl_E i) from by rw [nI_clamp (by omega)]; rfl]
      have key : ∀ b : Bool, sl_t (sl_E i) e = b → wpY_chosen (fun r' => r' = nI b.toNat ∧ i_Rel (k + 4) (nI 213, c, m, sl_f sl_TE, sl_f sl_TC) (nI 213, sl_f sl_TL, c, m)) (nI 213, sl_f sl_TL, c, m) v1 (nI e) := by
        intro b hb
        refine sl_edgeY1 he (sl_solution _ v1 c m ?_)
        rw [hs]
        refine sl_hasY _ _ _ e he ?_
        show narrow .boolean (.int (nI (sl_t (sl_L i) (23 - e)).toNat)) = .int (nI (sl_t (sl_L i) (23 - e)).toNat) ∧ nI (sl_t (sl_L i) (23 - e)).toNat = nI b.toNat ∧ _
        rw [← (sl_ok1 i hi).1 e he, hb]
        refine ⟨?_, rfl, J⟩
        cases b <;> decide
      refine sl_has _ (by omega) (sl_br _ (fun z => ?_) (fun z => ?_))
      · exact key false z
      · exact key true z
theorem i_vc_length {k : Nat} {u : SX} {v : SY} (I : i_Rel k u v) (hk : k + 4 ≤ 2048) (v1 : Int32) : wpX_length (fun r => wpY_length (fun r' => r' = r ∧ i_Rel (k + 4) u v) v v1) u v1 := by
  obtain ⟨c, m, rfl, rfl⟩ := I
  have J : i_Rel (k + 4) (nI 213, c, m, sl_f sl_TE, sl_f sl_TC) (nI 213, sl_f sl_TL, c, m) := ⟨c, m, rfl, rfl⟩
  refine sl_loopC v1 c m _ (fun hn => ?_) (fun i hi hs => ?_)
  · refine sl_solution _ v1 c m ?_
    rw [hn]
    exact sl_edges _ _ _ ⟨by decide, J⟩
  · refine ⟨vp_in_nI (by omega) (by decide), ?_⟩
    rw [show sl_f sl_TE (nI i).toNatClampNeg = nI (sl_E i) from by rw [nI_clamp (by omega)]; rfl]
    refine sl_sizeOf _ _ (sl_solution _ v1 c m ?_)
    rw [hs]
    exact sl_edges _ _ _ ⟨congrArg nI (sl_szY i hi), J⟩
theorem i_vc_inside {k : Nat} {u : SX} {v : SY} (I : i_Rel k u v) (hk : k + 4 ≤ 2048) (v1 : Int32) : wpX_inside (fun r => wpY_inside (fun r' => r' = r ∧ i_Rel (k + 4) u v) v v1) u v1 := by
  obtain ⟨c, m, rfl, rfl⟩ := I
  have J : i_Rel (k + 4) (nI 213, c, m, sl_f sl_TE, sl_f sl_TC) (nI 213, sl_f sl_TL, c, m) := ⟨c, m, rfl, rfl⟩
  refine sl_loopC v1 c m _ (fun hn => ?_) (fun i hi hs => ?_)
  · refine sl_solution _ v1 c m ?_
    rw [hn]
    exact ⟨10, sl_insL _ _ _ _ _ _ 9 0 0 rfl ⟨by decide, J⟩⟩
  · refine ⟨vp_in_nI (by omega) (by decide), ?_⟩
    rw [show sl_f sl_TC (nI i).toNatClampNeg = nI (sl_C i) from by rw [nI_clamp (by omega)]; rfl]
    refine sl_sizeOf _ _ (sl_solution _ v1 c m ?_)
    rw [hs]
    exact ⟨10, sl_insL _ _ _ _ _ _ 9 0 0 rfl ⟨congrArg nI (sl_ok1 i hi).2.2.1.symm, J⟩⟩
theorem i_vc_decided {k : Nat} {u : SX} {v : SY} (I : i_Rel k u v) (hk : k + 4 ≤ 2048) : wpX_decided (fun r => wpY_decided (fun r' => r' = r ∧ i_Rel (k + 4) u v) v) u := by
  obtain ⟨c, m, rfl, rfl⟩ := I
  exact sl_decX _ c m _ (sl_decY _ c m ⟨rfl, ⟨c, m, rfl, rfl⟩⟩)
theorem i_vc_shortest {k : Nat} {u : SX} {v : SY} (I : i_Rel k u v) (hk : k + 4 ≤ 2048) : wpX_shortest (fun r => wpY_shortest (fun r' => r' = r ∧ i_Rel (k + 4) u v) v) u := by
  obtain ⟨c, m, rfl, rfl⟩ := I
  exact ⟨214, sl_shXL _ c m _ 213 0 0 rfl ⟨214, sl_shYL _ c m 213 0 0 rfl ⟨rfl, ⟨c, m, rfl, rfl⟩⟩⟩⟩
