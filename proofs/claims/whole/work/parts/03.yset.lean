/-! the reference's sets: in, connected, border -/
/-- the place of a cell, 99 where there is none -/
def sl_ip (r c : Int32) : Nat := if r < 0 then 99 else if 3 ≤ r then 99 else if c < 0 then 99 else if 3 ≤ c then 99 else (r * 3 + c).toNatClampNeg
def sl_iv (s p : Nat) : Bool := Nat.ble p 8 && sl_t s p
theorem sl_iv99 (s : Nat) : sl_iv s 99 = false := rfl
theorem sl_in (post : Int32 → Prop) (v : SY) (s p : Nat) (r c : Int32) (e : sl_ip r c = p) (h : post (nI (sl_iv s p).toNat)) : wpY_in post v (nI s) r c := by
  obtain ⟨f_listed, a_loops, a_clues, a_marks⟩ := v
  subst e
  unfold sl_ip at h
  by_cases h1 : r < 0
  · rw [if_pos h1] at h
    exact br_t h1 h
  refine br_f h1 ?_
  rw [if_neg h1] at h
  by_cases h2 : 3 ≤ r
  · rw [if_pos h2] at h
    exact br_t h2 h
  refine br_f h2 ?_
  rw [if_neg h2] at h
  by_cases h3 : c < 0
  · rw [if_pos h3] at h
    exact br_t h3 h
  refine br_f h3 ?_
  rw [if_neg h3] at h
  by_cases h4 : 3 ≤ c
  · rw [if_pos h4] at h
    exact br_t h4 h
  refine br_f h4 ?_
  rw [if_neg h4] at h
  obtain ⟨a, ha, rfl⟩ := nI_of h1
  obtain ⟨b, hb, rfl⟩ := nI_of h3
  have h2' : a < 3 := by
    rcases Nat.lt_or_ge a 3 with z | z
    · exact z
    · exact absurd (nI_le (a := 3) z ha) h2
  have h4' : b < 3 := by
    rcases Nat.lt_or_ge b 3 with z | z
    · exact z
    · exact absurd (nI_le (a := 3) z hb) h4
  have e : nI a * 3 + nI b = nI (a * 3 + b) := by
    rw [← nI_add, ← pk_mul]
    rfl
  rw [e, nI_clamp (by omega)] at h
  rw [e, sl_bit s (by omega)]
  have e2 : sl_iv s (a * 3 + b) = sl_t s (a * 3 + b) := by
    unfold sl_iv
    rw [show Nat.ble (a * 3 + b) 8 = true from by rw [Nat.ble_eq]; omega, Bool.true_and]
  rw [e2] at h
  revert h
  cases sl_t s (a * 3 + b)
  · exact fun h => br_f (by decide) h
  · exact fun h => br_t rfl h
def sl_n0 (i : Nat) : Nat := bif Nat.ble 3 i then i - 3 else 99
def sl_n1 (i : Nat) : Nat := bif Nat.ble i 5 then i + 3 else 99
def sl_n2 (i : Nat) : Nat := bif Nat.beq (i % 3) 0 then 99 else i - 1
def sl_n3 (i : Nat) : Nat := bif Nat.beq (i % 3) 2 then 99 else i + 1
theorem sl_nT : ∀ i, i < 9 → sl_ip (nI i / 3 - 1) (nI i - nI i / 3 * 3) = sl_n0 i ∧ sl_ip (nI i / 3 + 1) (nI i - nI i / 3 * 3) = sl_n1 i ∧ sl_ip (nI i / 3) (nI i - nI i / 3 * 3 - 1) = sl_n2 i ∧ sl_ip (nI i / 3) (nI i - nI i / 3 * 3 + 1) = sl_n3 i ∧ sl_ip (nI i / 3) (nI i - nI i / 3 * 3) = i := by decide +kernel
def sl_bs (r i : Nat) : Bool := sl_iv r (sl_n0 i) || (sl_iv r (sl_n1 i) || (sl_iv r (sl_n2 i) || sl_iv r (sl_n3 i)))
def sl_c1 (s : Nat) : Nat → Nat → Nat → Nat
  | 0, _, r => r
  | d + 1, i, r => sl_c1 s d (i + 1) (bif sl_iv s i then (bif sl_bs r i then r ||| (1 <<< i) else r) else r)
theorem sl_c96 (post : Int32 → Prop) (J7 J16 : Int32 → Int32 → Prop) (s r i : Nat) (x3 : Int32) (f : Int32) (a1 a2 a3 : Nat → Int32) (hi : i < 9) (b : Bool) (h : J16 (nI (bif sl_iv s i then (bif b then r ||| (1 <<< i) else r) else r)) (nI (i + 1))) : wY_connected_96 post J7 J16 (nI s) (nI r) x3 (nI i) (nI i / 3) (nI i - nI i / 3 * 3) (nI b.toNat) f a1 a2 a3 := by
  refine sl_in _ _ s i _ _ (sl_nT i hi).2.2.2.2 ?_
  refine sl_br _ (fun z => ?_) (fun z => ?_)
  · rw [z] at h
    exact nm_r (nI_1 i) h
  · rw [z] at h
    refine sl_br b (fun y => ?_) (fun y => ?_)
    · rw [y] at h
      exact nm_r (nI_1 i) h
    · rw [y] at h
      refine nm_r (e' := nI (r ||| (1 <<< i))) (by rw [sl_one i (by omega), sl_or]) ?_
      exact nm_r (nI_1 i) h
theorem sl_c1L (post : Int32 → Prop) (J7 : Int32 → Int32 → Prop) (s k : Nat) (f : Int32) (a1 a2 a3 : Nat → Int32) : ∀ d i r, i + d = 9 → J7 (nI (sl_c1 s d i r)) (nI (k + 1)) → wY_connected_16 post J7 (nI s) (nI k) f a1 a2 a3 (d + 1) (nI r) (nI i) := by
  intro d
  induction d with
  | zero =>
    intro i r hi h
    exact br_t (show (9 : Int32) ≤ nI i from nI_le (a := 9) (by omega) (by omega)) (nm_r (nI_1 k) h)
  | succ d ih =>
    intro i r hi h
    refine br_f (show ¬ (9 : Int32) ≤ nI i from nI_ge (b := 9) (by omega) (by decide)) ?_
    refine ⟨by decide, nm_e ⟨by decide, nm_e ?_⟩⟩
    have ih' := ih (i + 1) _ (by omega) h
    obtain ⟨t0, t1, t2, t3, t4⟩ := sl_nT i (by omega)
    refine sl_in _ _ r _ _ _ t0 (sl_br _ (fun z0 => ?_) (fun z0 => ?_))
    · refine sl_in _ _ r _ _ _ t1 (sl_br _ (fun z1 => ?_) (fun z1 => ?_))
      · refine sl_in _ _ r _ _ _ t2 (sl_br _ (fun z2 => ?_) (fun z2 => ?_))
        · refine sl_in _ _ r _ _ _ t3 (sl_br _ (fun z3 => ?_) (fun z3 => ?_))
          · have eb : sl_bs r i = false := by unfold sl_bs; rw [z0, z1, z2, z3]; rfl
            rw [eb] at ih'
            exact sl_c96 post J7 _ s r i (nI k) f a1 a2 a3 (by omega) false ih'
          · have eb : sl_bs r i = true := by unfold sl_bs; rw [z0, z1, z2, z3]; rfl
            rw [eb] at ih'
            exact sl_c96 post J7 _ s r i (nI k) f a1 a2 a3 (by omega) true ih'
        · have eb : sl_bs r i = true := by unfold sl_bs; rw [z0, z1, z2]; rfl
          rw [eb] at ih'
          exact sl_c96 post J7 _ s r i (nI k) f a1 a2 a3 (by omega) true ih'
      · have eb : sl_bs r i = true := by unfold sl_bs; rw [z0, z1]; rfl
        rw [eb] at ih'
        exact sl_c96 post J7 _ s r i (nI k) f a1 a2 a3 (by omega) true ih'
    · have eb : sl_bs r i = true := by unfold sl_bs; rw [z0]; rfl
      rw [eb] at ih'
      exact sl_c96 post J7 _ s r i (nI k) f a1 a2 a3 (by omega) true ih'
def sl_c2 (s : Nat) : Nat → Nat → Nat
  | 0, r => r
  | d + 1, r => sl_c2 s d (sl_c1 s 9 0 r)
theorem sl_c2L (post : Int32 → Prop) (s : Nat) (f : Int32) (a1 a2 a3 : Nat → Int32) : ∀ d k r, k + d = 9 → post (nI (sl_q (sl_c2 s d r) s).toNat) → wY_connected_7 post (nI s) f a1 a2 a3 (d + 1) (nI r) (nI k) := by
  intro d
  induction d with
  | zero =>
    intro k r hk h
    refine br_t (show (9 : Int32) ≤ nI k from nI_le (a := 9) (by omega) (by omega)) ?_
    have h' : post (nI (sl_q r s).toNat) := h
    refine sl_brq r s (fun z => ?_) (fun z => ?_)
    · rw [z] at h'
      exact h'
    · rw [z] at h'
      exact h'
  | succ d ih =>
    intro k r hk h
    refine br_f (show ¬ (9 : Int32) ≤ nI k from nI_ge (b := 9) (by omega) (by decide)) ?_
    exact ⟨10, sl_c1L post _ s k f a1 a2 a3 9 0 r rfl (ih (k + 1) _ (by omega) h)⟩
theorem sl_connY (post : Int32 → Prop) (v : SY) (s : Nat) (h : post (nI (sl_q (sl_c2 s 9 (sl_lo s)) s).toNat)) : wpY_connected post v (nI s) := by
  obtain ⟨f, a1, a2, a3⟩ := v
  refine nm_r (e' := nI (sl_lo s)) (by rw [sl_neg, sl_and]; rfl) ?_
  exact ⟨10, sl_c2L post s f a1 a2 a3 9 0 _ rfl h⟩
def sl_pa (e : Nat) : Nat := bif Nat.ble 12 e then (bif Nat.beq ((e - 12) % 4) 3 then 99 else (e - 12) / 4 * 3 + (e - 12) % 4) else (bif Nat.ble e 8 then e else 99)
def sl_pb (e : Nat) : Nat := bif Nat.ble 12 e then (bif Nat.beq ((e - 12) % 4) 0 then 99 else (e - 12) / 4 * 3 + (e - 12) % 4 - 1) else (bif Nat.ble 3 e then e - 3 else 99)
theorem sl_pT1 : ∀ e, e < 24 → 12 ≤ e → sl_ip ((nI e - 12) / 4) ((nI e - 12) - (nI e - 12) / 4 * 4) = sl_pa e ∧ sl_ip ((nI e - 12) / 4) (((nI e - 12) - (nI e - 12) / 4 * 4) - 1) = sl_pb e := by decide +kernel
theorem sl_pT2 : ∀ e, e < 12 → sl_ip (nI e / 3) (nI e - nI e / 3 * 3) = sl_pa e ∧ sl_ip (nI e / 3 - 1) (nI e - nI e / 3 * 3) = sl_pb e := by decide +kernel
def sl_by (s : Nat) : Nat → Nat → Nat → Nat
  | 0, _, a => a
  | d + 1, e, a => sl_by s d (e + 1) (bif (sl_iv s (sl_pa e) ^^ sl_iv s (sl_pb e)) then a ||| (1 <<< (23 - e)) else a)
theorem sl_by92 (post : Int32 → Prop) (J : Int32 → Int32 → Prop) (x1 : Int32) (a e : Nat) (he : e < 24) (b c : Bool) (f : Int32) (a1 a2 a3 : Nat → Int32) (h : J (nI (bif (b ^^ c) then a ||| (1 <<< (23 - e)) else a)) (nI (e + 1))) : wY_border_92 post J x1 (nI a) (nI e) (nI b.toNat) (nI c.toNat) f a1 a2 a3 := by
  unfold wY_border_92
  rw [nI_1, show (23 : Int32) - nI e = nI (23 - e) from pk_sub (a := 23) (by omega), sl_one (23 - e) (by omega), sl_or]
  cases b <;> cases c
  · exact br_t rfl (nm_e h)
  · exact br_f (by decide) (nm_e (nm_e h))
  · exact br_f (by decide) (nm_e (nm_e h))
  · exact br_t rfl (nm_e h)
theorem sl_byL (post : Int32 → Prop) (s : Nat) (f : Int32) (a1 a2 a3 : Nat → Int32) : ∀ d e a, e + d = 24 → post (nI (sl_by s d e a)) → wY_border_4 post (nI s) f a1 a2 a3 (d + 1) (nI a) (nI e) := by
  intro d
  induction d with
  | zero =>
    intro e a he h
    exact br_t (show (24 : Int32) ≤ nI e from nI_le (a := 24) (by omega) (by omega)) h
  | succ d ih =>
    intro e a he h
    refine br_f (show ¬ (24 : Int32) ≤ nI e from nI_ge (b := 24) (by omega) (by decide)) ?_
    have ih' := ih (e + 1) _ (by omega) h
    rcases Nat.lt_or_ge e 12 with h1 | h1
    · have g : ¬ (12 : Int32) ≤ nI e := nI_ge (b := 12) h1 (by decide)
      refine br_f g ⟨by decide, br_f g ⟨by decide, ?_⟩⟩
      refine sl_in _ _ s _ _ _ (sl_pT2 e h1).1 (br_f g ?_)
      refine sl_in _ _ s _ _ _ (sl_pT2 e h1).2 ?_
      exact sl_by92 post _ _ a e (by omega) _ _ f a1 a2 a3 ih'
    · have g : (12 : Int32) ≤ nI e := nI_le (a := 12) h1 (by omega)
      refine br_t g ⟨by decide, br_t g ⟨by decide, ?_⟩⟩
      refine sl_in _ _ s _ _ _ (sl_pT1 e (by omega) h1).1 (br_t g ?_)
      refine sl_in _ _ s _ _ _ (sl_pT1 e (by omega) h1).2 ?_
      exact sl_by92 post _ _ a e (by omega) _ _ f a1 a2 a3 ih'
theorem sl_borderY (post : Int32 → Prop) (v : SY) (s : Nat) (h : post (nI (sl_by s 24 0 0))) : wpY_border post v (nI s) := by
  obtain ⟨f, a1, a2, a3⟩ := v
  exact ⟨25, sl_byL post s f a1 a2 a3 24 0 0 rfl h⟩
