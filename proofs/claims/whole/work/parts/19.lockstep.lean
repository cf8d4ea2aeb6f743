section
variable {wt aw tc fc : Int32} {fs ce tk ta fz hs ap na : Nat → Int32}
variable {fa co : Nat → Int32}
theorem kw_iY_s {a set f g : Int32} {w κ : Nat} (h : κ = 5 ∨ κ = 6 ∨ κ = 7 ∨ κ = 8) : kw_iY fa co a set f g w κ = decide (kw_seen co set a w κ &&& (f ^^^ (-1)) = 0) := by
  unfold kw_iY
  rw [if_neg (by omega), if_neg (by omega), if_neg (by omega), if_neg (by omega), if_neg (by omega), if_neg (by omega)]
theorem kw_kt_S {g s ar : Int32} (h : kw_S ar) : kw_S (kw_kt ce g s ar) := by
  intro i hi
  by_cases z : i < 32
  · rw [kw_kt, kw_rm_bt (by omega) z, h i hi]; rfl
  · exact b_big (by omega)
theorem kw_v_eq (hS : kw_S wt) (hF : kw_FA wt fs fa) (hC : kw_CE wt ce co) {κ : Nat} {a f g set f' g' : Int32} (hκ : κ ≤ 9) (ha0 : κ = 0 → ∃ p, p < 4 ∧ a = nI p) (ha5 : κ = 5 → ∃ p, p < 3 ∧ a = nI p) (ha6 : 6 ≤ κ → κ ≤ 8 → ∃ p, 1 ≤ p ∧ p ≤ 7 ∧ a = nI p)
    (hset : kw_sub set wt) (hf : κ ≠ 0 → kw_sub f set) (hg : kw_t κ = 2 → kw_sub g (if κ = 9 then f else set)) (hf' : κ ≠ 0 → f' = f) (hg' : kw_t κ = 2 → g' = g) :
    kw_vX fs ce a f g set κ = kw_mk (fun w => bt set w && kw_iY fa co a set f' g' w κ) 16 := by
  have hSa : kw_S set := kw_sub_S hset hS
  have hc : κ = 0 ∨ κ = 1 ∨ κ = 2 ∨ κ = 3 ∨ κ = 4 ∨ κ = 5 ∨ κ = 6 ∨ κ = 7 ∨ κ = 8 ∨ κ = 9 := by omega
  rcases hc with rfl | rfl | rfl | rfl | rfl | rfl | rfl | rfl | rfl | rfl
  · obtain ⟨p, hp, rfl⟩ := ha0 rfl
    rw [kw_vX, nI_clamp (by omega)]
    refine kw_ext16 (kw_S_and' hSa) kw_mk_S fun w hw => ?_
    rw [kw_mk16 hw, b_and, kw_iY, if_pos rfl, nI_clamp (by omega), Bool.and_comm]
    cases e : bt set w
    · rfl
    · rw [(hF w hw (hset w e)).1 p hp]
  · rw [kw_vX, hf' (by omega)]
    refine kw_ext16 (kw_S_and hSa) kw_mk_S fun w hw => ?_
    rw [kw_mk16 hw, b_and, kw_not _ (by omega)]
    rfl
  · rw [kw_vX, hf' (by omega), hg' rfl]
    have hf := hf (by omega)
    have hg : kw_sub g set := hg rfl
    refine kw_ext16 (kw_S_and (kw_sub_S hf hSa)) kw_mk_S fun w hw => ?_
    rw [kw_mk16 hw, b_and]
    show (bt f w && bt g w) = (bt set w && (bt f w && bt g w))
    cases e : bt f w
    · rw [Bool.false_and, Bool.and_false]
    · rw [hf w e, Bool.true_and, Bool.true_and]
  · rw [kw_vX, hf' (by omega), hg' rfl]
    have hf := hf (by omega)
    have hg : kw_sub g set := hg rfl
    refine kw_ext16 (kw_S_or (kw_sub_S hf hSa) (kw_sub_S hg hSa)) kw_mk_S fun w hw => ?_
    rw [kw_mk16 hw, b_or]
    show (bt f w || bt g w) = (bt set w && (bt f w || bt g w))
    cases e : bt f w
    · cases e2 : bt g w
      · rw [Bool.or_false, Bool.and_false]
      · rw [hg w e2]; rfl
    · rw [hf w e, Bool.true_and]
  · rw [kw_vX, hf' (by omega), hg' rfl]
    refine kw_ext16 (kw_S_and hSa) kw_mk_S fun w hw => ?_
    rw [kw_mk16 hw, b_and, kw_not _ (by omega), b_xor]
    show (bt set w && !(bt f w ^^ bt g w)) = (bt set w && (bt f w == bt g w))
    cases bt f w <;> cases bt g w <;> rfl
  · obtain ⟨p, hp, rfl⟩ := ha5 rfl
    rw [kw_vX, hf' (by omega)]
    refine kw_ext16 (kw_ak_S hSa) kw_mk_S fun w hw => ?_
    rw [kw_mk16 hw, kw_iY_s (by omega), kw_seen, if_pos rfl]
    exact kw_eq5 hS hC hset hp hw
  · rw [kw_vX, hf' (by omega)]
    refine kw_ext16 (kw_ak_S hSa) kw_mk_S fun w hw => ?_
    rw [kw_mk16 hw, kw_iY_s (by omega), kw_seen, if_neg (by omega), if_pos rfl]
    exact kw_eq6 hS hC hset hw
  · obtain ⟨p, h1, h7, rfl⟩ := ha6 (by omega) (by omega)
    have hS7 : kw_S (kw_ck ce (nI p) f set 15) := by rw [kw_ck]; exact kw_ak_S hSa
    rw [kw_vX, hf' (by omega)]
    refine kw_ext16 hS7 kw_mk_S fun w hw => ?_
    rw [kw_mk16 hw, kw_iY_s (by omega), kw_seen, if_neg (by omega), if_neg (by omega), if_pos rfl]
    exact kw_eq7 hS hC hset (hf (by omega)) (kw_g17 p h1 h7) hw
  · rw [kw_vX, hf' (by omega)]
    refine kw_ext16 (kw_kt_S hSa) kw_mk_S fun w hw => ?_
    rw [kw_mk16 hw, kw_iY_s (by omega), kw_seen, if_neg (by omega), if_neg (by omega), if_neg (by omega)]
    exact kw_eq8 hS hC hset hw
  · have e9 : kw_vX fs ce a f g set 9 = (set &&& (f ^^^ (-1))) ||| g := rfl
    rw [e9, hf' (by omega), hg' rfl]
    have hf := hf (by omega)
    have hg : kw_sub g f := hg rfl
    refine kw_ext16 (kw_S_or (kw_S_and hSa) (kw_sub_S hg (kw_sub_S hf hSa))) kw_mk_S fun w hw => ?_
    rw [kw_mk16 hw, b_or, b_and, kw_not _ (by omega)]
    show ((bt set w && !bt f w) || bt g w) = (bt set w && (!bt f w || bt g w))
    cases e2 : bt g w
    · rw [Bool.or_false, Bool.or_false]
    · rw [hf w (hg w e2)]
      cases bt f w <;> rfl
variable {sz kd ag ho : Nat → Int32}
theorem kw_H_eq {Z : Nat → Nat} {o s n : Nat} (hfm : kw_fm tk ta fz kd ag Z o s n) (hS : kw_S wt) (hF : kw_FA wt fs fa) (hC : kw_CE wt ce co) : ∀ i, i ≤ n → ∀ j, j < i → kw_HX wt fs ce tk ta hs Z o n i (o + j) = kw_HY wt fa co ag ho (fun i => (tk (o + i)).toNatClampNeg) (fun i => Z (o + i)) s n i j := by
  obtain ⟨h24, hc, hw⟩ := hfm
  intro i
  induction i with
  | zero => intro _ j hj; omega
  | succ i ih =>
    intro hi j hj
    have ih := ih (by omega)
    by_cases e : j = i
    · subst e
      have e1 : kw_HX wt fs ce tk ta hs Z o n (j + 1) (o + j) = kw_VX wt fs ce tk ta Z o n j (kw_HX wt fs ce tk ta hs Z o n j) := pk_us
      have e2 : kw_HY wt fa co ag ho (fun i => (tk (o + i)).toNatClampNeg) (fun i => Z (o + i)) s n (j + 1) j = kw_VY wt fa co ag (fun i => (tk (o + i)).toNatClampNeg) (fun i => Z (o + i)) s n j (kw_HY wt fa co ag ho (fun i => (tk (o + i)).toNatClampNeg) (fun i => Z (o + i)) s n j) := pk_us
      rw [e1, e2]
      have hsub := kw_HY_sub (th := wt) (fa := fa) (co := co) (ag := ag) (ho := ho) (K := fun i => (tk (o + i)).toNatClampNeg) (Z := fun i => Z (o + i)) (s := s) (n := n) hS j
      generalize kw_HX wt fs ce tk ta hs Z o n j = A at ih
      generalize kw_HY wt fa co ag ho (fun i => (tk (o + i)).toNatClampNeg) (fun i => Z (o + i)) s n j = B at ih hsub
      obtain ⟨_, ea, _, κ, hκ, ek, ha0, ha5, ha6⟩ := hc j (by omega)
      have eκ : (tk (o + j)).toNatClampNeg = κ := by rw [ek]; exact nI_clamp (by omega)
      subst eκ
      have hval : kw_val wt A o (kw_ix (fun i => (tk (o + i)).toNatClampNeg) (fun i => Z (o + i)) n j) = kw_val wt B 0 (kw_ix (fun i => (tk (o + i)).toNatClampNeg) (fun i => Z (o + i)) n j) := by
        have := kw_ix_le (K := fun i => (tk (o + i)).toNatClampNeg) (Z := fun i => Z (o + i)) (n := n) j
        unfold kw_val
        by_cases z : kw_ix (fun i => (tk (o + i)).toNatClampNeg) (fun i => Z (o + i)) n j = 0
        · rw [if_pos z, if_pos z]
        · rw [if_neg z, if_neg z, Nat.zero_add]
          exact ih _ (by omega)
      have hvs : kw_sub (kw_val wt B 0 (kw_ix (fun i => (tk (o + i)).toNatClampNeg) (fun i => Z (o + i)) n j)) wt := by
        have := kw_ix_le (K := fun i => (tk (o + i)).toNatClampNeg) (Z := fun i => Z (o + i)) (n := n) j
        unfold kw_val
        by_cases z : kw_ix (fun i => (tk (o + i)).toNatClampNeg) (fun i => Z (o + i)) n j = 0
        · rw [if_pos z]; exact kw_sub_rf _
        · rw [if_neg z, Nat.zero_add]
          exact (hsub _ (by omega)).2
      have hq := hw.2.2 j (by omega)
      have hr : 1 ≤ j → 1 ≤ Z (o + (j - 1)) := fun z => (kw_wf_rng hw (j - 1) (by omega)).1
      have hup := fun i' (h1 : i' < j) h2 => kw_ix_up hw (i := i') (j := j) h1 (by omega) h2
      have hG := fun (h1 : 1 ≤ j) h2 => kw_ix_G hw (i := j - 1) (by omega) h2
      unfold kw_VX kw_VY kw_f1
      dsimp only at hq hup hG ⊢
      rw [hval, ea]
      have eG : 1 ≤ j → j - 1 + 1 = j := fun z => by omega
      obtain ⟨q0, q1, q2⟩ := hq
      have t0 : (tk (o + j)).toNatClampNeg ≠ 0 → kw_t (tk (o + j)).toNatClampNeg = 1 ∨ kw_t (tk (o + j)).toNatClampNeg = 2 := fun z => by
        unfold kw_t
        rw [if_neg z]
        by_cases z2 : (tk (o + j)).toNatClampNeg = 2 ∨ (tk (o + j)).toNatClampNeg = 3 ∨ (tk (o + j)).toNatClampNeg = 4 ∨ (tk (o + j)).toNatClampNeg = 9
        · rw [if_pos z2]; exact Or.inr rfl
        · rw [if_neg z2]; exact Or.inl rfl
      refine kw_v_eq hS hF hC hκ ha0 ha5 ha6 hvs (fun z => ?_) (fun t => ?_) (fun z => ?_) (fun t => ?_)
      · rcases t0 z with t | t
        · obtain ⟨h1, _⟩ := q1 t
          rw [if_neg (by omega), ih (j - 1) (by omega), ← hup (j - 1) (by omega) (Or.inl ⟨by omega, by omega, fun z9 => by rw [kw_t9 z9] at t; omega⟩)]
          exact (hsub (j - 1) (by omega)).1
        · obtain ⟨h1, _⟩ := q2 t
          rw [if_pos t, ih (j - 1 - Z (o + (j - 1))) (by omega), ← hup (j - 1 - Z (o + (j - 1))) (by omega) (Or.inr ⟨t, by omega⟩)]
          exact (hsub (j - 1 - Z (o + (j - 1))) (by omega)).1
      · obtain ⟨h1, _⟩ := q2 t
        have hr := hr (by omega)
        rw [ih (j - 1) (by omega)]
        by_cases z9 : (tk (o + j)).toNatClampNeg = 9
        · rw [if_pos z9, if_pos t, ih (j - 1 - Z (o + (j - 1))) (by omega)]
          have hs1 := (hsub (j - 1) (by omega)).1
          rw [hG (by omega) (by rw [eG (by omega)]; exact z9), kw_val, if_neg (by omega), Nat.zero_add] at hs1
          rw [show j - 1 + 1 - Z (o + (j - 1)) - 1 = j - 1 - Z (o + (j - 1)) from by omega] at hs1
          exact hs1
        · rw [if_neg z9, ← hup (j - 1) (by omega) (Or.inl ⟨by omega, by omega, z9⟩)]
          exact (hsub (j - 1) (by omega)).1
      · rw [if_neg z]
        rcases t0 z with t | t
        · obtain ⟨h1, _⟩ := q1 t
          rw [if_neg (by omega), if_neg (by omega), ih (j - 1) (by omega)]
        · obtain ⟨h1, _⟩ := q2 t
          rw [if_pos t, if_pos t, ih (j - 1 - Z (o + (j - 1))) (by omega)]
      · obtain ⟨h1, _⟩ := q2 t
        rw [if_neg (by omega), ih (j - 1) (by omega)]
    · have e1 : kw_HX wt fs ce tk ta hs Z o n (i + 1) (o + j) = kw_HX wt fs ce tk ta hs Z o n i (o + j) := pk_un (by omega)
      have e2 : kw_HY wt fa co ag ho (fun i => (tk (o + i)).toNatClampNeg) (fun i => Z (o + i)) s n (i + 1) j = kw_HY wt fa co ag ho (fun i => (tk (o + i)).toNatClampNeg) (fun i => Z (o + i)) s n i j := pk_un (by omega)
      rw [e1, e2]
      exact ih j (by omega)
end
