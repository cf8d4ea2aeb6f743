section
variable {wt aw tc fc : Int32} {fs ce tk ta fz hs ap na : Nat → Int32}
variable {th ac ht : Int32} {fa co sz kd ag fi tr ia ho ro di : Nat → Int32}
/-- how many formulas a token takes -/
def kw_t (κ : Nat) : Nat := if κ = 0 then 0 else if κ = 2 ∨ κ = 3 ∨ κ = 4 ∨ κ = 9 then 2 else 1
def kw_ok (k a : Int32) : Prop := ∃ κ, κ ≤ 9 ∧ k = nI κ ∧ (κ = 0 → ∃ p, p < 4 ∧ a = nI p) ∧ (κ = 5 → ∃ p, p < 3 ∧ a = nI p) ∧ (6 ≤ κ → κ ≤ 8 → ∃ p, 1 ≤ p ∧ p ≤ 7 ∧ a = nI p)
theorem kw_10 {P : Nat → Prop} (h0 : P 0) (h1 : P 1) (h2 : P 2) (h3 : P 3) (h4 : P 4) (h5 : P 5) (h6 : P 6) (h7 : P 7) (h8 : P 8) (h9 : P 9) : ∀ κ, κ ≤ 9 → P κ := by
  intro κ h
  have : κ = 0 ∨ κ = 1 ∨ κ = 2 ∨ κ = 3 ∨ κ = 4 ∨ κ = 5 ∨ κ = 6 ∨ κ = 7 ∨ κ = 8 ∨ κ = 9 := by omega
  rcases this with rfl | rfl | rfl | rfl | rfl | rfl | rfl | rfl | rfl | rfl <;> assumption
theorem kx_taken {post : Int32 → Prop} : ∀ κ, κ ≤ 9 → post (nI (kw_t κ)) → wpX_takenBy post (nI κ) := by
  refine kw_10 ?_ ?_ ?_ ?_ ?_ ?_ ?_ ?_ ?_ ?_ <;> intro h <;> unfold wpX_takenBy <;> repeat (first | exact h | refine br_t (by decide) ?_ | refine br_f (by decide) ?_)
theorem ky_takes {post : Int32 → Prop} : ∀ κ, κ ≤ 9 → post (nI (kw_t κ)) → wpY_takes post (th, ac, ht, fa, co, sz, kd, ag, fi, tr, ia, ho, ro, di) (nI κ) := by
  refine kw_10 ?_ ?_ ?_ ?_ ?_ ?_ ?_ ?_ ?_ ?_ <;> intro h <;> unfold wpY_takes <;> dsimp only <;> repeat (first | exact h | refine br_t (by decide) ?_ | refine br_f (by decide) ?_)
theorem kw_17 (a : Int32) : (∃ p, 1 ≤ p ∧ p ≤ 7 ∧ a = nI p ∧ ∀ A B : Prop, B → ((a < 1 → A) ∧ (¬ a < 1 → ((7 < a → A) ∧ (¬ 7 < a → B))))) ∨ (∀ A B : Prop, A → ((a < 1 → A) ∧ (¬ a < 1 → ((7 < a → A) ∧ (¬ 7 < a → B))))) := by
  by_cases h : a < 0
  · refine Or.inr fun A B z => br_t (Int32.lt_trans h (by decide)) z
  · obtain ⟨j, hj, rfl⟩ := nI_of h
    by_cases h1 : j < 1
    · exact Or.inr fun A B z => br_t (nI_lt (b := 1) h1 (by decide)) z
    · by_cases h7 : j ≤ 7
      · exact Or.inl ⟨j, by omega, h7, rfl, fun A B z => br_f (nI_nlt (b := 1) (by omega) hj) (br_f (nI_nlt (a := 7) (by omega) (by decide) : ¬ (7 : Int32) < nI j) z)⟩
      · exact Or.inr fun A B z => br_f (nI_nlt (b := 1) (by omega) hj) (br_t (nI_lt (a := 7) (by omega) hj : (7 : Int32) < nI j) z)
theorem kw_tokP (k a : Int32) : (kw_ok k a ∧ (∀ post : Int32 → Prop, post 1 → wpX_isToken post k a) ∧ (∀ post : Int32 → Prop, post 1 → wpY_isToken post (th, ac, ht, fa, co, sz, kd, ag, fi, tr, ia, ho, ro, di) k a)) ∨ ((∀ post : Int32 → Prop, post 0 → wpX_isToken post k a) ∧ (∀ post : Int32 → Prop, post 0 → wpY_isToken post (th, ac, ht, fa, co, sz, kd, ag, fi, tr, ia, ho, ro, di) k a)) := by
  rcases kw_cs3 k 10 with hn | ⟨κ, hκ, rfl⟩
  · right
    rcases kw_no hn with z | ⟨z, j, hj, h31, rfl⟩
    · have z0 : ¬ k = 0 := fun e => by rw [e] at z; exact absurd z (by decide)
      have z5 : ¬ k = 5 := fun e => by rw [e] at z; exact absurd z (by decide)
      have z6 : k < 6 := Int32.lt_trans z (by decide)
      have zl : k ≤ 0 := Int32.le_of_lt z
      exact ⟨fun post h => br_t z h, fun post h => br_f z0 (br_f z5 (br_t z6 (br_t zl h)))⟩
    · have z0 : ¬ nI j = 0 := fun e => by rw [← nI_0, nI_eq h31 (by omega)] at e; omega
      have z5 : ¬ nI j = 5 := fun e => by rw [show (5 : Int32) = nI 5 from rfl, nI_eq h31 (by omega)] at e; omega
      have z6 : ¬ nI j < 6 := nI_nlt (b := 6) (by omega) h31
      have z8 : (8 : Int32) < nI j := nI_lt (a := 8) (by omega) h31
      have z9 : (9 : Int32) < nI j := nI_lt (a := 9) (by omega) h31
      have zl : ¬ nI j ≤ 0 := nI_nle (by omega) h31
      exact ⟨fun post h => br_f z (br_t z9 h), fun post h => br_f z0 (br_f z5 (br_f z6 (br_t z8 (br_f zl (br_t z9 h)))))⟩
  · have hκ9 : κ ≤ 9 := by omega
    clear hκ
    revert κ
    refine kw_10 ?_ ?_ ?_ ?_ ?_ ?_ ?_ ?_ ?_ ?_
    · rcases kw_cs3 a 4 with hn | ⟨p, hp, rfl⟩
      · right
        refine ⟨fun post h => br_f (by decide) (br_f (by decide) (br_t (by decide) (kx_faN hn ⟨kw_nar false, h⟩))), fun post h => br_t (by decide) ?_⟩
        rcases kw_no hn with z | ⟨z, j, hj, h31, rfl⟩
        · exact br_t z h
        · exact br_f z (br_t (nI_lt (a := 3) (by omega) h31 : (3 : Int32) < nI j) h)
      · left
        exact ⟨⟨0, by omega, rfl, fun _ => ⟨p, hp, rfl⟩, fun e => absurd e (by omega), fun e => absurd e (by omega)⟩,
          fun post h => br_f (by decide) (br_f (by decide) (br_t (by decide) (kx_fa hp ⟨kw_nar true, h⟩))),
          fun post h => br_t (by decide) (br_f (nI_pos (by omega)) (br_f (nI_nlt (a := 3) (b := p) (by omega) (by decide) : ¬ (3 : Int32) < nI p) h))⟩
    iterate 4
      · left
        refine ⟨⟨_, ?_, rfl, ?_, ?_, ?_⟩, fun post h => ?_, fun post h => ?_⟩
        · omega
        · omega
        · omega
        · omega
        · unfold wpX_isToken; repeat (first | exact h | refine br_t (by decide) ?_ | refine br_f (by decide) ?_)
        · unfold wpY_isToken; dsimp only; repeat (first | exact h | refine br_t (by decide) ?_ | refine br_f (by decide) ?_)
    · rcases kw_cs3 a 3 with hn | ⟨p, hp, rfl⟩
      · right
        refine ⟨fun post h => ?_, fun post h => br_f (by decide) (br_t (by decide) (ky_agN hn ⟨kw_nar false, h⟩))⟩
        exact br_f (by decide) (br_f (by decide) (br_f (by decide) (br_f (by decide) (br_f (by decide) (br_f (by decide) (br_f (by decide) (br_t (by decide) (kx_agN hn ⟨kw_nar false, h⟩))))))))
      · left
        refine ⟨⟨5, by omega, rfl, fun e => absurd e (by omega), fun _ => ⟨p, hp, rfl⟩, fun e => absurd e (by omega)⟩, fun post h => ?_, fun post h => br_f (by decide) (br_t (by decide) (ky_ag hp ⟨kw_nar true, h⟩))⟩
        exact br_f (by decide) (br_f (by decide) (br_f (by decide) (br_f (by decide) (br_f (by decide) (br_f (by decide) (br_f (by decide) (br_t (by decide) (kx_ag hp ⟨kw_nar true, h⟩))))))))
    iterate 3
      · rcases kw_17 a with ⟨p, h1, h7, rfl, hp⟩ | hp
        · left
          refine ⟨⟨_, ?_, rfl, ?_, ?_, fun _ _ => ⟨p, h1, h7, rfl⟩⟩, fun post h => ?_, fun post h => ?_⟩
          · omega
          · omega
          · omega
          · unfold wpX_isToken; repeat (first | exact hp _ _ h | refine br_t (by decide) ?_ | refine br_f (by decide) ?_)
          · unfold wpY_isToken; dsimp only; repeat (first | exact hp _ _ h | refine br_t (by decide) ?_ | refine br_f (by decide) ?_)
        · right
          refine ⟨fun post h => ?_, fun post h => ?_⟩
          · unfold wpX_isToken; repeat (first | exact hp _ _ h | refine br_t (by decide) ?_ | refine br_f (by decide) ?_)
          · unfold wpY_isToken; dsimp only; repeat (first | exact hp _ _ h | refine br_t (by decide) ?_ | refine br_f (by decide) ?_)
    · left
      refine ⟨⟨_, ?_, rfl, ?_, ?_, ?_⟩, fun post h => ?_, fun post h => ?_⟩
      · omega
      · omega
      · omega
      · omega
      · unfold wpX_isToken; repeat (first | exact h | refine br_t (by decide) ?_ | refine br_f (by decide) ?_)
      · unfold wpY_isToken; dsimp only; repeat (first | exact h | refine br_t (by decide) ?_ | refine br_f (by decide) ?_)
end
