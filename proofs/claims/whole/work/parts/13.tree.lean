section
variable {K Z : Nat → Nat} {n : Nat}
theorem kw_wf_rng (hw : kw_wf K Z n) : ∀ i, i < n → 1 ≤ Z i ∧ Z i ≤ i + 1 := by
  intro i
  induction i using Nat.strongRecOn with
  | ind i ih =>
    intro hi
    obtain ⟨q0, q1, q2⟩ := hw.2.2 i hi
    rcases kw_t_012 (K i) with h | h | h
    · have := q0 h; omega
    · have := q1 h
      have := ih (i - 1) (by omega) (by omega)
      omega
    · have := q2 h
      have := ih (i - 1) (by omega) (by omega)
      have := ih (i - 1 - Z (i - 1)) (by omega) (by omega)
      omega
theorem kw_lam (hw : kw_wf K Z n) : ∀ j, j < n → ∀ i, i ≤ j → j + 1 ≤ i + Z j → j + 1 + Z i ≤ i + 1 + Z j := by
  intro j
  induction j using Nat.strongRecOn with
  | ind j ih =>
    intro hj i hi hs
    by_cases e : i = j
    · subst e; omega
    · obtain ⟨q0, q1, q2⟩ := hw.2.2 j hj
      rcases kw_t_012 (K j) with h | h | h
      · have := q0 h; omega
      · have := q1 h
        have := ih (j - 1) (by omega) (by omega) i (by omega) (by omega)
        omega
      · have := q2 h
        by_cases z : j ≤ i + Z (j - 1)
        · have := ih (j - 1) (by omega) (by omega) i (by omega) (by omega)
          omega
        · have := ih (j - 1 - Z (j - 1)) (by omega) (by omega) i (by omega) (by omega)
          omega
/-- where the F of the innermost AFTER stands in whose G token i is: its place and one, or 0 -/
def kw_ixs (K Z : Nat → Nat) (i : Nat) : Nat → Nat → Nat
  | 0, _ => 0
  | d + 1, j => if K j = 9 ∧ j - Z (j - 1) ≤ i then j - Z (j - 1) else kw_ixs K Z i d (j + 1)
def kw_ix (K Z : Nat → Nat) (n i : Nat) : Nat := kw_ixs K Z i (n - 1 - i) (i + 1)
theorem kw_ixs_le (i : Nat) : ∀ d j, kw_ixs K Z i d j ≤ i := by
  intro d
  induction d with
  | zero => intro j; exact Nat.zero_le _
  | succ d ih =>
    intro j
    rw [kw_ixs]
    by_cases h : K j = 9 ∧ j - Z (j - 1) ≤ i
    · rw [if_pos h]; exact h.2
    · rw [if_neg h]; exact ih _
theorem kw_ix_le (i : Nat) : kw_ix K Z n i ≤ i := kw_ixs_le i _ _
theorem kw_ixs_skip (i d : Nat) : ∀ e j, (∀ j', j ≤ j' → j' < j + e → ¬ (K j' = 9 ∧ j' - Z (j' - 1) ≤ i)) → kw_ixs K Z i (e + d) j = kw_ixs K Z i d (j + e) := by
  intro e
  induction e with
  | zero => intro j _; rw [Nat.zero_add]; rfl
  | succ e ih =>
    intro j h
    rw [show e + 1 + d = (e + d) + 1 from by omega, kw_ixs, if_neg (h j (by omega) (by omega)), ih (j + 1) (fun j' h1 h2 => h j' (by omega) (by omega)), show j + 1 + e = j + (e + 1) from by omega]
theorem kw_ixs_cg (i i' : Nat) : ∀ d j, (∀ j', j ≤ j' → j' < j + d → K j' = 9 → (j' - Z (j' - 1) ≤ i ↔ j' - Z (j' - 1) ≤ i')) → kw_ixs K Z i d j = kw_ixs K Z i' d j := by
  intro d
  induction d with
  | zero => intro j _; rfl
  | succ d ih =>
    intro j h
    rw [kw_ixs, kw_ixs, ih (j + 1) (fun j' h1 h2 => h j' (by omega) (by omega))]
    by_cases e : K j = 9
    · have := h j (by omega) (by omega) e
      by_cases z : j - Z (j - 1) ≤ i
      · rw [if_pos ⟨e, z⟩, if_pos ⟨e, this.mp z⟩]
      · rw [if_neg (fun q => z q.2), if_neg (fun q => z (this.mpr q.2))]
    · rw [if_neg (fun q => e q.1), if_neg (fun q => e q.1)]
theorem kw_ix_top : kw_ix K Z n (n - 1) = 0 := by
  unfold kw_ix
  rw [Nat.sub_self]; rfl
theorem kw_ix_G (hw : kw_wf K Z n) {i : Nat} (hi : i + 1 < n) (h9 : K (i + 1) = 9) : kw_ix K Z n i = i + 1 - Z i := by
  have := kw_wf_rng hw i (by omega)
  unfold kw_ix
  rw [show n - 1 - i = (n - 2 - i) + 1 from by omega, kw_ixs, Nat.add_sub_cancel, if_pos ⟨h9, by omega⟩]
theorem kw_t9 {κ : Nat} (h : κ = 9) : kw_t κ = 2 := by rw [h]; rfl
theorem kw_ix_up (hw : kw_wf K Z n) {i j : Nat} (hij : i < j) (hj : j < n) (h : (i + 1 = j ∧ 1 ≤ kw_t (K j) ∧ K j ≠ 9) ∨ (kw_t (K j) = 2 ∧ i + 1 + Z (j - 1) = j)) : kw_ix K Z n i = kw_ix K Z n j := by
  have hin : j + 1 ≤ i + Z j := by
    obtain ⟨q0, q1, q2⟩ := hw.2.2 j hj
    rcases h with ⟨h1, h2, h3⟩ | ⟨h1, h2⟩
    · rcases kw_t_012 (K j) with t | t | t
      · omega
      · have := q1 t
        have := kw_wf_rng hw (j - 1) (by omega)
        omega
      · have := q2 t
        have := kw_wf_rng hw (j - 1) (by omega)
        omega
    · have := q2 h1
      have e : j - 1 - Z (j - 1) = i := by omega
      rw [e] at this
      have := kw_wf_rng hw i (by omega)
      omega
  unfold kw_ix
  rw [show n - 1 - i = (j - i) + (n - 1 - j) from by omega, kw_ixs_skip i (n - 1 - j) (j - i) (i + 1), show i + 1 + (j - i) = j + 1 from by omega]
  · apply kw_ixs_cg
    intro j' h1 h2 h9
    obtain ⟨q0, q1, q2⟩ := hw.2.2 j' (by omega)
    have q2 := q2 (kw_t9 h9)
    constructor
    · intro z; omega
    · intro z
      have := kw_lam hw (j' - 1) (by omega) j (by omega) (by omega)
      omega
  · rintro j' h1 h2 ⟨h9, hle⟩
    obtain ⟨q0, q1, q2⟩ := hw.2.2 j' (by omega)
    have q2 := q2 (kw_t9 h9)
    rcases h with ⟨g1, g2, g3⟩ | ⟨g1, g2⟩
    · have : j' = j := by omega
      rw [this] at h9
      exact g3 h9
    · by_cases e : j' = j
      · subst e; omega
      · have := kw_lam hw (j - 1) (by omega) j' (by omega) (by omega)
        have := kw_wf_rng hw (j' - 1 - Z (j' - 1)) (by omega)
        omega
end
/-! the parts of a formula as the reference finds them -/
def kw_st (Z : Nat → Nat) (ro : Nat → Int32) : Nat → Nat → Prop
  | 0, i => i = 0
  | m + 1, i => 0 < i ∧ ro m = nI (i - 1) ∧ kw_st Z ro m (i - Z (i - 1))
theorem kw_st_cg {Z : Nat → Nat} {ro ro' : Nat → Int32} : ∀ m i, (∀ j, j < m → ro j = ro' j) → kw_st Z ro m i → kw_st Z ro' m i := by
  intro m
  induction m with
  | zero => intro i _ h; exact h
  | succ m ih =>
    intro i e h
    exact ⟨h.1, by rw [← e m (by omega)]; exact h.2.1, ih _ (fun j hj => e j (by omega)) h.2.2⟩
theorem kw_st_le {Z : Nat → Nat} {ro : Nat → Int32} {n : Nat} (hZ : ∀ i, i < n → 1 ≤ Z i) : ∀ m i, i ≤ n → kw_st Z ro m i → m ≤ i := by
  intro m
  induction m with
  | zero => intro i _ _; exact Nat.zero_le _
  | succ m ih =>
    intro i hi h
    have h1 := ih _ (by omega) h.2.2
    have := hZ (i - 1) (by have := h.1; omega)
    have := h.1
    omega
/-- k has the taker j -/
def kw_ch (K Z : Nat → Nat) (tr ia : Nat → Int32) (k j : Nat) : Prop := tr k = nI j ∧ ((k + 1 = j ∧ 1 ≤ kw_t (K j) ∧ ia k = kw_b (decide (K j = 9))) ∨ (kw_t (K j) = 2 ∧ k + 1 + Z (j - 1) = j ∧ ia k = 0))
def kw_pi (K Z : Nat → Nat) (tr ia : Nat → Int32) (i : Nat) : Prop := ∀ k, k < i → (tr k = -1 ∧ ia k = 0 ∧ ∀ j, k < j → j < i → k + Z j < j + 1) ∨ (∃ j, k < j ∧ j < i ∧ kw_ch K Z tr ia k j)
def kw_fi (K Z : Nat → Nat) (fi : Nat → Int32) (i : Nat) : Prop := ∀ j, j < i → (kw_t (K j) = 1 → fi j = nI (j - 1)) ∧ (kw_t (K j) = 2 → fi j = nI (j - 1 - Z (j - 1)))
section
variable {K Z : Nat → Nat} {n : Nat} {tr ia tr' ia' : Nat → Int32}
theorem kw_pi_s {i : Nat} (hw : kw_wf K Z n) (hi : i < n) (h : kw_pi K Z tr ia i)
    (h1 : tr' i = -1) (h2 : ia' i = 0)
    (h3 : 1 ≤ kw_t (K i) → tr' (i - 1) = nI i ∧ ia' (i - 1) = if kw_t (K i) = 2 then kw_b (decide (K i = 9)) else ia (i - 1))
    (h4 : kw_t (K i) = 2 → tr' (i - 1 - Z (i - 1)) = nI i ∧ ia' (i - 1 - Z (i - 1)) = ia (i - 1 - Z (i - 1)))
    (h5 : ∀ k, k < i → (1 ≤ kw_t (K i) → k ≠ i - 1) → (kw_t (K i) = 2 → k ≠ i - 1 - Z (i - 1)) → tr' k = tr k ∧ ia' k = ia k) : kw_pi K Z tr' ia' (i + 1) := by
  obtain ⟨q0, q1, q2⟩ := hw.2.2 i hi
  intro k hk
  by_cases e : k = i
  · subst e
    exact Or.inl ⟨h1, h2, fun j z1 z2 => absurd z1 (by omega)⟩
  · by_cases c1 : 1 ≤ kw_t (K i) ∧ k = i - 1
    · obtain ⟨c1, rfl⟩ := c1
      have hi1 : 1 ≤ i := by
        rcases kw_t_012 (K i) with t | t | t
        · omega
        · exact (q1 t).1
        · have := q2 t; omega
      refine Or.inr ⟨i, by omega, by omega, (h3 c1).1, Or.inl ⟨by omega, c1, ?_⟩⟩
      rw [(h3 c1).2]
      by_cases t : kw_t (K i) = 2
      · rw [if_pos t]
      · rw [if_neg t, decide_eq_false (fun z => t (kw_t9 z))]
        rcases h (i - 1) (by omega) with ⟨_, z, _⟩ | ⟨j, z1, z2, _⟩
        · exact z
        · omega
    · by_cases c2 : kw_t (K i) = 2 ∧ k = i - 1 - Z (i - 1)
      · obtain ⟨c2, rfl⟩ := c2
        have hq := q2 c2
        have hr := kw_wf_rng hw (i - 1) (by omega)
        refine Or.inr ⟨i, by omega, by omega, (h4 c2).1, Or.inr ⟨c2, by omega, ?_⟩⟩
        rw [(h4 c2).2]
        rcases h (i - 1 - Z (i - 1)) (by omega) with ⟨_, z, _⟩ | ⟨j, z1, z2, z3⟩
        · exact z
        · exfalso
          have hl := kw_lam hw (i - 1) (by omega) j (by omega) (by omega)
          obtain ⟨r0, r1, r2⟩ := hw.2.2 j (by omega)
          rcases z3.2 with ⟨y1, y2, _⟩ | ⟨y1, y2, _⟩
          · rcases kw_t_012 (K j) with t | t | t
            · omega
            · have := r1 t
              have := kw_wf_rng hw (j - 1) (by omega)
              omega
            · have := r2 t
              have := kw_wf_rng hw (j - 1) (by omega)
              omega
          · have := r2 y1
            have := kw_wf_rng hw (j - 1 - Z (j - 1)) (by omega)
            omega
      · have h5 := h5 k (by omega) (fun z1 z2 => c1 ⟨z1, z2⟩) (fun z1 z2 => c2 ⟨z1, z2⟩)
        rcases h k (by omega) with ⟨z1, z2, z3⟩ | ⟨j, z1, z2, z3⟩
        · refine Or.inl ⟨by rw [h5.1]; exact z1, by rw [h5.2]; exact z2, fun j g1 g2 => ?_⟩
          by_cases ej : j = i
          · subst ej
            rcases kw_t_012 (K j) with t | t | t
            · have := q0 t; omega
            · have := q1 t
              have : k ≠ j - 1 := fun z => c1 ⟨by omega, z⟩
              have := z3 (j - 1) (by omega) (by omega)
              omega
            · have := q2 t
              have n1 : k ≠ j - 1 := fun z => c1 ⟨by omega, z⟩
              have n2 : k ≠ j - 1 - Z (j - 1) := fun z => c2 ⟨t, z⟩
              have := z3 (j - 1) (by omega) (by omega)
              have := z3 (j - 1 - Z (j - 1)) (by omega) (by omega)
              omega
          · exact z3 j g1 (by omega)
        · refine Or.inr ⟨j, z1, by omega, ?_⟩
          unfold kw_ch
          rw [h5.1, h5.2]
          exact z3
/-- the end: every token but the last has its taker -/
theorem kw_pi_end (hw : kw_wf K Z n) (h : kw_pi K Z tr ia n) {k : Nat} (hk : k < n) : (tr k = -1 ∧ k = n - 1) ∨ (∃ j, k < j ∧ j < n ∧ kw_ch K Z tr ia k j) := by
  rcases h k hk with ⟨z1, z2, z3⟩ | z
  · left
    refine ⟨z1, ?_⟩
    apply Classical.byContradiction
    intro e
    have := z3 (n - 1) (by omega) (by omega)
    rw [hw.2.1] at this
    omega
  · exact Or.inr z
end
