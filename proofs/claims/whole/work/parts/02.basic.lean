section
variable {wt aw tc fc : Int32} {fs ce tk ta fz hs ap na : Nat → Int32}
variable {th ac ht : Int32} {fa co sz kd ag fi tr ia ho ro di : Nat → Int32}
theorem kw_pp {post : Int32 → Prop} {b : Bool} (h : post (kw_b b)) : (kw_b b = 0 → post 0) ∧ (¬ kw_b b = 0 → post 1) := kw_br b (fun e => by rw [e] at h; exact h) (fun e => by rw [e] at h; exact h)
theorem kw_pn {post : Int32 → Prop} {b : Bool} (h : post (kw_b (!b))) : (kw_b b = 0 → post 1) ∧ (¬ kw_b b = 0 → post 0) := kw_br b (fun e => by rw [e] at h; exact h) (fun e => by rw [e] at h; exact h)
theorem kw_no {p0 : Int32} {n : Nat} (h : ∀ a, a < n → p0 ≠ nI a) : p0 < 0 ∨ (¬ p0 < 0 ∧ ∃ j, n ≤ j ∧ j < 2 ^ 31 ∧ p0 = nI j) := by
  by_cases g : p0 < 0
  · exact Or.inl g
  · obtain ⟨j, hj, e⟩ := nI_of g
    refine Or.inr ⟨g, j, ?_, hj, e⟩
    apply Classical.byContradiction
    intro z
    exact h j (by omega) e
theorem kx_isIn {post : Int32 → Prop} {x : Int32} {m : Nat} (hm : m < 32) (h : post (kw_b (bt x m))) : wpX_isIn post x (nI m) := by
  unfold wpX_isIn
  rw [kw_bit x hm]
  cases e : bt x m
  · rw [e] at h
    exact br_f (by decide) h
  · rw [e] at h
    exact br_t rfl h
theorem ky_in {post : Int32 → Prop} {x : Int32} {m : Nat} (hm : m < 32) (h : post (kw_b (bt x m))) : wpY_in post (th, ac, ht, fa, co, sz, kd, ag, fi, tr, ia, ho, ro, di) x (nI m) := by
  unfold wpY_in
  dsimp only
  rw [kw_bit x hm]
  cases e : bt x m
  · rw [e] at h
    exact br_f (by decide) h
  · rw [e] at h
    exact br_t rfl h
theorem kx_there {post : Int32 → Prop} {w : Nat} (hw : w < 16) (h : post (kw_b (bt wt w))) : wpX_isThere post (wt, aw, tc, fc, fs, ce, tk, ta, fz, hs, ap, na) (nI w) := by
  unfold wpX_isThere
  dsimp only
  exact br_f (nI_pos (by omega)) (br_f (nI_ge (b := 16) hw (by decide)) (kx_isIn (by omega) (kw_pp h)))
theorem ky_there {post : Int32 → Prop} {w : Nat} (hw : w < 16) (h : post (kw_b (bt th w))) : wpY_isThere post (th, ac, ht, fa, co, sz, kd, ag, fi, tr, ia, ho, ro, di) (nI w) := by
  unfold wpY_isThere
  dsimp only
  exact br_f (nI_pos (by omega)) (br_f (nI_nlt (a := 15) (b := w) (by omega) (by decide) : ¬ (15 : Int32) < nI w) (ky_in (by omega) (kw_pp h)))
theorem kx_thereN {post : Int32 → Prop} {p0 : Int32} (hb : kw_bad wt p0) (h : post 0) : wpX_isThere post (wt, aw, tc, fc, fs, ce, tk, ta, fz, hs, ap, na) p0 := by
  by_cases g : ∃ w, w < 16 ∧ p0 = nI w
  · obtain ⟨w, hw, rfl⟩ := g
    refine kx_there hw ?_
    rw [hb w hw rfl]
    exact h
  · unfold wpX_isThere
    dsimp only
    rcases kw_no (p0 := p0) (n := 16) fun a ha e => g ⟨a, ha, e⟩ with z | ⟨z, j, hj, h31, rfl⟩
    · exact br_t z h
    · exact br_f z (br_t (nI_le (a := 16) hj h31) h)
theorem ky_thereN {post : Int32 → Prop} {p0 : Int32} (hb : kw_bad th p0) (h : post 0) : wpY_isThere post (th, ac, ht, fa, co, sz, kd, ag, fi, tr, ia, ho, ro, di) p0 := by
  by_cases g : ∃ w, w < 16 ∧ p0 = nI w
  · obtain ⟨w, hw, rfl⟩ := g
    refine ky_there hw ?_
    rw [hb w hw rfl]
    exact h
  · unfold wpY_isThere
    dsimp only
    rcases kw_no (p0 := p0) (n := 16) fun a ha e => g ⟨a, ha, e⟩ with z | ⟨z, j, hj, h31, rfl⟩
    · exact br_t z h
    · exact br_f z (br_t (nI_lt (a := 15) (by omega) h31 : (15 : Int32) < nI j) h)
/-! agents and facts -/
theorem kx_ag {post : Int32 → Prop} {a : Nat} (ha : a < 3) (h : post 1) : wpX_isAgent post (nI a) :=
  br_f (nI_pos (by omega)) (br_f (nI_ge (b := 3) ha (by decide)) h)
theorem ky_ag {post : Int32 → Prop} {a : Nat} (ha : a < 3) (h : post 1) : wpY_isAgent post (th, ac, ht, fa, co, sz, kd, ag, fi, tr, ia, ho, ro, di) (nI a) :=
  br_f (nI_pos (by omega)) (br_f (nI_nlt (a := 2) (b := a) (by omega) (by decide) : ¬ (2 : Int32) < nI a) h)
theorem kx_agN {post : Int32 → Prop} {p0 : Int32} (hn : ∀ a, a < 3 → p0 ≠ nI a) (h : post 0) : wpX_isAgent post p0 := by
  rcases kw_no hn with z | ⟨z, j, hj, h31, rfl⟩
  · exact br_t z h
  · exact br_f z (br_t (nI_le (a := 3) hj h31) h)
theorem ky_agN {post : Int32 → Prop} {p0 : Int32} (hn : ∀ a, a < 3 → p0 ≠ nI a) (h : post 0) : wpY_isAgent post (th, ac, ht, fa, co, sz, kd, ag, fi, tr, ia, ho, ro, di) p0 := by
  rcases kw_no hn with z | ⟨z, j, hj, h31, rfl⟩
  · exact br_t z h
  · exact br_f z (br_t (nI_lt (a := 2) (by omega) h31 : (2 : Int32) < nI j) h)
theorem kx_fa {post : Int32 → Prop} {p : Nat} (hp : p < 4) (h : post 1) : wpX_isFact post (nI p) :=
  br_f (nI_pos (by omega)) (br_f (nI_ge (b := 4) hp (by decide)) h)
theorem kx_faN {post : Int32 → Prop} {p0 : Int32} (hn : ∀ a, a < 4 → p0 ≠ nI a) (h : post 0) : wpX_isFact post p0 := by
  rcases kw_no hn with z | ⟨z, j, hj, h31, rfl⟩
  · exact br_t z h
  · exact br_f z (br_t (nI_le (a := 4) hj h31) h)
theorem ky_fa {A B : Prop} {p : Nat} (hp : p < 4) (h : A) : (nI p < 0 → B) ∧ (¬ nI p < 0 → ((nI p ≤ 3 → A) ∧ (¬ nI p ≤ 3 → B))) :=
  br_f (nI_pos (by omega)) (br_t (nI_le (b := 3) (by omega) (by decide)) h)
theorem ky_faN {A B : Prop} {p0 : Int32} (hn : ∀ a, a < 4 → p0 ≠ nI a) (h : B) : (p0 < 0 → B) ∧ (¬ p0 < 0 → ((p0 ≤ 3 → A) ∧ (¬ p0 ≤ 3 → B))) := by
  rcases kw_no hn with z | ⟨z, j, hj, h31, rfl⟩
  · exact br_t z h
  · exact br_f z (br_f (nI_ge (a := 3) (b := j) (by omega) h31) h)
theorem kw_cs3 (p0 : Int32) (n : Nat) : (∀ a, a < n → p0 ≠ nI a) ∨ ∃ a, a < n ∧ p0 = nI a := by
  by_cases h : ∃ a, a < n ∧ p0 = nI a
  · exact Or.inr h
  · exact Or.inl fun a ha e => h ⟨a, ha, e⟩
/-! counts -/
theorem kx_cnt {post : Int32 → Prop} {x : Int32} (h : post (nI (kw_c (bt x) 16))) : wpX_countDigits post x := by
  obtain ⟨n, hn⟩ := kw_lp (fun n i s => wX_countDigits_4 post x n s (nI i)) (fun i => nI (kw_c (bt x) i)) 16 0 (by omega)
    (fun n => br_t (nI_le (a := 16) (by omega) (by decide)) h)
    (fun n i hi g => br_f (nI_ge (b := 16) hi (by decide)) (nm_r (by rw [kw_bit x (by omega), kw_bit']; rfl) (nm_r (nI_1 i) g)))
  exact ⟨n, hn⟩
theorem ky_cnt {post : Int32 → Prop} {x : Int32} (h : post (nI (kw_c (bt x) 16))) : wpY_count post (th, ac, ht, fa, co, sz, kd, ag, fi, tr, ia, ho, ro, di) x := by
  obtain ⟨n, hn⟩ := kw_lp (fun n i s => wY_count_4 post x th ac ht fa co sz kd ag fi tr ia ho ro di n s (nI i)) (fun i => nI (kw_c (bt x) i)) 16 0 (by omega)
    (fun n => br_t (nI_le (a := 16) (by omega) (by decide)) h)
    (fun n i hi g => br_f (nI_ge (b := 16) hi (by decide)) (nm_r (by rw [kw_bit x (by omega), kw_bit']; rfl) (nm_r (nI_1 i) g)))
  exact ⟨n, hn⟩
/-- the lowest of a set: w is below every world of x -/
def kw_lo (x : Int32) (w : Nat) : Bool := !kw_ex (fun v => bt x v) w
theorem kx_low {post : Int32 → Prop} {x : Int32} {w : Nat} (hw : w < 16) (h : post (kw_b (kw_lo x w))) : wpX_isLowestIn post x (nI w) := by
  unfold wpX_isLowestIn
  have e : (x &&& (((1 : Int32) <<< (nI w &&& 31)) - 1)) = 0 ↔ kw_lo x w = true := by
    rw [kw_zero, kw_lo, Bool.not_eq_true', kw_ex_f]
    constructor
    · intro g v hv
      have := g v (by omega)
      rw [b_and, kw_low w hw v (by omega), decide_eq_true hv, Bool.and_true] at this
      exact this
    · intro g i hi
      rw [b_and, kw_low w hw i hi]
      by_cases z : i < w
      · rw [g i z]; rfl
      · rw [decide_eq_false z, Bool.and_false]
  by_cases z : kw_lo x w = true
  · rw [z] at h
    exact br_t (e.mpr z) h
  · have z' : kw_lo x w = false := by cases hh : kw_lo x w; rfl; exact absurd hh z
    rw [z'] at h
    exact br_f (fun hh => z (e.mp hh)) h
theorem ky_same {post : Int32 → Prop} {a w v : Nat} (ha : a < 3) (hw : w < 16) (hv : v < 16) (h : post (kw_b (decide (co (16 * a + w) = co (16 * a + v))))) : wpY_same post (th, ac, ht, fa, co, sz, kd, ag, fi, tr, ia, ho, ro, di) (nI a) (nI w) (nI v) := by
  unfold wpY_same
  dsimp only
  rw [kw_ixY, kw_ixY]
  refine ⟨vp_in_nI (by omega) (by decide), vp_in_nI (by omega) (by decide), ?_⟩
  rw [nI_clamp (by omega), nI_clamp (by omega)]
  by_cases e : co (16 * a + w) = co (16 * a + v)
  · rw [decide_eq_true e] at h
    exact br_t e h
  · rw [decide_eq_false e] at h
    exact br_f e h
/-! sizes of the topmost formulas -/
theorem kx_szt0 {post : Int32 → Prop} (h : post 0) : wpX_sizeOfTopmost post (wt, aw, tc, fc, fs, ce, tk, ta, fz, hs, ap, na) 0 := ⟨1, br_t (by decide) h⟩
theorem kx_szt1 {post : Int32 → Prop} {t z1 : Nat} (ht : tc = nI t) (h31 : t ≤ 144) (h1 : 1 ≤ t) (hz : fz (t - 1) = nI z1) (h : post (nI z1)) : wpX_sizeOfTopmost post (wt, aw, tc, fc, fs, ce, tk, ta, fz, hs, ap, na) 1 := by
  have e1 : tc - 1 - 0 = nI (t - 1) := by
    rw [ht, show (1 : Int32) = nI 1 from rfl, pk_sub h1, Int32.sub_zero]
  refine ⟨2, br_f (by decide) ⟨?_, ?_⟩⟩
  · rw [e1]; exact vp_in_nI (by omega) (by decide)
  · refine nm_r (e' := nI z1) (by rw [e1, nI_clamp (by omega), hz, Int32.zero_add]) (nm_r (e' := 1) (by decide) (br_t (by decide) h))
theorem kx_szt2 {post : Int32 → Prop} {t z1 z2 : Nat} (ht : tc = nI t) (h31 : t ≤ 144) (h1 : 1 + z1 + 1 ≤ t + 1) (h0 : z1 + 1 ≤ t) (hz : fz (t - 1) = nI z1) (hz2 : fz (t - 1 - z1) = nI z2) (h : post (nI (z1 + z2))) : wpX_sizeOfTopmost post (wt, aw, tc, fc, fs, ce, tk, ta, fz, hs, ap, na) 2 := by
  have e1 : tc - 1 - 0 = nI (t - 1) := by
    rw [ht, show (1 : Int32) = nI 1 from rfl, pk_sub (by omega), Int32.sub_zero]
  have e2 : tc - 1 - nI z1 = nI (t - 1 - z1) := by
    rw [ht, show (1 : Int32) = nI 1 from rfl, pk_sub (by omega), pk_sub (by omega)]
  refine ⟨3, br_f (by decide) ⟨?_, ?_⟩⟩
  · rw [e1]; exact vp_in_nI (by omega) (by decide)
  · refine nm_r (e' := nI z1) (by rw [e1, nI_clamp (by omega), hz, Int32.zero_add]) (nm_r (e' := 1) (by decide) (br_f (by decide) ⟨?_, ?_⟩))
    · rw [e2]; exact vp_in_nI (by omega) (by decide)
    · exact nm_r (e' := nI (z1 + z2)) (by rw [e2, nI_clamp (by omega), hz2, nI_add]) (nm_r (e' := 2) (by decide) (br_t (by decide) h))
end
