section
variable {wt aw tc fc : Int32} {fs ce tk ta fz hs ap na : Nat → Int32}
variable {th ac ht : Int32} {fa co sz kd ag fi tr ia ho ro di : Nat → Int32}
def kw_my (new old : Nat → Int32) (o i : Nat) : Nat → Int32 := fun j => if o ≤ j ∧ j < o + i then new (j - o) else old j
theorem kw_my_upd {new old : Nat → Int32} {o i : Nat} : upd (kw_my new old o i) (o + i) (new i) = kw_my new old o (i + 1) := by
  funext j
  unfold upd kw_my
  by_cases e : j = o + i
  · rw [if_pos e, if_pos (by omega), show j - o = i from by omega]
  · rw [if_neg e]
    by_cases e2 : o ≤ j ∧ j < o + i
    · rw [if_pos e2, if_pos (by omega)]
    · rw [if_neg e2, if_neg (by omega)]
theorem kw_my_0 {new old : Nat → Int32} {o : Nat} : kw_my new old o 0 = old := by
  funext j
  exact if_neg (by omega)
theorem kw_my_in {new old : Nat → Int32} {o i w : Nat} (h : w < i) : kw_my new old o i (o + w) = new w := by
  unfold kw_my
  rw [if_pos (by omega), show o + w - o = w from by omega]
theorem kw_my_out {new old : Nat → Int32} {o i j : Nat} (h : j < o ∨ o + i ≤ j) : kw_my new old o i j = old j := if_neg (by omega)
/-! the component -/
def kw_ln (ce : Nat → Int32) (r : Int32) (a w : Nat) : Int32 := if bt r w then ce (16 * a + w) &&& r else ce (16 * a + w) &&& (r ^^^ (-1))
theorem kx_learn {post : Int32 → SX → Prop} {r : Int32} {a : Nat} (ha : a < 3) (h : post (nI (kw_c (kw_clX wt (kw_my (kw_ln ce r a) ce (16 * a) 16) a) 16)) (wt, aw, tc, fc, fs, kw_my (kw_ln ce r a) ce (16 * a) 16, tk, ta, fz, hs, ap, na)) : ∃ n, wX_learn_26 post (nI a) r wt aw tc fc n 0 fs ce tk ta fz hs ap na := by
  have hin := kw_lp (fun n i q => wX_learn_26 post (nI a) r wt aw tc fc n (nI i) fs q tk ta fz hs ap na) (fun i => kw_my (kw_ln ce r a) ce (16 * a) i) 16 0 (by omega) (fun n => br_t (nI_le (a := 16) (by omega) (by decide)) (kx_classes ha h)) (fun n w hw g => by
    refine br_f (nI_ge (b := 16) hw (by decide)) ?_
    rw [kw_ixX, nI_clamp (by omega), kw_my_out (j := 16 * a + w) (by omega)]
    refine ⟨vp_in_nI (by omega) (by decide), kx_isIn (by omega) (kw_br _ (fun e => ⟨vp_in_nI (by omega) (by decide), nm_r ?_ (nm_r (nI_1 w) g)⟩) (fun e => ⟨vp_in_nI (by omega) (by decide), nm_r ?_ (nm_r (nI_1 w) g)⟩))⟩
    · rw [← kw_my_upd, kw_ln, e]; rfl
    · rw [← kw_my_upd, kw_ln, e]; rfl)
  obtain ⟨n, hn⟩ := hin
  rw [kw_my_0] at hn
  exact ⟨n, hn⟩
/-! the reference -/
def kw_lc (th : Int32) (co : Nat → Int32) (r : Int32) (a w v : Nat) : Bool := bt th v && kw_R co a w v && (bt r w == bt r v)
def kw_rt (c : Nat → Bool) (w : Nat) : Nat → Nat
  | 0 => w
  | k + 1 => if c (15 - k) then 15 - k else kw_rt c w k
def kw_RT (th : Int32) (co : Nat → Int32) (r : Int32) (a w : Nat) : Int32 := nI (kw_rt (kw_lc th co r a w) w 16)
theorem ky_learn50 {post : Int32 → SY → Prop} {J : Int32 → (Nat → Int32) → (Nat → Int32) → (Nat → Int32) → (Nat → Int32) → (Nat → Int32) → (Nat → Int32) → (Nat → Int32) → (Nat → Int32) → (Nat → Int32) → (Nat → Int32) → (Nat → Int32) → Prop} {r : Int32} {a w : Nat} (ha : a < 3) (hw : w < 16) (h : J (nI (w + 1)) fa co sz kd ag fi tr ia ho (upd ro w (kw_RT th co r a w)) di) : ∃ n, wY_learn_50 post J (nI a) r (nI w) th ac ht n 15 fa co sz kd ag fi tr ia ho (upd ro w (nI w)) di := by
  have hin := kw_lp (fun n k q => wY_learn_50 post J (nI a) r (nI w) th ac ht n (nI (16 - k) + (-1)) fa co sz kd ag fi tr ia ho q di) (fun k => upd ro w (nI (kw_rt (kw_lc th co r a w) w k))) 16 0 (by omega) (fun n => br_t (by decide) (nm_r (nI_1 w) h)) (fun n k hk g => by
    have e0 : nI (16 - k) + (-1) = nI (15 - k) := by
      rw [show 16 - k = 15 - k + 1 from by omega]; exact pk_m1 (15 - k)
    have e1 : 16 - (k + 1) = 15 - k := by omega
    rw [e1] at g
    rw [kw_rt] at g
    rw [e0]
    have hno : kw_lc th co r a w (15 - k) = false → ∀ ro', ro' = upd (upd ro w (nI (kw_rt (kw_lc th co r a w) w k))) w (upd ro w (nI (kw_rt (kw_lc th co r a w) w k)) w) → ∀ x4, x4 = nI (15 - k) + (-1) → wY_learn_50 post J (nI a) r (nI w) th ac ht n x4 fa co sz kd ag fi tr ia ho (ro') di := by
      intro e ro' er x4 ex
      rw [e, if_neg (by decide)] at g
      rw [er, ex, pk_us, kw_updupd]
      exact g
    refine br_f (nI_pos (by omega)) (ky_there (by omega) (kw_br _ (fun e => ?_) (fun e => ky_same ha hw (by omega) (kw_br _ (fun e2 => ?_) (fun e2 => ky_in (by omega) (ky_in (by omega) (kw_br2 _ _ (fun e3 => ?_) (fun e3 => ?_))))))))
    · rw [nI_clamp (by omega)]
      exact ⟨vp_in_nI (by omega) (by decide), vp_in_nI (by omega) (by decide), hno (by rw [kw_lc, e]; rfl)⟩
    · rw [nI_clamp (by omega)]
      exact ⟨vp_in_nI (by omega) (by decide), vp_in_nI (by omega) (by decide), hno (by rw [kw_lc, e, kw_R, e2]; rfl)⟩
    · rw [nI_clamp (by omega)]
      refine ⟨vp_in_nI (by omega) (by decide), nm_r kw_updupd (nm_e ?_)⟩
      have e4 : kw_lc th co r a w (15 - k) = true := by rw [kw_lc, e, kw_R, e2, e3]; simp
      rw [e4, if_pos rfl] at g
      exact g
    · rw [nI_clamp (by omega)]
      refine ⟨vp_in_nI (by omega) (by decide), vp_in_nI (by omega) (by decide), hno ?_⟩
      rw [kw_lc, e, kw_R, e2]
      simpa using e3)
  obtain ⟨n, hn⟩ := hin
  rw [show nI (16 - 0) + (-1) = 15 from by decide] at hn
  exact ⟨n, hn⟩
theorem ky_learn {post : Int32 → SY → Prop} {r : Int32} {a : Nat} (ha : a < 3) (h : ∀ ro', post (nI (kw_c (kw_clY th (kw_my (kw_RT th co r a) co (16 * a) 16) a) 16)) (th, ac, ht, fa, kw_my (kw_RT th co r a) co (16 * a) 16, sz, kd, ag, fi, tr, ia, ho, ro', di)) : ∃ n, wY_learn_33 post (nI a) r th ac ht n 0 fa co sz kd ag fi tr ia ho ro di := by
  refine kw_lp (fun n i q => wY_learn_33 post (nI a) r th ac ht n (nI i) fa co sz kd ag fi tr ia ho q di) (fun i => kw_mx (kw_RT th co r a) ro i) 16 0 (by omega) (fun n => ?_) (fun n w hw g => ?_)
  · refine br_t (nI_le (a := 16) (by omega) (by decide)) ?_
    have hin := kw_lp (fun n i q => wY_learn_122 post (nI a) th ac ht n (nI i) fa q sz kd ag fi tr ia ho (kw_mx (kw_RT th co r a) ro 16) di) (fun i => kw_my (kw_RT th co r a) co (16 * a) i) 16 0 (by omega) (fun n => br_t (nI_le (a := 16) (by omega) (by decide)) (ky_classes ha (h _))) (fun n w hw g => by
      refine br_f (nI_ge (b := 16) hw (by decide)) ⟨vp_in_nI (by omega) (by decide), ?_⟩
      rw [kw_ixY, nI_clamp (by omega), nI_clamp (by omega), kw_mx_lo hw]
      exact ⟨vp_in_nI (by omega) (by decide), nm_r kw_my_upd (nm_r (nI_1 w) g)⟩)
    obtain ⟨m, hm⟩ := hin
    rw [kw_my_0] at hm
    exact ⟨m, hm⟩
  · refine br_f (nI_ge (b := 16) hw (by decide)) ⟨vp_in_nI (by omega) (by decide), nm_r (by rw [nI_clamp (by omega)]) (ky_learn50 ha hw ?_)⟩
    rw [kw_mx_upd]
    exact g
theorem kw_rt_sp {c : Nat → Bool} {w : Nat} : ∀ k, k ≤ 16 → (∃ v, 16 - k ≤ v ∧ v < 16 ∧ c v = true ∧ kw_rt c w k = v ∧ ∀ u, 16 - k ≤ u → u < v → c u = false) ∨ (∀ v, 16 - k ≤ v → v < 16 → c v = false) := by
  intro k
  induction k with
  | zero => intro _; exact Or.inr fun v h1 h2 => absurd h1 (by omega)
  | succ k ih =>
    intro hk
    cases e : c (15 - k)
    · rcases ih (by omega) with ⟨v, h1, h2, h3, h4, h5⟩ | h
      · refine Or.inl ⟨v, by omega, h2, h3, ?_, fun u g1 g2 => ?_⟩
        · rw [kw_rt, e, if_neg (by decide)]; exact h4
        · by_cases z : u = 15 - k
          · rw [z]; exact e
          · exact h5 u (by omega) g2
      · refine Or.inr fun v g1 g2 => ?_
        by_cases z : v = 15 - k
        · rw [z]; exact e
        · exact h v (by omega) g2
    · refine Or.inl ⟨15 - k, by omega, by omega, e, ?_, fun u g1 g2 => absurd g2 (by omega)⟩
      rw [kw_rt, e, if_pos rfl]
theorem kw_R_sy {a w v : Nat} (h : kw_R co a w v = true) : kw_R co a v w = true := decide_eq_true (of_decide_eq_true h).symm
theorem kw_R_tr {a w v u : Nat} (h : kw_R co a w v = true) (g : kw_R co a v u = true) : kw_R co a w u = true := decide_eq_true ((of_decide_eq_true h).trans (of_decide_eq_true g))
theorem kw_lc_iff {r : Int32} {a w v : Nat} : kw_lc th co r a w v = true ↔ bt th v = true ∧ kw_R co a w v = true ∧ bt r w = bt r v := by
  unfold kw_lc
  rw [Bool.and_eq_true, Bool.and_eq_true, beq_iff_eq]
  exact ⟨fun h => ⟨h.1.1, h.1.2, h.2⟩, fun h => ⟨⟨h.1, h.2.1⟩, h.2.2⟩⟩
theorem kw_RT_eq {r : Int32} {a w v : Nat} (hw : w < 16) (hv : v < 16) (bw : bt th w = true) (bv : bt th v = true) : decide (kw_RT th co r a w = kw_RT th co r a v) = (kw_R co a w v && (bt r w == bt r v)) := by
  have hx : ∀ w, w < 16 → bt th w = true → ∃ m, m < 16 ∧ kw_lc th co r a w m = true ∧ kw_rt (kw_lc th co r a w) w 16 = m ∧ ∀ u, u < m → kw_lc th co r a w u = false := by
    intro w hw bw
    rcases kw_rt_sp (c := kw_lc th co r a w) (w := w) 16 (by omega) with ⟨m, _, h2, h3, h4, h5⟩ | h
    · exact ⟨m, h2, h3, h4, fun u hu => h5 u (by omega) hu⟩
    · have := h w (by omega) hw
      rw [kw_lc_iff.mpr ⟨bw, kw_R_rf, rfl⟩] at this
      exact nomatch this
  obtain ⟨m, hm, cm, em, lm⟩ := hx w hw bw
  obtain ⟨m', hm', cm', em', lm'⟩ := hx v hv bv
  have key : kw_RT th co r a w = kw_RT th co r a v ↔ m = m' := by
    unfold kw_RT
    rw [em, em', nI_eq (by omega) (by omega)]
  refine kw_bT (p := m = m') _ (by rw [decide_eq_true_eq]; exact key) ?_
  rw [Bool.and_eq_true, beq_iff_eq]
  obtain ⟨c1, c2, c3⟩ := kw_lc_iff.mp cm
  obtain ⟨d1, d2, d3⟩ := kw_lc_iff.mp cm'
  constructor
  · rintro ⟨h1, h2⟩
    have z1 : kw_lc th co r a v m = true := kw_lc_iff.mpr ⟨c1, kw_R_tr (kw_R_sy h1) c2, h2.symm.trans c3⟩
    have z2 : kw_lc th co r a w m' = true := kw_lc_iff.mpr ⟨d1, kw_R_tr h1 d2, h2.trans d3⟩
    rcases Nat.lt_trichotomy m m' with z | z | z
    · rw [lm' m z] at z1; exact nomatch z1
    · exact z
    · rw [lm m' z] at z2; exact nomatch z2
  · intro e
    subst e
    exact ⟨kw_R_tr c2 (kw_R_sy d2), c3.trans d3.symm⟩
theorem kw_CE_learn (hC : kw_CE wt ce co) {r : Int32} {a : Nat} (ha : a < 3) : kw_CE wt (kw_my (kw_ln ce r a) ce (16 * a) 16) (kw_my (kw_RT wt co r a) co (16 * a) 16) := by
  intro b hb w v hw hv bw bv
  by_cases e : b = a
  · subst e
    rw [kw_my_in hw, kw_R, kw_my_in hw, kw_my_in hv, kw_RT_eq hw hv bw bv, kw_ln]
    cases e1 : bt r w
    · rw [if_neg (by decide), b_and, kw_not _ (by omega), hC b hb w v hw hv bw bv]
      cases bt r v <;> rfl
    · rw [if_pos rfl, b_and, hC b hb w v hw hv bw bv]
      cases bt r v <;> rfl
  · rw [kw_my_out (by omega), hC b hb w v hw hv bw bv, kw_R, kw_R, kw_my_out (by omega), kw_my_out (by omega)]
end
theorem i_vc_learn {k : Nat} {u : SX} {v : SY} (I : i_Rel k u v) (hk : k + 4 ≤ 2048) (v1 : Int32) : wpX_learn (fun r u' => wpY_learn (fun r' v' => r' = r ∧ i_Rel (k + 4) u' v') v v1) u v1 := by
  obtain ⟨wt, aw, tc, fc, fs, ce, tk, ta, fz, hs, ap, na⟩ := u
  obtain ⟨th, ac, ht, fa, co, sz, kd, ag, fi, tr, ia, ho, ro, di⟩ := v
  obtain ⟨rfl, hS, hA, hF, hC, h, z, Z, h6, rfl, rfl, htc, hf⟩ := I
  unfold wpX_learn wpY_learn
  dsimp only
  rcases kw_cs3 v1 3 with hn | ⟨a, ha, rfl⟩
  · exact kx_agN hn (br_t rfl (ky_agN hn (br_t rfl ⟨rfl, rfl, hS, hA, hF, hC, h, z, Z, h6, rfl, rfl, htc, hf⟩)))
  · refine kx_ag ha (br_f (by decide) ?_)
    cases h with
    | zero => exact br_t rfl (ky_ag ha (br_f (by decide) (br_t rfl ⟨rfl, rfl, hS, hA, hF, hC, 0, z, Z, h6, rfl, rfl, htc, hf⟩)))
    | succ h =>
      have hne : ¬ nI (h + 1) = 0 := nI_ne0 (by omega) (by omega)
      obtain ⟨r, hr, hX, hY⟩ := kw_both (aw := aw) (fc := nI (h + 1)) (hs := hs) (ap := ap) (na := na) (ac := ac) (ht := nI (h + 1)) (fi := fi) (tr := tr) (ia := ia) (ho := ho) (ro := ro) (di := di) hS hF hC h6 htc hf
      refine br_f hne (hX _ fun hs' => ?_)
      dsimp only
      refine kx_learn ha (ky_ag ha (br_f (by decide) (br_f hne (hY _ fun fi' tr' ia' ho' ro' => ?_))))
      dsimp only
      have hC' := kw_CE_learn (r := r) hC ha
      refine ky_learn ha fun ro2 => ⟨?_, rfl, hS, hA, hF, hC', h + 1, z, Z, h6, rfl, rfl, htc, hf⟩
      rw [kw_cls_eq hC' ha]
