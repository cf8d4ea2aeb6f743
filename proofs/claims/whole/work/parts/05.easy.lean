section
variable {wt aw tc fc : Int32} {fs ce tk ta fz hs ap na : Nat → Int32}
variable {th ac ht : Int32} {fa co sz kd ag fi tr ia ho ro di : Nat → Int32}
theorem kw_off_le {z : Nat → Nat} {h : Nat} (hz : ∀ s, s < h → z s ≤ 24) : ∀ s, s ≤ h → kw_off z s ≤ 24 * s := by
  intro s
  induction s with
  | zero => intro _; exact Nat.le_refl 0
  | succ s ih =>
    intro hs
    have := ih (by omega)
    have := hz s (by omega)
    rw [kw_off]
    omega
/-- the top formula -/
theorem kw_top {h : Nat} {z Z : Nat → Nat} (h6 : h + 1 ≤ 6) (hf : ∀ s, s < h + 1 → sz s = nI (z s) ∧ kw_fm tk ta fz kd ag Z (kw_off z s) s (z s)) : 1 ≤ z h ∧ z h ≤ 24 ∧ kw_off z h + z h ≤ 144 ∧ fz (kw_off z h + z h - 1) = nI (z h) ∧ kw_off z h ≤ 24 * h := by
  have hle : ∀ s, s ≤ h + 1 → kw_off z s ≤ 24 * s := kw_off_le fun s hs => (hf s hs).2.1
  have h0 := hle h (by omega)
  obtain ⟨e, h24, hi, hn, hZ, hw⟩ := hf h (by omega)
  refine ⟨hn, h24, by omega, ?_, h0⟩
  have := (hi (z h - 1) (by omega)).2.2.1
  rw [show kw_off z h + z h - 1 = kw_off z h + (z h - 1) from by omega, this]
  exact congrArg nI hZ
/-! facts of a world -/
theorem kx_factsOf {post : Int32 → Prop} {w : Nat} (hw : w < 16) (h : post (kw_mk (fun p => bt (fs p) w) 4)) : wpX_factsOf post (wt, aw, tc, fc, fs, ce, tk, ta, fz, hs, ap, na) (nI w) := by
  refine kw_lp (fun n i s => wX_factsOf_4 post (nI w) wt aw tc fc fs ce tk ta fz hs ap na n s (nI i)) (fun i => kw_mk (fun p => bt (fs p) w) i) 4 0 (by omega)
    (fun n => br_t (nI_le (a := 4) (by omega) (by decide)) h)
    (fun n i hi g => br_f (nI_ge (b := 4) hi (by decide)) ⟨vp_in_nI hi (by decide), nm_r ?_ (nm_r (nI_1 i) g)⟩)
  rw [nI_clamp (by omega), kw_bit _ (by omega), kw_mk]
  cases e : bt (fs i) w
  · rw [kw_b0, if_neg (by decide)]
    apply b_ext
    intro j hj
    rw [b_or, b_shl i (by omega) 0 hj, b_0]
    simp
  · rw [kw_b1, if_pos rfl]
theorem kw_facts_eq (hF : kw_FA wt fs fa) {w : Nat} (hw : w < 16) (hb : bt wt w = true) : kw_mk (fun p => bt (fs p) w) 4 = fa w := by
  apply b_ext
  intro i hi
  rw [kw_mk_bt (by omega) hi]
  by_cases z : i < 4
  · rw [decide_eq_true z, (hF w hw hb).1 i z]; rfl
  · rw [decide_eq_false z, (hF w hw hb).2 i (by omega)]; rfl
/-! classes -/
def kw_clX (wt : Int32) (ce : Nat → Int32) (a w : Nat) : Bool := bt wt w && kw_lo (ce (16 * a + w) &&& wt) w
def kw_clY (th : Int32) (co : Nat → Int32) (a w : Nat) : Bool := bt th w && kw_al (fun v => !(bt th v && kw_R co a w v)) w
theorem kw_ex_al {p : Nat → Bool} {n : Nat} : (!kw_ex p n) = kw_al (fun i => !p i) n := by
  induction n with
  | zero => rfl
  | succ n ih => rw [kw_ex, kw_al, ← ih, Bool.not_or]
theorem kw_cls_eq (hC : kw_CE wt ce co) {a : Nat} (ha : a < 3) : kw_c (kw_clX wt ce a) 16 = kw_c (kw_clY wt co a) 16 := by
  apply kw_c_cg
  intro w hw
  unfold kw_clX kw_clY
  cases hb : bt wt w
  · rfl
  · rw [kw_lo, kw_ex_al]
    congr 1
    apply kw_al_cg
    intro v hv
    rw [b_and]
    cases hv2 : bt wt v
    · rw [Bool.and_false, Bool.false_and]
    · rw [hC a ha w v hw (by omega) hb hv2, Bool.and_true, Bool.true_and]
theorem kx_classes {post : Int32 → Prop} {a : Nat} (ha : a < 3) (h : post (nI (kw_c (kw_clX wt ce a) 16))) : wpX_countClasses post (wt, aw, tc, fc, fs, ce, tk, ta, fz, hs, ap, na) (nI a) := by
  refine kw_lp (fun n i s => wX_countClasses_4 post (nI a) wt aw tc fc fs ce tk ta fz hs ap na n s (nI i)) (fun i => nI (kw_c (kw_clX wt ce a) i)) 16 0 (by omega)
    (fun n => br_t (nI_le (a := 16) (by omega) (by decide)) h)
    (fun n i hi g => br_f (nI_ge (b := 16) hi (by decide)) (kx_there hi (kw_br _ (fun e => nm_r (nI_1 i) ?_) (fun e => ⟨?_, ?_⟩))))
  · have e2 : kw_c (kw_clX wt ce a) (i + 1) = kw_c (kw_clX wt ce a) i := by
      rw [kw_c, kw_clX, e]; rfl
    rw [← e2]; exact g
  · rw [kw_ixX]; exact vp_in_nI (by omega) (by decide)
  · rw [kw_ixX, nI_clamp (by omega)]
    refine kx_low hi (kw_br _ (fun e3 => nm_r (nI_1 i) ?_) (fun e3 => nm_r ?_ (nm_r (nI_1 i) g)))
    · have e2 : kw_c (kw_clX wt ce a) (i + 1) = kw_c (kw_clX wt ce a) i := by
        rw [kw_c, kw_clX, e, e3]; rfl
      rw [← e2]; exact g
    · have e2 : kw_c (kw_clX wt ce a) (i + 1) = kw_c (kw_clX wt ce a) i + 1 := by
        rw [kw_c, kw_clX, e, e3]; rfl
      rw [e2, nI_1]
theorem ky_classes {post : Int32 → Prop} {a : Nat} (ha : a < 3) (h : post (nI (kw_c (kw_clY th co a) 16))) : wpY_classes post (th, ac, ht, fa, co, sz, kd, ag, fi, tr, ia, ho, ro, di) (nI a) := by
  unfold wpY_classes
  dsimp only
  refine ky_ag ha (br_f (by decide) ?_)
  refine kw_lp (fun n i s => wY_classes_14 post (nI a) th ac ht fa co sz kd ag fi tr ia ho ro di n s (nI i)) (fun i => nI (kw_c (kw_clY th co a) i)) 16 0 (by omega)
    (fun n => br_t (nI_le (a := 16) (by omega) (by decide)) h)
    (fun n w hw g => br_f (nI_ge (b := 16) hw (by decide)) (ky_there hw ?_))
  have hin := kw_lp (fun m i s => wY_classes_30 post (wY_classes_14 post (nI a) th ac ht fa co sz kd ag fi tr ia ho ro di n) (nI a) (nI (kw_c (kw_clY th co a) w)) (nI w) th ac ht fa co sz kd ag fi tr ia ho ro di m s (nI i)) (fun i => kw_b (bt th w && kw_al (fun v => !(bt th v && kw_R co a w v)) i)) w 0 (by omega)
    (fun m => br_t (nI_le (by omega) (by omega)) (kw_br _ (fun e => nm_r (nI_1 w) (by
        have e2 : kw_c (kw_clY th co a) (w + 1) = kw_c (kw_clY th co a) w := by
          rw [kw_c, kw_clY, e]; rfl
        rw [← e2]; exact g)) (fun e => nm_r (by
        have e2 : kw_c (kw_clY th co a) (w + 1) = kw_c (kw_clY th co a) w + 1 := by
          rw [kw_c, kw_clY, e]; rfl
        rw [e2, nI_1]) (nm_r (nI_1 w) g))))
    (fun m i hi g' => br_f (nI_ge hi (by omega)) (kw_br _ (fun e => nm_r (nI_1 i) (by
        have e2 : (bt th w && kw_al (fun v => !(bt th v && kw_R co a w v)) (i + 1)) = false := by
          rw [kw_al, ← Bool.and_assoc, e]; rfl
        rw [e2] at g'; exact g')) (fun e => ky_there (by omega) (kw_br _ (fun e3 => nm_r (nI_1 i) (by
        have e2 : (bt th w && kw_al (fun v => !(bt th v && kw_R co a w v)) (i + 1)) = true := by
          rw [kw_al, ← Bool.and_assoc, e, e3]; rfl
        rw [e2] at g'; exact g')) (fun e3 => ky_same ha hw (by omega) (kw_br _ (fun e4 => nm_r (nI_1 i) (by
        have e2 : (bt th w && kw_al (fun v => !(bt th v && kw_R co a w v)) (i + 1)) = true := by
          rw [kw_al, ← Bool.and_assoc, e, e3, kw_R, e4]; rfl
        rw [e2] at g'; exact g')) (fun e4 => nm_r (nI_1 i) (by
        have e2 : (bt th w && kw_al (fun v => !(bt th v && kw_R co a w v)) (i + 1)) = false := by
          rw [kw_al, ← Bool.and_assoc, e, e3, kw_R, e4]; rfl
        rw [e2] at g'; exact g'))))))))
  simp only [kw_al, Bool.and_true] at hin
  exact hin
end
/-! the first owed statements -/
theorem i_vc_actual {k : Nat} {u : SX} {v : SY} (I : i_Rel k u v) (hk : k + 4 ≤ 2048) (v1 : Int32) : wpX_actual (fun r u' => wpY_actual (fun r' v' => r' = r ∧ i_Rel (k + 4) u' v') v v1) u v1 := by
  obtain ⟨wt, aw, tc, fc, fs, ce, tk, ta, fz, hs, ap, na⟩ := u
  obtain ⟨th, ac, ht, fa, co, sz, kd, ag, fi, tr, ia, ho, ro, di⟩ := v
  obtain ⟨rfl, hS, hA, hF, hC, hT⟩ := I
  unfold wpX_actual wpY_actual
  dsimp only
  rcases kw_cs wt v1 with hb | ⟨w, hw, rfl, hb⟩
  · exact kx_thereN hb (br_t rfl (ky_thereN hb (br_t rfl ⟨rfl, rfl, hS, hA, hF, hC, hT⟩)))
  · refine kx_there hw (kw_br _ (fun e => absurd (e.symm.trans hb) (by decide)) fun _ => ky_there hw (kw_br _ (fun e => absurd (e.symm.trans hb) (by decide)) fun _ => ?_))
    obtain ⟨n, hn, rfl, rfl, hbn⟩ := hA
    exact ⟨rfl, rfl, hS, ⟨w, hw, rfl, rfl, hb⟩, hF, hC, hT⟩
theorem i_vc_worlds {k : Nat} {u : SX} {v : SY} (I : i_Rel k u v) (hk : k + 4 ≤ 2048) : wpX_worlds (fun r => wpY_worlds (fun r' => r' = r ∧ i_Rel (k + 4) u v) v) u := by
  have J := I
  obtain ⟨wt, aw, tc, fc, fs, ce, tk, ta, fz, hs, ap, na⟩ := u
  obtain ⟨th, ac, ht, fa, co, sz, kd, ag, fi, tr, ia, ho, ro, di⟩ := v
  obtain ⟨rfl, hS, hA, hF, hC, hT⟩ := I
  unfold wpX_worlds wpY_worlds
  dsimp only
  exact kx_cnt (ky_cnt ⟨rfl, J⟩)
theorem i_vc_facts {k : Nat} {u : SX} {v : SY} (I : i_Rel k u v) (hk : k + 4 ≤ 2048) (v1 : Int32) : wpX_facts (fun r => wpY_facts (fun r' => r' = r ∧ i_Rel (k + 4) u v) v v1) u v1 := by
  have J := I
  obtain ⟨wt, aw, tc, fc, fs, ce, tk, ta, fz, hs, ap, na⟩ := u
  obtain ⟨th, ac, ht, fa, co, sz, kd, ag, fi, tr, ia, ho, ro, di⟩ := v
  obtain ⟨rfl, hS, hA, hF, hC, hT⟩ := I
  unfold wpX_facts wpY_facts
  dsimp only
  rcases kw_cs wt v1 with hb | ⟨w, hw, rfl, hb⟩
  · exact kx_thereN hb (br_t rfl (ky_thereN hb (br_t rfl ⟨rfl, J⟩)))
  · refine kx_there hw (kw_br _ (fun e => absurd (e.symm.trans hb) (by decide)) fun _ => kx_factsOf hw (ky_there hw (kw_br _ (fun e => absurd (e.symm.trans hb) (by decide)) fun _ => ⟨vp_in_nI hw (by decide), ?_, J⟩)))
    rw [nI_clamp (by omega), kw_facts_eq hF hw hb]
theorem i_vc_classes {k : Nat} {u : SX} {v : SY} (I : i_Rel k u v) (hk : k + 4 ≤ 2048) (v1 : Int32) : wpX_classes (fun r => wpY_classes (fun r' => r' = r ∧ i_Rel (k + 4) u v) v v1) u v1 := by
  have J := I
  obtain ⟨wt, aw, tc, fc, fs, ce, tk, ta, fz, hs, ap, na⟩ := u
  obtain ⟨th, ac, ht, fa, co, sz, kd, ag, fi, tr, ia, ho, ro, di⟩ := v
  obtain ⟨rfl, hS, hA, hF, hC, hT⟩ := I
  unfold wpX_classes
  dsimp only
  rcases kw_cs3 v1 3 with hn | ⟨a, ha, rfl⟩
  · refine kx_agN hn (br_t rfl ?_)
    unfold wpY_classes
    dsimp only
    exact ky_agN hn (br_t rfl ⟨rfl, J⟩)
  · refine kx_ag ha (br_f (by decide) (kx_classes ha (ky_classes ha ⟨?_, J⟩)))
    rw [kw_cls_eq hC ha]
theorem i_vc_together {k : Nat} {u : SX} {v : SY} (I : i_Rel k u v) (hk : k + 4 ≤ 2048) (v1 : Int32) (v2 : Int32) (v3 : Int32) : wpX_together (fun r => wpY_together (fun r' => r' = r ∧ i_Rel (k + 4) u v) v v1 v2 v3) u v1 v2 v3 := by
  have J := I
  obtain ⟨wt, aw, tc, fc, fs, ce, tk, ta, fz, hs, ap, na⟩ := u
  obtain ⟨th, ac, ht, fa, co, sz, kd, ag, fi, tr, ia, ho, ro, di⟩ := v
  obtain ⟨rfl, hS, hA, hF, hC, hT⟩ := I
  unfold wpX_together wpY_together
  dsimp only
  rcases kw_cs3 v1 3 with hn | ⟨a, ha, rfl⟩
  · exact kx_agN hn (br_t rfl (ky_agN hn (br_t rfl ⟨rfl, J⟩)))
  · refine kx_ag ha (br_f (by decide) ?_)
    rcases kw_cs wt v2 with hb | ⟨w, hw, rfl, hb⟩
    · exact kx_thereN hb (br_t rfl (ky_ag ha (br_f (by decide) (ky_thereN hb (br_t rfl ⟨rfl, J⟩)))))
    · refine kx_there hw (kw_br _ (fun e => absurd (e.symm.trans hb) (by decide)) fun _ => ?_)
      rcases kw_cs wt v3 with hb3 | ⟨v, hv, rfl, hb3⟩
      · exact kx_thereN hb3 (br_t rfl (ky_ag ha (br_f (by decide) (ky_there hw (kw_br _ (fun e => absurd (e.symm.trans hb) (by decide)) fun _ => ky_thereN hb3 (br_t rfl ⟨rfl, J⟩))))))
      · refine kx_there hv (kw_br _ (fun e => absurd (e.symm.trans hb3) (by decide)) fun _ => ?_)
        rw [kw_ixX]
        refine ⟨vp_in_nI (by omega) (by decide), ?_⟩
        rw [nI_clamp (by omega)]
        refine kx_isIn (by omega) ?_
        rw [hC a ha w v hw hv hb hb3]
        refine kw_br _ (fun e => ky_ag ha (br_f (by decide) (ky_there hw (kw_br _ (fun e => absurd (e.symm.trans hb) (by decide)) fun _ => ky_there hv (kw_br _ (fun e => absurd (e.symm.trans hb3) (by decide)) fun _ => ky_same ha hw hv (kw_br _ (fun _ => ⟨rfl, J⟩) fun e2 => absurd (e.symm.trans e2) (by decide)))))))
          (fun e => ky_ag ha (br_f (by decide) (ky_there hw (kw_br _ (fun e => absurd (e.symm.trans hb) (by decide)) fun _ => ky_there hv (kw_br _ (fun e => absurd (e.symm.trans hb3) (by decide)) fun _ => ky_same ha hw hv (kw_br _ (fun e2 => absurd (e.symm.trans e2) (by decide)) fun _ => ⟨rfl, J⟩))))))
theorem i_vc_drop {k : Nat} {u : SX} {v : SY} (I : i_Rel k u v) (hk : k + 4 ≤ 2048) : wpX_drop (fun r u' => wpY_drop (fun r' v' => r' = r ∧ i_Rel (k + 4) u' v') v) u := by
  obtain ⟨wt, aw, tc, fc, fs, ce, tk, ta, fz, hs, ap, na⟩ := u
  obtain ⟨th, ac, ht, fa, co, sz, kd, ag, fi, tr, ia, ho, ro, di⟩ := v
  obtain ⟨rfl, hS, hA, hF, hC, h, z, Z, h6, rfl, rfl, rfl, hf⟩ := I
  unfold wpX_drop wpY_drop
  dsimp only
  cases h with
  | zero => exact br_t rfl (br_t rfl ⟨rfl, rfl, hS, hA, hF, hC, 0, z, Z, h6, rfl, rfl, rfl, hf⟩)
  | succ h =>
    obtain ⟨h1, h24, h144, hz, _⟩ := kw_top h6 hf
    have hne : ¬ nI (h + 1) = 0 := nI_ne0 (by omega) (by omega)
    refine br_f hne (kx_szt1 (t := kw_off z h + z h) rfl h144 (by omega) hz (nm_r (e' := nI (kw_off z h)) ?_ (nm_r (nI_pred h) (br_f hne (nm_r (nI_pred h) ⟨rfl, rfl, hS, hA, hF, hC, h, z, Z, by omega, rfl, rfl, rfl, fun s hs => hf s (by omega)⟩)))))
    rw [kw_off, pk_sub (by omega), Nat.add_sub_cancel]
