section
variable {wt aw tc fc : Int32} {fs ce tk ta fz hs ap na : Nat → Int32}
variable {th ac ht : Int32} {fa co sz kd ag fi tr ia ho ro di : Nat → Int32}
def kw_ps (fs : Nat → Int32) (n m : Nat) (c0 : Int32) : Nat → Int32
  | 0 => c0
  | q + 1 => if bt (nI m) q then (if bt (fs q) n then kw_ps fs n m c0 q &&& fs q else kw_ps fs n m c0 q &&& (fs q ^^^ (-1))) else kw_ps fs n m c0 q
def kw_stX (fs : Nat → Int32) (p : Nat) (c : Int32) : Bool := decide (c &&& fs p = 0 ∨ c &&& fs p = c)
theorem kx_settled {post : Int32 → Prop} {n a p m : Nat} (haw : aw = nI n) (hn : n < 16) (ha : a < 3) (hp : p < 4) (hm : m < 16) (h : post (kw_b (kw_stX fs p (kw_ps fs n m (ce (16 * a + n) &&& wt) 4)))) : wpX_isSettledBy post (wt, aw, tc, fc, fs, ce, tk, ta, fz, hs, ap, na) (nI m) (nI a) (nI p) := by
  unfold wpX_isSettledBy
  dsimp only
  rw [haw, kw_ixX]
  refine ⟨vp_in_nI (by omega) (by decide), ?_⟩
  rw [nI_clamp (by omega)]
  refine nm_e ?_
  refine kw_lp (fun k i s => wX_isSettledBy_24 post (nI m) (nI p) wt (nI n) tc fc fs ce tk ta fz hs ap na k s (nI i)) (fun i => kw_ps fs n m (ce (16 * a + n) &&& wt) i) 4 0 (by omega) (fun k => ?_) (fun k i hi g => ?_)
  · refine br_t (nI_le (a := 4) (by omega) (by decide)) ⟨vp_in_nI hp (by decide), ?_⟩
    rw [nI_clamp (by omega)]
    refine nm_e ?_
    generalize kw_ps fs n m (ce (16 * a + n) &&& wt) 4 = c at h
    by_cases e1 : c &&& fs p = 0
    · rw [kw_stX, decide_eq_true (Or.inl e1)] at h
      exact br_t e1 h
    · refine br_f e1 ?_
      by_cases e2 : c &&& fs p = c
      · rw [kw_stX, decide_eq_true (Or.inr e2)] at h
        exact br_t e2 h
      · rw [kw_stX, decide_eq_false (fun z => z.elim e1 e2)] at h
        exact br_f e2 h
  · refine br_f (nI_ge (b := 4) hi (by decide)) (kx_isIn (by omega) (kw_br _ (fun e => nm_r (nI_1 i) ?_) (fun e => ⟨vp_in_nI hi (by decide), ?_⟩)))
    · rw [kw_ps, if_neg (by rw [e]; decide)] at g
      exact g
    · rw [nI_clamp (by omega)]
      refine kx_isIn (by omega) (kw_br _ (fun e2 => ⟨vp_in_nI hi (by decide), nm_r ?_ (nm_r (nI_1 i) g)⟩) (fun e2 => ⟨vp_in_nI hi (by decide), nm_r ?_ (nm_r (nI_1 i) g)⟩))
      · rw [kw_ps, if_pos e, if_neg (by rw [e2]; decide)]
      · rw [kw_ps, if_pos e, if_pos e2]
def kw_lf (th : Int32) (fa co : Nat → Int32) (n a p m w : Nat) : Bool := !(bt th w && kw_R co a n w && decide ((fa w ^^^ fa n) &&& nI m = 0)) || (bt (fa w) p == bt (fa n) p)
theorem ky_knows63 {post : Int32 → Prop} {J : Int32 → Int32 → Prop} {n p w : Nat} {x1 x3 : Int32} {b l : Bool} (hac : ac = nI n) (hn : n < 16) (hp : p < 4) (hw : w < 16) (h : J (kw_b (b && (!l || (bt (fa w) p == bt (fa n) p)))) (nI (w + 1))) : wY_knows_63 post J x1 (nI p) x3 (kw_b b) (nI w) (kw_b l) th ac ht fa co sz kd ag fi tr ia ho ro di := by
  unfold wY_knows_63
  refine kw_br _ (fun e => nm_r (nI_1 w) (by rw [e] at h; exact h)) (fun e => kw_br _ (fun e2 => nm_r (nI_1 w) (by rw [e, e2] at h; exact h)) (fun e2 => ⟨vp_in_nI hw (by decide), ?_⟩))
  rw [nI_clamp (by omega)]
  refine ky_in (by omega) ⟨by rw [hac]; exact vp_in_nI hn (by decide), ?_⟩
  rw [hac, nI_clamp (by omega)]
  refine ky_in (by omega) (kw_br2 _ _ (fun e3 => nm_r (nI_1 w) ?_) (fun e3 => nm_r (nI_1 w) ?_))
  · rw [e, e2, e3] at h
    have e4 : (true && (!true || (bt (fa n) p == bt (fa n) p))) = true := by simp
    rw [e4] at h
    exact h
  · rw [e, e2] at h
    have : (bt (fa w) p == bt (fa n) p) = false := by simpa using e3
    rw [this] at h
    exact h
theorem ky_knows {post : Int32 → Prop} {n a p m : Nat} (hac : ac = nI n) (hn : n < 16) (ha : a < 3) (hp : p < 4) (hm : m < 16) (h : post (kw_b (kw_al (kw_lf th fa co n a p m) 16))) : wpY_knows post (th, ac, ht, fa, co, sz, kd, ag, fi, tr, ia, ho, ro, di) (nI a) (nI p) (nI m) := by
  subst hac
  unfold wpY_knows
  dsimp only
  refine kw_lp (fun k i s => wY_knows_6 post (nI a) (nI p) (nI m) th (nI n) ht fa co sz kd ag fi tr ia ho ro di k s (nI i)) (fun i => kw_b (kw_al (kw_lf th fa co n a p m) i)) 16 0 (by omega) (fun k => ?_) (fun k i hi g => ?_)
  · exact br_t (nI_le (a := 16) (by omega) (by decide)) ⟨kw_nar _, h⟩
  · refine br_f (nI_ge (b := 16) hi (by decide)) (ky_there hi (kw_br _ (fun e => ?_) (fun e => ?_)))
    · refine ky_knows63 (l := false) rfl hn hp hi ?_
      rw [kw_al, kw_lf, e] at g
      exact g
    · refine ky_same ha hn hi (kw_br _ (fun e2 => ?_) (fun e2 => ⟨vp_in_nI hi (by decide), vp_in_nI hn (by decide), ?_⟩))
      · refine ky_knows63 (l := false) rfl hn hp hi ?_
        rw [kw_al, kw_lf, e, kw_R, e2] at g
        exact g
      · rw [nI_clamp (by omega), nI_clamp (by omega)]
        by_cases e3 : (fa i ^^^ fa n) &&& nI m = 0
        · refine br_t e3 (ky_knows63 (l := true) rfl hn hp hi ?_)
          rw [kw_al, kw_lf, e, kw_R, e2, decide_eq_true e3] at g
          exact g
        · refine br_f e3 (ky_knows63 (l := false) rfl hn hp hi ?_)
          rw [kw_al, kw_lf, e, kw_R, e2, decide_eq_false e3] at g
          exact g
theorem kw_ps_bt {c0 : Int32} {n m : Nat} : ∀ q v, v < 32 → (bt (kw_ps fs n m c0 q) v = true ↔ bt c0 v = true ∧ ∀ i, i < q → bt (nI m) i = true → bt (fs i) v = bt (fs i) n) := by
  intro q v hv
  induction q with
  | zero => exact ⟨fun h => ⟨h, fun i hi => absurd hi (by omega)⟩, fun h => h.1⟩
  | succ q ih =>
    have key : bt (kw_ps fs n m c0 (q + 1)) v = true ↔ bt (kw_ps fs n m c0 q) v = true ∧ (bt (nI m) q = true → bt (fs q) v = bt (fs q) n) := by
      rw [kw_ps]
      cases e : bt (nI m) q
      · simp
      · cases e2 : bt (fs q) n
        · rw [if_pos rfl, if_neg (by decide), b_and, kw_not _ hv]
          simp
        · simp [b_and]
    rw [key, ih]
    constructor
    · rintro ⟨⟨h1, h2⟩, h3⟩
      refine ⟨h1, fun i hi => ?_⟩
      by_cases e : i = q
      · rw [e]; exact h3
      · exact h2 i (by omega)
    · rintro ⟨h1, h2⟩
      exact ⟨⟨h1, fun i hi => h2 i (by omega)⟩, h2 q (by omega)⟩
theorem kw_st_eq (hS : kw_S wt) (hF : kw_FA wt fs fa) (hC : kw_CE wt ce co) {n a p m : Nat} (hn : n < 16) (hb : bt wt n = true) (ha : a < 3) (hp : p < 4) (hm : m < 16) : kw_stX fs p (kw_ps fs n m (ce (16 * a + n) &&& wt) 4) = kw_al (kw_lf wt fa co n a p m) 16 := by
  have hps : ∀ v, v < 32 → (bt (kw_ps fs n m (ce (16 * a + n) &&& wt) 4) v = true ↔ v < 16 ∧ bt wt v = true ∧ kw_R co a n v = true ∧ (fa v ^^^ fa n) &&& nI m = 0) := by
    intro v hv
    rw [kw_ps_bt 4 v hv, b_and]
    constructor
    · rintro ⟨h1, h2⟩
      simp only [Bool.and_eq_true] at h1
      have hv16 : v < 16 := by
        apply Classical.byContradiction
        intro z
        rw [hS v (by omega)] at h1
        exact absurd h1.2 (by decide)
      refine ⟨hv16, h1.2, by rw [← hC a ha n v hn hv16 hb h1.2]; exact h1.1, ?_⟩
      rw [kw_zero]
      intro i hi
      rw [b_and, b_xor]
      by_cases z : i < 4
      · cases e : bt (nI m) i
        · simp
        · have := h2 i z e
          rw [(hF v hv16 h1.2).1 i z, (hF n hn hb).1 i z] at this
          rw [this]; simp
      · rw [kw_hi4 m hm i hi (by omega)]; simp
    · rintro ⟨hv16, h1, h2, h3⟩
      refine ⟨by rw [hC a ha n v hn hv16 hb h1, h2, h1]; rfl, fun i hi e => ?_⟩
      rw [kw_zero] at h3
      have := h3 i (by omega)
      rw [b_and, b_xor, e] at this
      rw [(hF v hv16 h1).1 i hi, (hF n hn hb).1 i hi]
      simpa using this
  generalize kw_ps fs n m (ce (16 * a + n) &&& wt) 4 = c at hps
  have hcn : bt c n = true := (hps n (by omega)).mpr ⟨hn, hb, by unfold kw_R; exact decide_eq_true rfl, by
    rw [kw_zero]; intro i _; rw [b_and, b_xor]; simp⟩
  have key : (c &&& fs p = 0 ∨ c &&& fs p = c) ↔ ∀ v, v < 16 → bt c v = true → bt (fa v) p = bt (fa n) p := by
    constructor
    · rintro (h | h) v hv hc
      · rw [kw_zero] at h
        have h1 := h v (by omega)
        have h2 := h n (by omega)
        rw [b_and, hc] at h1
        rw [b_and, hcn] at h2
        rw [← (hF v hv ((hps v (by omega)).mp hc).2.1).1 p hp, ← (hF n hn hb).1 p hp]
        simp only [Bool.true_and] at h1 h2
        rw [h1, h2]
      · have h1 : bt (c &&& fs p) v = bt c v := by rw [h]
        have h2 : bt (c &&& fs p) n = bt c n := by rw [h]
        rw [b_and, hc] at h1
        rw [b_and, hcn] at h2
        rw [← (hF v hv ((hps v (by omega)).mp hc).2.1).1 p hp, ← (hF n hn hb).1 p hp]
        simp only [Bool.true_and] at h1 h2
        rw [h1, h2]
    · intro h
      cases e : bt (fa n) p
      · left
        rw [kw_zero]
        intro v hv
        rw [b_and]
        cases e2 : bt c v
        · rfl
        · have z := (hps v hv).mp e2
          rw [(hF v z.1 z.2.1).1 p hp, h v z.1 e2, e]; rfl
      · right
        apply b_ext
        intro v hv
        rw [b_and]
        cases e2 : bt c v
        · rfl
        · have z := (hps v hv).mp e2
          rw [(hF v z.1 z.2.1).1 p hp, h v z.1 e2, e]; rfl
  have key2 : kw_al (kw_lf wt fa co n a p m) 16 = true ↔ ∀ v, v < 16 → bt c v = true → bt (fa v) p = bt (fa n) p := by
    rw [kw_al_iff]
    constructor
    · intro h v hv hc
      have := h v hv
      obtain ⟨_, z1, z2, z3⟩ := (hps v (by omega)).mp hc
      rw [kw_lf, z1, z2, decide_eq_true z3] at this
      simpa using this
    · intro h v hv
      rw [kw_lf]
      by_cases hc : bt c v = true
      · have := h v hv hc
        rw [this]; simp
      · have : ¬ (bt wt v = true ∧ kw_R co a n v = true ∧ (fa v ^^^ fa n) &&& nI m = 0) := fun z => hc ((hps v (by omega)).mpr ⟨hv, z⟩)
        cases e1 : bt wt v
        · rfl
        · cases e2 : kw_R co a n v
          · rfl
          · rw [decide_eq_false (fun z => this ⟨e1, e2, z⟩)]; rfl
  rw [kw_stX]
  by_cases z : c &&& fs p = 0 ∨ c &&& fs p = c
  · rw [decide_eq_true z, key2.mpr (key.mp z)]
  · rw [decide_eq_false z]
    cases e : kw_al (kw_lf wt fa co n a p m) 16
    · rfl
    · exact absurd (key.mpr (key2.mp e)) z
def kw_nd (g : Nat → Bool) : Nat → Int32
  | 0 => -2
  | i + 1 => if g i then (if kw_nd g i < 0 then nI (kw_c (bt (nI i)) 16) else if kw_nd g i ≤ nI (kw_c (bt (nI i)) 16) then kw_nd g i else nI (kw_c (bt (nI i)) 16)) else kw_nd g i
theorem kw_nd_cg {g g' : Nat → Bool} {n : Nat} (h : ∀ i, i < n → g i = g' i) : kw_nd g n = kw_nd g' n := by
  induction n with
  | zero => rfl
  | succ n ih => rw [kw_nd, kw_nd, ih fun i hi => h i (by omega), h n (by omega)]
theorem kx_needed {post : Int32 → Prop} {n a p : Nat} {g : Nat → Bool} (haw : aw = nI n) (hn : n < 16) (ha : a < 3) (hp : p < 4) (hg : ∀ m, m < 16 → g m = (!bt (nI m) p && kw_stX fs p (kw_ps fs n m (ce (16 * a + n) &&& wt) 4))) (h : post (kw_nd g 16)) : ∃ k, wX_needed_22 post (nI a) (nI p) wt aw tc fc fs ce tk ta fz hs ap na k (-2) 0 := by
  refine kw_lp (fun k i s => wX_needed_22 post (nI a) (nI p) wt aw tc fc fs ce tk ta fz hs ap na k s (nI i)) (fun i => kw_nd g i) 16 0 (by omega) (fun k => ?_) (fun k i hi G => ?_)
  · exact br_t (nI_le (a := 16) (by omega) (by decide)) h
  · rw [kw_nd, hg i hi] at G
    refine br_f (nI_ge (b := 16) hi (by decide)) (kx_isIn (by omega) (kw_br _ (fun e => ?_) (fun e => ?_)))
    · refine kx_settled haw hn ha hp hi (kw_br _ (fun e2 => nm_r (nI_1 i) ?_) (fun e2 => kx_cnt ?_))
      · rw [e, e2] at G
        exact G
      · rw [e, e2] at G
        rw [if_pos (by decide)] at G
        by_cases z : kw_nd g i < 0
        · rw [if_pos z] at G
          exact br_t z (nm_r (nI_1 i) G)
        · rw [if_neg z] at G
          refine br_f z ?_
          by_cases z2 : kw_nd g i ≤ nI (kw_c (bt (nI i)) 16)
          · rw [if_pos z2] at G
            exact br_t z2 (nm_r (nI_1 i) G)
          · rw [if_neg z2] at G
            exact br_f z2 (nm_r (nI_1 i) G)
    · rw [e] at G
      exact nm_r (nI_1 i) G
theorem ky_needed {post : Int32 → Prop} {n a p : Nat} {g : Nat → Bool} (hac : ac = nI n) (hn : n < 16) (ha : a < 3) (hp : p < 4) (hg : ∀ m, m < 16 → g m = (!bt (nI m) p && kw_al (kw_lf th fa co n a p m) 16)) (h : post (kw_nd g 16)) : ∃ k, wY_needed_25 post (nI a) (nI p) th ac ht fa co sz kd ag fi tr ia ho ro di k (-2) 0 := by
  refine kw_lp (fun k i s => wY_needed_25 post (nI a) (nI p) th ac ht fa co sz kd ag fi tr ia ho ro di k s (nI i)) (fun i => kw_nd g i) 16 0 (by omega) (fun k => ?_) (fun k i hi G => ?_)
  · exact br_t (nI_le (a := 16) (by omega) (by decide)) h
  · rw [kw_nd, hg i hi] at G
    refine br_f (nI_ge (b := 16) hi (by decide)) (ky_in (by omega) (kw_br _ (fun e => ?_) (fun e => ?_)))
    · refine ky_knows hac hn ha hp hi (kw_br _ (fun e2 => nm_r (nI_1 i) ?_) (fun e2 => ky_cnt ?_))
      · rw [e, e2] at G
        exact G
      · rw [e, e2] at G
        rw [if_pos (by decide)] at G
        by_cases z : kw_nd g i < 0
        · rw [if_pos z] at G
          exact br_t z (nm_r (nI_1 i) G)
        · rw [if_neg z] at G
          refine br_f z ?_
          by_cases z2 : kw_nd g i ≤ nI (kw_c (bt (nI i)) 16)
          · rw [if_pos z2] at G
            exact br_t z2 (nm_r (nI_1 i) G)
          · rw [if_neg z2] at G
            exact br_f z2 (nm_r (nI_1 i) G)
    · rw [e] at G
      exact nm_r (nI_1 i) G
end
theorem i_vc_needed {k : Nat} {u : SX} {v : SY} (I : i_Rel k u v) (hk : k + 4 ≤ 2048) (v1 : Int32) (v2 : Int32) : wpX_needed (fun r => wpY_needed (fun r' => r' = r ∧ i_Rel (k + 4) u v) v v1 v2) u v1 v2 := by
  have J := I
  obtain ⟨wt, aw, tc, fc, fs, ce, tk, ta, fz, hs, ap, na⟩ := u
  obtain ⟨th, ac, ht, fa, co, sz, kd, ag, fi, tr, ia, ho, ro, di⟩ := v
  obtain ⟨rfl, hS, hA, hF, hC, hT⟩ := I
  unfold wpX_needed wpY_needed
  dsimp only
  rcases kw_cs3 v1 3 with hn | ⟨a, ha, rfl⟩
  · exact kx_agN hn (br_t rfl (ky_agN hn (br_t rfl ⟨rfl, J⟩)))
  · refine kx_ag ha (br_f (by decide) ?_)
    rcases kw_cs3 v2 4 with hn | ⟨p, hp, rfl⟩
    · exact kx_faN hn (br_t rfl (ky_ag ha (br_f (by decide) (ky_faN hn ⟨rfl, J⟩))))
    · refine kx_fa hp (br_f (by decide) ?_)
      obtain ⟨n, hn, haw, hac, hb⟩ := hA
      refine kx_needed haw hn ha hp (fun m hm => rfl) (ky_ag ha (br_f (by decide) (ky_fa hp (ky_needed hac hn ha hp (fun m hm => ?_) ⟨rfl, J⟩))))
      rw [kw_st_eq hS hF hC hn hb ha hp hm]
