section
variable {wt aw tc fc : Int32} {fs ce tk ta fz hs ap na : Nat → Int32}
variable {fa co : Nat → Int32}
def kw_or (fs : Nat → Int32) (w : Nat) : Nat → Int32
  | 0 => 0
  | p + 1 => if bt (fs p) w then kw_or fs w p ||| (fs p ^^^ (-1)) else kw_or fs w p ||| fs p
theorem kw_or_bt (w : Nat) {v : Nat} (hv : v < 32) : ∀ n, (bt (kw_or fs w n) v = true ↔ ∃ p, p < n ∧ bt (fs p) w ≠ bt (fs p) v) := by
  intro n
  induction n with
  | zero =>
    rw [kw_or, b_0]
    exact ⟨fun h => (nomatch h), fun ⟨p, hp, _⟩ => absurd hp (by omega)⟩
  | succ n ih =>
    have key : bt (kw_or fs w (n + 1)) v = true ↔ bt (kw_or fs w n) v = true ∨ bt (fs n) w ≠ bt (fs n) v := by
      rw [kw_or]
      cases e : bt (fs n) w
      · rw [if_neg (by decide), b_or]
        cases bt (fs n) v <;> simp
      · rw [if_pos rfl, b_or, kw_not _ hv]
        cases bt (fs n) v <;> simp
    rw [key, ih]
    constructor
    · rintro (⟨p, hp, h⟩ | h)
      · exact ⟨p, by omega, h⟩
      · exact ⟨n, by omega, h⟩
    · rintro ⟨p, hp, h⟩
      by_cases e : p = n
      · rw [e] at h; exact Or.inr h
      · exact Or.inl ⟨p, by omega, h⟩
def kw_x0 (wt : Int32) (fs : Nat → Int32) (w : Nat) : Int32 := kw_or fs w 4 &&& wt
theorem kx_byFacts0 {post : SX → Prop} (h : post (wt, aw, tc, fc, fs, ce, tk, ta, fz, hs, kw_mx (kw_x0 wt fs) ap 16, na)) : wpX_partByFacts post (wt, aw, tc, fc, fs, ce, tk, ta, fz, hs, ap, na) := by
  unfold wpX_partByFacts
  dsimp only
  refine kw_lp (fun n i s => wX_partByFacts_2 post wt aw tc fc n (nI i) fs ce tk ta fz hs s na) (fun i => kw_mx (kw_x0 wt fs) ap i) 16 0 (by omega) (fun n => ?_) (fun n w hw g => ?_)
  · exact br_t (nI_le (a := 16) (by omega) (by decide)) h
  · refine br_f (nI_ge (b := 16) hw (by decide)) ⟨vp_in_nI hw (by decide), nm_r (e' := upd (kw_mx (kw_x0 wt fs) ap w) w (kw_or fs w 0)) (by rw [nI_clamp (by omega)]; rfl) ?_⟩
    refine kw_lp (fun m i s => wX_partByFacts_17 post (wX_partByFacts_2 post wt aw tc fc n) (nI w) wt aw tc fc m (nI i) fs ce tk ta fz hs s na) (fun i => upd (kw_mx (kw_x0 wt fs) ap w) w (kw_or fs w i)) 4 0 (by omega) (fun m => ?_) (fun m p hp G => ?_)
    · refine br_t (nI_le (a := 4) (by omega) (by decide)) ⟨vp_in_nI hw (by decide), vp_in_nI hw (by decide), nm_r (e' := kw_mx (kw_x0 wt fs) ap (w + 1)) ?_ (nm_r (nI_1 w) g)⟩
      rw [nI_clamp (by omega), pk_us, kw_updupd]
      exact kw_mx_upd (new := kw_x0 wt fs)
    · rw [kw_or] at G
      refine br_f (nI_ge (b := 4) hp (by decide)) ⟨vp_in_nI hw (by decide), vp_in_nI hp (by decide), ?_⟩
      rw [nI_clamp (by omega), nI_clamp (by omega)]
      refine kx_isIn (by omega) (kw_br _ (fun e => ⟨vp_in_nI hp (by decide), vp_in_nI hw (by decide), nm_e (nm_r (nI_1 p) ?_)⟩) (fun e => ⟨vp_in_nI hp (by decide), vp_in_nI hw (by decide), nm_e (nm_r (nI_1 p) ?_)⟩))
      · rw [e, if_neg (by decide)] at G
        rw [pk_us, kw_updupd]
        exact G
      · rw [e, if_pos rfl] at G
        rw [pk_us, kw_updupd]
        exact G
def kw_A (wt : Int32) (fa co : Nat → Int32) (n : Nat) (A : Nat → Int32) : Prop := ∀ w v, w < 16 → v < 16 → bt wt w = true → bt wt v = true → bt (A w) v = kw_ap wt fa co n w v
theorem kw_A0 (hF : kw_FA wt fs fa) : kw_A wt fa co 0 (kw_mx (kw_x0 wt fs) ap 16) := by
  intro w v hw hv bw bv
  rw [kw_mx_lo hw, kw_x0, b_and, bv, Bool.and_true]
  show _ = decide (fa w ≠ fa v)
  have key : bt (kw_or fs w 4) v = true ↔ fa w ≠ fa v := by
    rw [kw_or_bt w (by omega)]
    constructor
    · rintro ⟨p, hp, h⟩ z
      rw [(hF w hw bw).1 p hp, (hF v hv bv).1 p hp, z] at h
      exact h rfl
    · intro h
      apply Classical.byContradiction
      intro z
      apply h
      apply b_ext
      intro i hi
      by_cases hi4 : i < 4
      · rw [← (hF w hw bw).1 i hi4, ← (hF v hv bv).1 i hi4]
        exact Classical.byContradiction fun q => z ⟨i, hi4, q⟩
      · rw [(hF w hw bw).2 i (by omega), (hF v hv bv).2 i (by omega)]
  by_cases e : fa w ≠ fa v
  · rw [decide_eq_true e]; exact key.mpr e
  · rw [decide_eq_false e]
    cases g : bt (kw_or fs w 4) v
    · rfl
    · exact absurd (key.mp g) e
/-! one step more -/
def kw_hs (A : Nat → Int32) (s o : Int32) : Bool := kw_ex (fun x => bt s x && decide (o &&& (A x ^^^ (-1)) = 0)) 16
theorem kx_has {post : Int32 → Prop} {s o : Int32} (h : post (kw_b (kw_hs ap s o))) : wpX_hasWorldApartFromAll post (wt, aw, tc, fc, fs, ce, tk, ta, fz, hs, ap, na) s o := by
  unfold wpX_hasWorldApartFromAll
  dsimp only
  refine kw_le (fun n i => wX_hasWorldApartFromAll_2 post s o wt aw tc fc fs ce tk ta fz hs ap na n (nI i)) (fun x => bt s x && decide (o &&& (ap x ^^^ (-1)) = 0)) 16 (fun hf n => ?_) (fun n i hi hf g => ?_)
  · rw [kw_hs, kw_ex_f.mpr hf] at h
    exact br_t (nI_le (a := 16) (by omega) (by decide)) h
  · refine br_f (nI_ge (b := 16) hi (by decide)) (kx_isIn (by omega) (kw_br _ (fun e => nm_r (nI_1 i) (g (by rw [e]; rfl))) (fun e => ⟨vp_in_nI hi (by decide), ?_⟩)))
    rw [nI_clamp (by omega)]
    by_cases z : o &&& (ap i ^^^ (-1)) = 0
    · refine br_t z ?_
      rw [kw_hs, kw_ex_iff.mpr ⟨i, hi, by rw [e, decide_eq_true z]; rfl⟩] at h
      exact h
    · exact br_f z (nm_r (nI_1 i) (g (by rw [decide_eq_false z, Bool.and_false])))
def kw_pt (wt : Int32) (ce A : Nat → Int32) (w v : Nat) : Bool := kw_ex (fun a => kw_hs A (ce (16 * a + w) &&& wt) (ce (16 * a + v) &&& wt) || kw_hs A (ce (16 * a + v) &&& wt) (ce (16 * a + w) &&& wt)) 3
theorem kx_parted {post : Int32 → Prop} {w v : Nat} (hw : w < 16) (hv : v < 16) (h : post (kw_b (kw_pt wt ce ap w v))) : wpX_isPartedByAgent post (wt, aw, tc, fc, fs, ce, tk, ta, fz, hs, ap, na) (nI w) (nI v) := by
  unfold wpX_isPartedByAgent
  dsimp only
  refine kw_le (fun n i => wX_isPartedByAgent_2 post (nI w) (nI v) wt aw tc fc fs ce tk ta fz hs ap na n (nI i)) (fun a => kw_hs ap (ce (16 * a + w) &&& wt) (ce (16 * a + v) &&& wt) || kw_hs ap (ce (16 * a + v) &&& wt) (ce (16 * a + w) &&& wt)) 3 (fun hf n => ?_) (fun n i hi hf g => ?_)
  · rw [kw_pt, kw_ex_f.mpr hf] at h
    exact br_t (nI_le (a := 3) (by omega) (by decide)) h
  · refine br_f (nI_ge (b := 3) hi (by decide)) ?_
    rw [kw_ixX, kw_ixX, nI_clamp (by omega), nI_clamp (by omega)]
    refine ⟨vp_in_nI (by omega) (by decide), nm_e ⟨vp_in_nI (by omega) (by decide), nm_e (kx_has (kw_br _ (fun e => kx_has (kw_br _ (fun e2 => nm_r (nI_1 i) (g (by rw [e, e2]; rfl))) (fun e2 => ?_))) (fun e => ?_)))⟩⟩
    · rw [kw_pt, kw_ex_iff.mpr ⟨i, hi, by rw [e2, Bool.or_true]⟩] at h
      exact h
    · rw [kw_pt, kw_ex_iff.mpr ⟨i, hi, by rw [e]; rfl⟩] at h
      exact h
def kw_os (c : Int32) (q : Nat → Bool) : Nat → Int32
  | 0 => c
  | i + 1 => if q i then kw_os c q i ||| ((1 : Int32) <<< (nI i &&& 31)) else kw_os c q i
theorem kw_os_bt {c : Int32} {q : Nat → Bool} {n : Nat} (hn : n ≤ 32) {i : Nat} (hi : i < 32) : bt (kw_os c q n) i = (bt c i || (decide (i < n) && q i)) := by
  induction n with
  | zero => rw [kw_os]; simp
  | succ n ih =>
    have ih := ih (by omega)
    rw [kw_os]
    by_cases e : i = n
    · subst e
      cases hp : q i
      · simp [ih]
      · simp [b_or, kw_one hi hi]
    · have e2 : decide (i < n + 1) = decide (i < n) := by
        by_cases h : i < n
        · simp [h]; omega
        · simp [h]; omega
      cases hp : q n
      · simp [ih, e2]
      · simp [b_or, kw_one (m := n) (by omega) hi, ih, e2, e]
def kw_mq (wt : Int32) (ce A : Nat → Int32) (w v : Nat) : Bool := bt wt w && bt wt v && kw_pt wt ce A w v
def kw_x1 (wt : Int32) (ce A : Nat → Int32) (w : Nat) : Int32 := kw_os (A w) (kw_mq wt ce A w) 16
theorem kx_more0 {post : SX → Prop} (h : post (wt, aw, tc, fc, fs, ce, tk, ta, fz, hs, kw_mx (kw_mx (kw_x1 wt ce ap) na 16) ap 16, kw_mx (kw_x1 wt ce ap) na 16)) : wpX_partOneStepMore post (wt, aw, tc, fc, fs, ce, tk, ta, fz, hs, ap, na) := by
  unfold wpX_partOneStepMore
  dsimp only
  refine kw_lp (fun n i s => wX_partOneStepMore_2 post wt aw tc fc n (nI i) fs ce tk ta fz hs ap s) (fun i => kw_mx (kw_x1 wt ce ap) na i) 16 0 (by omega) (fun n => ?_) (fun n w hw g => ?_)
  · refine br_t (nI_le (a := 16) (by omega) (by decide)) ?_
    refine kw_lp (fun n i s => wX_partOneStepMore_79 post wt aw tc fc n (nI i) fs ce tk ta fz hs s (kw_mx (kw_x1 wt ce ap) na 16)) (fun i => kw_mx (kw_mx (kw_x1 wt ce ap) na 16) ap i) 16 0 (by omega) (fun n => ?_) (fun n i hi g => ?_)
    · exact br_t (nI_le (a := 16) (by omega) (by decide)) h
    · refine br_f (nI_ge (b := 16) hi (by decide)) ⟨vp_in_nI hi (by decide), vp_in_nI hi (by decide), nm_r ?_ (nm_r (nI_1 i) g)⟩
      rw [nI_clamp (by omega)]
      exact kw_mx_upd (new := kw_mx (kw_x1 wt ce ap) na 16)
  · refine br_f (nI_ge (b := 16) hw (by decide)) ⟨vp_in_nI hw (by decide), vp_in_nI hw (by decide), nm_r (e' := upd (kw_mx (kw_x1 wt ce ap) na w) w (kw_os (ap w) (kw_mq wt ce ap w) 0)) (by rw [nI_clamp (by omega)]; rfl) ?_⟩
    refine kw_lp (fun m i s => wX_partOneStepMore_22 post (wX_partOneStepMore_2 post wt aw tc fc n) (nI w) wt aw tc fc m (nI i) fs ce tk ta fz hs ap s) (fun i => upd (kw_mx (kw_x1 wt ce ap) na w) w (kw_os (ap w) (kw_mq wt ce ap w) i)) 16 0 (by omega) (fun m => ?_) (fun m v hv G => ?_)
    · refine br_t (nI_le (a := 16) (by omega) (by decide)) (nm_r (nI_1 w) ?_)
      have e : upd (kw_mx (kw_x1 wt ce ap) na w) w (kw_os (ap w) (kw_mq wt ce ap w) 16) = kw_mx (kw_x1 wt ce ap) na (w + 1) := kw_mx_upd (new := kw_x1 wt ce ap)
      rw [e]
      exact g
    · rw [kw_os] at G
      refine br_f (nI_ge (b := 16) hv (by decide)) (kx_there hw (kw_br _ (fun e => nm_r (nI_1 v) ?_) (fun e => kx_there hv (kw_br _ (fun e2 => nm_r (nI_1 v) ?_) (fun e2 => kx_parted hw hv (kw_br _ (fun e3 => nm_r (nI_1 v) ?_) (fun e3 => ⟨vp_in_nI hw (by decide), vp_in_nI hw (by decide), nm_e (nm_r (nI_1 v) ?_)⟩)))))))
      · rw [kw_mq, e, if_neg (fun z => nomatch z)] at G
        exact G
      · rw [kw_mq, e, e2, if_neg (fun z => nomatch z)] at G
        exact G
      · rw [kw_mq, e, e2, e3, if_neg (by decide)] at G
        exact G
      · rw [kw_mq, e, e2, e3, if_pos (by decide)] at G
        rw [nI_clamp (by omega), pk_us, kw_updupd]
        exact G
theorem kw_hs_eq (hS : kw_S wt) (hC : kw_CE wt ce co) {q : Nat → Nat → Bool} {A : Nat → Int32} (hq : ∀ x y, x < 16 → y < 16 → bt wt x = true → bt wt y = true → bt (A x) y = q x y) {a w v : Nat} (ha : a < 3) (hw : w < 16) (hv : v < 16) (bw : bt wt w = true) (bv : bt wt v = true) : kw_hs A (ce (16 * a + w) &&& wt) (ce (16 * a + v) &&& wt) = kw_t1 wt co q a w v := by
  unfold kw_hs kw_t1
  apply kw_ex_cg
  intro x hx
  rw [b_and]
  cases bx : bt wt x
  · rw [Bool.and_false]; rfl
  · rw [hC a ha w x hw hx bw bx, Bool.and_true, Bool.true_and]
    congr 1
    have key : (ce (16 * a + v) &&& wt) &&& (A x ^^^ (-1)) = 0 ↔ kw_al (fun y => !bt wt y || !kw_R co a v y || q x y) 16 = true := by
      rw [kw_zero16 (kw_S_and' hS), kw_al_iff]
      constructor
      · intro h y hy
        cases e1 : bt wt y
        · rfl
        · cases e2 : kw_R co a v y
          · rfl
          · have := h y hy (by rw [b_and, hC a ha v y hv hy bv e1, e2, e1]; rfl)
            rw [kw_not _ (by omega), hq x y hx hy bx e1] at this
            simpa using this
      · intro h y hy hb
        rw [b_and, Bool.and_eq_true] at hb
        have := h y hy
        rw [hb.2, ← hC a ha v y hv hy bv hb.2, hb.1, ← hq x y hx hy bx hb.2] at this
        rw [kw_not _ (by omega)]
        simpa using this
    by_cases z : (ce (16 * a + v) &&& wt) &&& (A x ^^^ (-1)) = 0
    · rw [decide_eq_true z, key.mp z]
    · rw [decide_eq_false z]
      cases e : kw_al (fun y => !bt wt y || !kw_R co a v y || q x y) 16
      · rfl
      · exact absurd (key.mpr e) z
theorem kw_A1 (hS : kw_S wt) (hC : kw_CE wt ce co) {n : Nat} {B C : Nat → Int32} (hA : kw_A wt fa co n ap) : kw_A wt fa co (n + 1) (kw_mx (kw_mx (kw_x1 wt ce ap) B 16) C 16) := by
  intro w v hw hv bw bv
  rw [kw_mx_lo hw, kw_mx_lo hw, kw_x1, kw_os_bt (by omega) (by omega), decide_eq_true hv, Bool.true_and, hA w v hw hv bw bv, kw_ap_s, kw_mq, bw, bv]
  congr 1
  show kw_pt wt ce ap w v = _
  unfold kw_pt kw_tl
  apply kw_ex_cg
  intro a ha
  rw [kw_hs_eq hS hC hA ha hw hv bw bv, kw_hs_eq hS hC hA ha hv hw bv bw]
theorem kx_byFacts {post : SX → Prop} (hF : kw_FA wt fs fa) (h : ∀ ap', kw_A wt fa co 0 ap' → post (wt, aw, tc, fc, fs, ce, tk, ta, fz, hs, ap', na)) : wpX_partByFacts post (wt, aw, tc, fc, fs, ce, tk, ta, fz, hs, ap, na) := kx_byFacts0 (h _ (kw_A0 hF))
theorem kx_more {post : SX → Prop} {n : Nat} (hS : kw_S wt) (hC : kw_CE wt ce co) (hA : kw_A wt fa co n ap) (h : ∀ ap' na', kw_A wt fa co (n + 1) ap' → post (wt, aw, tc, fc, fs, ce, tk, ta, fz, hs, ap', na')) : wpX_partOneStepMore post (wt, aw, tc, fc, fs, ce, tk, ta, fz, hs, ap, na) := kx_more0 (h _ _ (kw_A1 hS hC hA))
theorem kx_apart {post : Int32 → SX → Prop} {w v : Nat} (hS : kw_S wt) (hF : kw_FA wt fs fa) (hC : kw_CE wt ce co) (hw : w < 16) (hv : v < 16) (bw : bt wt w = true) (bv : bt wt v = true)
    (h : ∀ i, i < 16 → kw_ap wt fa co i w v = true → (∀ j, j < i → kw_ap wt fa co j w v = false) → ∀ ap' na', post (nI i) (wt, aw, tc, fc, fs, ce, tk, ta, fz, hs, ap', na'))
    (h2 : (∀ j, j < 16 → kw_ap wt fa co j w v = false) → ∀ ap' na', post (-2) (wt, aw, tc, fc, fs, ce, tk, ta, fz, hs, ap', na')) : wpX_apart post (wt, aw, tc, fc, fs, ce, tk, ta, fz, hs, ap, na) (nI w) (nI v) := by
  unfold wpX_apart
  dsimp only
  refine kx_there hw (kw_br _ (fun e => absurd (e.symm.trans bw) (by decide)) fun _ => kx_there hv (kw_br _ (fun e => absurd (e.symm.trans bv) (by decide)) fun _ => kx_byFacts (fa := fa) (co := co) hF fun ap' hA => ?_))
  dsimp only
  refine pk_loop (fun n i (s : (Nat → Int32) × (Nat → Int32)) => wX_apart_24 post (nI w) (nI v) n (nI i) wt aw tc fc fs ce tk ta fz hs s.1 s.2) (fun i s => kw_A wt fa co i s.1 ∧ ∀ j, j < i → kw_ap wt fa co j w v = false) 16 0 (ap', na) (by omega) ⟨hA, fun j hj => absurd hj (by omega)⟩ (fun n s hI => ?_) (fun n i s hi hI g => ?_)
  · exact br_t (nI_le (a := 16) (by omega) (by decide)) (h2 hI.2 _ _)
  · refine br_f (nI_ge (b := 16) hi (by decide)) ⟨vp_in_nI hw (by decide), ?_⟩
    rw [nI_clamp (by omega)]
    refine kx_isIn (by omega) (kw_br _ (fun e => kx_more hS hC hI.1 fun ap2 na2 hA2 => ?_) (fun e => ?_))
    · dsimp only
      refine nm_r (nI_1 i) (g (ap2, na2) ⟨hA2, fun j hj => ?_⟩)
      by_cases z : j = i
      · rw [z, ← hI.1 w v hw hv bw bv]; exact e
      · exact hI.2 j (by omega)
    · exact h i hi (by rw [← hI.1 w v hw hv bw bv]; exact e) hI.2 _ _
theorem kx_kinds {post : Int32 → SX → Prop} (hS : kw_S wt) (hF : kw_FA wt fs fa) (hC : kw_CE wt ce co)
    (h : ∀ ap' na', post (nI (kw_c (kw_lw wt fa co 15) 16)) (wt, aw, tc, fc, fs, ce, tk, ta, fz, hs, ap', na')) : wpX_kinds post (wt, aw, tc, fc, fs, ce, tk, ta, fz, hs, ap, na) := by
  unfold wpX_kinds
  dsimp only
  refine kx_byFacts (fa := fa) (co := co) hF fun ap' hA => ?_
  dsimp only
  refine pk_loop (fun n i (s : (Nat → Int32) × (Nat → Int32)) => wX_kinds_6 post n (nI (i + 1)) wt aw tc fc fs ce tk ta fz hs s.1 s.2) (fun i s => kw_A wt fa co i s.1) 15 0 (ap', na) (by omega) hA (fun n s hI => ?_) (fun n i s hi hI g => ?_)
  · refine br_t (nI_le (a := 16) (by omega) (by decide)) ?_
    refine kw_lp (fun m i c => wX_kinds_26 post wt aw tc fc fs ce tk ta fz hs s.1 s.2 m c (nI i)) (fun i => nI (kw_c (kw_lw wt fa co 15) i)) 16 0 (by omega) (fun m => ?_) (fun m w hw g => ?_)
    · exact br_t (nI_le (a := 16) (by omega) (by decide)) (h _ _)
    · refine br_f (nI_ge (b := 16) hw (by decide)) (kx_there hw (kw_br _ (fun e => nm_r (nI_1 w) ?_) (fun e => ⟨vp_in_nI hw (by decide), ?_⟩)))
      · rw [kw_c, kw_lw, e] at g
        exact g
      · rw [nI_clamp (by omega)]
        have el : kw_lo (wt &&& (s.1 w ^^^ (-1))) w = kw_lw wt fa co 15 w := by
          rw [kw_lo, kw_ex_al, kw_lw, e, Bool.true_and]
          apply kw_al_cg
          intro v hv
          rw [b_and, kw_not _ (by omega)]
          cases bv : bt wt v
          · rfl
          · rw [hI w v hw (by omega) e bv]
        refine kx_low hw (kw_br _ (fun e3 => nm_r (nI_1 w) ?_) (fun e3 => nm_r ?_ (nm_r (nI_1 w) g)))
        · rw [el] at e3
          rw [kw_c, e3] at g
          exact g
        · rw [el] at e3
          rw [kw_c, e3, nI_1]; rfl
  · refine br_f (nI_ge (b := 16) (by omega) (by decide)) (kx_more hS hC hI fun ap2 na2 hA2 => ?_)
    dsimp only
    exact nm_r (nI_1 (i + 1)) (g (ap2, na2) hA2)
end
