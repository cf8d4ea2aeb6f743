section
variable {th ac ht : Int32} {fa co sz kd ag fi tr ia ho ro di : Nat → Int32}
def kw_q (d : Nat → Int32) (k x y : Nat) : Bool := decide (0 ≤ d (16 * x + y) ∧ d (16 * x + y) ≤ nI k)
theorem kw_q_f1 {d : Nat → Int32} {k x y : Nat} (h : d (16 * x + y) < 0) : kw_q d k x y = false := decide_eq_false fun z => Int32.not_lt.mpr z.1 h
theorem kw_q_f2 {d : Nat → Int32} {k x y : Nat} (h : nI k < d (16 * x + y)) : kw_q d k x y = false := decide_eq_false fun z => Int32.not_lt.mpr z.2 h
theorem kw_q_t {d : Nat → Int32} {k x y : Nat} (h1 : ¬ d (16 * x + y) < 0) (h2 : ¬ nI k < d (16 * x + y)) : kw_q d k x y = true := decide_eq_true ⟨Int32.not_lt.mp h1, Int32.not_lt.mp h2⟩
def kw_in (th : Int32) (co d : Nat → Int32) (k a v x y : Nat) : Bool := !bt th y || !kw_R co a v y || kw_q d k x y
theorem kw_al_le {p : Nat → Bool} {i n : Nat} (h : i ≤ n) (e : kw_al p i = false) : kw_al p n = false := by
  obtain ⟨j, hj, hp⟩ := kw_al_f.mp e
  exact kw_al_f.mpr ⟨j, by omega, hp⟩
theorem ky_tells40 {post : Int32 → Prop} {J : Int32 → Prop} {a w v k x : Nat} {b : Bool} (ha : a < 3) (hv : v < 16) (hx : x < 16)
    (hT : (kw_al (kw_in th co di k a v x) 16 && b) = true → post 1) (hF : (kw_al (kw_in th co di k a v x) 16 && b) = false → J (nI (x + 1))) : ∃ n, wY_tells_40 post J (nI a) (nI w) (nI v) (nI k) (nI x) th ac ht fa co sz kd ag fi tr ia ho ro di n (kw_b b) 0 := by
  refine kw_lp (fun n i s => wY_tells_40 post J (nI a) (nI w) (nI v) (nI k) (nI x) th ac ht fa co sz kd ag fi tr ia ho ro di n s (nI i)) (fun i => kw_b (kw_al (kw_in th co di k a v x) i && b)) 16 0 (by omega) (fun n => ?_) (fun n y hy g => ?_)
  · exact br_t (nI_le (a := 16) (by omega) (by decide)) (kw_br _ (fun e => nm_r (nI_1 x) (hF e)) (fun e => hT e))
  · refine br_f (nI_ge (b := 16) hy (by decide)) (kw_br _ (fun e => ?_) (fun e => ?_))
    · have e2 : (kw_al (kw_in th co di k a v x) 16 && b) = false := by
        cases hb : b
        · rw [Bool.and_false]
        · rw [hb, Bool.and_true] at e
          rw [kw_al_le (by omega) e]; rfl
      rw [e]
      exact br_t rfl (nm_r (nI_1 x) (hF e2))
    · rw [Bool.and_eq_true] at e
      rw [kw_ixY, nI_clamp (by omega)]
      refine ⟨vp_in_nI (by omega) (by decide), nm_e (ky_there hy (kw_br _ (fun e1 => nm_r (nI_1 y) ?_) (fun e1 => ky_same ha hv hy (kw_br _ (fun e2 => nm_r (nI_1 y) ?_) (fun e2 => ?_)))))⟩
      · rw [kw_al, e.1, e.2, kw_in, e1] at g
        exact g
      · rw [kw_al, e.1, e.2, kw_in, e1, kw_R, e2] at g
        exact g
      · rw [kw_al, e.1, e.2, kw_in, e1, kw_R, e2] at g
        by_cases z1 : di (16 * x + y) < 0
        · rw [kw_q_f1 z1] at g
          exact br_t z1 (nm_r (nI_1 y) g)
        · refine br_f z1 ?_
          by_cases z2 : nI k < di (16 * x + y)
          · rw [kw_q_f2 z2] at g
            exact br_t z2 (nm_r (nI_1 y) g)
          · rw [kw_q_t z1 z2] at g
            exact br_f z2 (nm_r (nI_1 y) g)
theorem ky_tells {post : Int32 → Prop} {a w v k : Nat} (ha : a < 3) (hw : w < 16) (hv : v < 16) (h : post (kw_b (kw_t1 th co (kw_q di k) a w v))) : wpY_tells post (th, ac, ht, fa, co, sz, kd, ag, fi, tr, ia, ho, ro, di) (nI a) (nI w) (nI v) (nI k) := by
  unfold wpY_tells
  dsimp only
  refine kw_le (fun n i => wY_tells_3 post (nI a) (nI w) (nI v) (nI k) th ac ht fa co sz kd ag fi tr ia ho ro di n (nI i)) (fun x => bt th x && kw_R co a w x && kw_al (kw_in th co di k a v x) 16) 16 (fun hf n => ?_) (fun n x hx hf g => ?_)
  · have e : kw_t1 th co (kw_q di k) a w v = false := kw_ex_f.mpr hf
    rw [e] at h
    exact br_t (nI_le (a := 16) (by omega) (by decide)) h
  · refine br_f (nI_ge (b := 16) hx (by decide)) (ky_there hx (kw_br _ (fun e => ?_) (fun e => ky_same ha hw hx (kw_br _ (fun e2 => ?_) (fun e2 => ?_)))))
    · exact ky_tells40 (b := false) ha hv hx (fun z => by rw [Bool.and_false] at z; exact nomatch z) (fun _ => g (by rw [e]; rfl))
    · exact ky_tells40 (b := false) ha hv hx (fun z => by rw [Bool.and_false] at z; exact nomatch z) (fun _ => g (by rw [e, kw_R, e2]; rfl))
    · refine ky_tells40 (b := true) ha hv hx (fun z => ?_) (fun z => g ?_)
      · rw [Bool.and_true] at z
        have e3 : kw_t1 th co (kw_q di k) a w v = true := kw_ex_iff.mpr ⟨x, hx, by
          show (bt th x && kw_R co a w x && kw_al (kw_in th co di k a v x) 16) = true
          rw [e, kw_R, e2, z]; rfl⟩
        rw [e3] at h
        exact h
      · rw [Bool.and_true] at z
        rw [z, Bool.and_false]
theorem ky_telling {post : Int32 → Prop} {w v k : Nat} (hw : w < 16) (hv : v < 16) (h : post (kw_b (kw_tl th co (kw_q di k) w v))) : wpY_telling post (th, ac, ht, fa, co, sz, kd, ag, fi, tr, ia, ho, ro, di) (nI w) (nI v) (nI k) := by
  unfold wpY_telling
  dsimp only
  refine kw_lp (fun n i s => wY_telling_6 post (nI w) (nI v) (nI k) th ac ht fa co sz kd ag fi tr ia ho ro di n s (nI i)) (fun i => kw_b (kw_ex (fun a => kw_t1 th co (kw_q di k) a w v || kw_t1 th co (kw_q di k) a v w) i)) 3 0 (by omega) (fun n => ?_) (fun n a ha g => ?_)
  · exact br_t (nI_le (a := 3) (by omega) (by decide)) ⟨kw_nar _, h⟩
  · rw [kw_ex] at g
    refine br_f (nI_ge (b := 3) ha (by decide)) (kw_br _ (fun e => ky_tells ha hw hv (kw_br _ (fun e2 => ky_tells ha hv hw (kw_br _ (fun e3 => nm_r (nI_1 a) ?_) (fun e3 => nm_r (nI_1 a) ?_))) (fun e2 => nm_r (nI_1 a) ?_))) (fun e => nm_r (nI_1 a) ?_))
    · rw [e, e2, e3] at g
      exact g
    · rw [e, e2, e3] at g
      exact g
    · rw [e, e2] at g
      exact g
    · rw [e] at g
      exact g
theorem kw_d16 {p : Nat} (hp : p < 256) : nI p / 16 = nI (p / 16) := pk_div (d := 16) (by omega) (by omega) (by omega)
theorem kw_r16 {p : Nat} (hp : p < 256) : nI p - nI (p / 16) * 16 = nI (p % 16) := by
  have := pk_rem (a := p) (d := 16) (by omega) (by omega) (by omega)
  rw [pk_div (d := 16) (by omega) (by omega) (by omega)] at this
  exact this
theorem kw_n16 : ¬ (16 : Int32) = 0 := by decide
def kw_stp (th : Int32) (co : Nat → Int32) (k : Nat) (d : Nat → Int32) (p : Nat) : Int32 := if (bt th (p / 16) && bt th (p % 16) && !decide (0 ≤ d p) && kw_tl th co (kw_q d k) (p / 16) (p % 16)) = true then nI (k + 1) else d p
theorem kw_q_mx {k i : Nat} (hk : k < 1000) {d : Nat → Int32} : kw_q (kw_mx (kw_stp th co k d) d i) k = kw_q d k := by
  funext x y
  by_cases h : 16 * x + y < i
  · unfold kw_q
    rw [kw_mx_lo h, kw_stp]
    by_cases e : (bt th ((16 * x + y) / 16) && bt th ((16 * x + y) % 16) && !decide (0 ≤ d (16 * x + y)) && kw_tl th co (kw_q d k) ((16 * x + y) / 16) ((16 * x + y) % 16)) = true
    · rw [if_pos e]
      simp only [Bool.and_eq_true, Bool.not_eq_true', decide_eq_false_iff_not] at e
      rw [decide_eq_false (fun z => nI_ge (a := k) (b := k + 1) (by omega) (by omega) z.2), decide_eq_false (fun z => e.1.2 z.1)]
    · rw [if_neg e]
  · unfold kw_q
    rw [kw_mx_hi (by omega)]
theorem kw_mx_same {new old : Nat → Int32} {i : Nat} (h : new i = old i) : kw_mx new old (i + 1) = kw_mx new old i := by
  rw [← kw_mx_upd]
  funext j
  unfold upd kw_mx
  by_cases e : j = i
  · subst e
    rw [if_pos rfl, if_neg (by omega)]; exact h
  · rw [if_neg e]
theorem ky_round {post : SY → Prop} {J : Int32 → (Nat → Int32) → (Nat → Int32) → (Nat → Int32) → (Nat → Int32) → (Nat → Int32) → (Nat → Int32) → (Nat → Int32) → (Nat → Int32) → (Nat → Int32) → (Nat → Int32) → (Nat → Int32) → Prop} {k : Nat} (hk : k < 20) (h : J (nI (k + 2)) fa co sz kd ag fi tr ia ho ro (kw_mx (kw_stp th co k di) di 256)) : ∃ n, wY_findDistances_58 post J (nI (k + 1)) th ac ht n 0 fa co sz kd ag fi tr ia ho ro di := by
  refine kw_lp (fun n i s => wY_findDistances_58 post J (nI (k + 1)) th ac ht n (nI i) fa co sz kd ag fi tr ia ho ro s) (fun i => kw_mx (kw_stp th co k di) di i) 256 0 (by omega) (fun n => ?_) (fun n p hp g => ?_)
  · exact br_t (nI_le (a := 256) (by omega) (by decide)) (nm_r (nI_1 (k + 1)) h)
  · have hno : (bt th (p / 16) && bt th (p % 16) && !decide (0 ≤ di p) && kw_tl th co (kw_q di k) (p / 16) (p % 16)) = false → wY_findDistances_58 post J (nI (k + 1)) th ac ht n (nI (p + 1)) fa co sz kd ag fi tr ia ho ro (kw_mx (kw_stp th co k di) di p) := by
      intro z
      have e : kw_stp th co k di p = di p := by
        rw [kw_stp, if_neg (by rw [z]; decide)]
      rw [kw_mx_same e] at g
      exact g
    refine br_f (nI_ge (b := 256) hp (by decide)) ⟨kw_n16, ?_⟩
    rw [kw_d16 hp, kw_r16 hp]
    refine ky_there (by omega) (kw_br _ (fun e => br_t rfl (nm_r (nI_1 p) (hno (by rw [e]; rfl)))) (fun e => ⟨kw_n16, ky_there (by omega) (kw_br _ (fun e2 => br_t rfl (nm_r (nI_1 p) (hno (by rw [e, e2]; rfl)))) (fun e2 => ⟨vp_in_nI hp (by decide), ?_⟩))⟩))
    rw [nI_clamp (by omega), kw_mx_hi (Nat.le_refl p)]
    by_cases z : 0 ≤ di p
    · exact br_t z (br_t rfl (nm_r (nI_1 p) (hno (by rw [decide_eq_true z]; simp))))
    · refine br_f z (br_f (by decide) ⟨kw_n16, kw_n16, ?_⟩)
      rw [kw_d16 hp, kw_r16 hp, nI_pred]
      refine ky_telling (by omega) (by omega) ?_
      rw [kw_q_mx (by omega)]
      refine kw_br _ (fun e3 => nm_r (nI_1 p) (hno (by rw [e3, Bool.and_false]))) (fun e3 => ⟨vp_in_nI hp (by decide), nm_r ?_ (nm_r (nI_1 p) g)⟩)
      rw [nI_clamp (by omega), ← kw_mx_upd, kw_stp, e, e2, e3, decide_eq_false z]
      rfl
def kw_d0 (fa : Nat → Int32) (p : Nat) : Int32 := if fa (p / 16) = fa (p % 16) then -2 else 0
def kw_D (th : Int32) (fa co di : Nat → Int32) : Nat → Nat → Int32
  | 0 => kw_mx (kw_d0 fa) di 256
  | k + 1 => kw_mx (kw_stp th co k (kw_D th fa co di k)) (kw_D th fa co di k) 256
theorem ky_dist {post : SY → Prop} (h : post (th, ac, ht, fa, co, sz, kd, ag, fi, tr, ia, ho, ro, kw_D th fa co di 17)) : wpY_findDistances post (th, ac, ht, fa, co, sz, kd, ag, fi, tr, ia, ho, ro, di) := by
  unfold wpY_findDistances
  dsimp only
  refine kw_lp (fun n i s => wY_findDistances_2 post th ac ht n (nI i) fa co sz kd ag fi tr ia ho ro s) (fun i => kw_mx (kw_d0 fa) di i) 256 0 (by omega) (fun n => ?_) (fun n p hp g => ?_)
  · refine br_t (nI_le (a := 256) (by omega) (by decide)) ?_
    refine kw_lp (fun n i s => wY_findDistances_50 post th ac ht n (nI (i + 1)) fa co sz kd ag fi tr ia ho ro s) (fun i => kw_D th fa co di i) 17 0 (by omega) (fun n => ?_) (fun n k hk g => ?_)
    · exact br_t (nI_le (a := 18) (by omega) (by decide)) h
    · exact br_f (nI_ge (b := 18) (by omega) (by decide)) (ky_round (di := kw_D th fa co di k) (by omega) g)
  · refine br_f (nI_ge (b := 256) hp (by decide)) ⟨kw_n16, ?_⟩
    rw [kw_d16 hp, kw_r16 hp]
    refine ⟨vp_in_nI (by omega) (by decide), kw_n16, vp_in_nI (by omega) (by decide), ?_⟩
    rw [nI_clamp (by omega), nI_clamp (by omega)]
    have e : upd (kw_mx (kw_d0 fa) di p) p (kw_d0 fa p) = kw_mx (kw_d0 fa) di (p + 1) := kw_mx_upd
    by_cases z : fa (p / 16) = fa (p % 16)
    · rw [kw_d0, if_pos z] at e
      exact br_t z ⟨vp_in_nI hp (by decide), nm_r (by rw [nI_clamp (by omega)]; exact e) (nm_r (nI_1 p) g)⟩
    · rw [kw_d0, if_neg z] at e
      exact br_f z ⟨vp_in_nI hp (by decide), nm_r (by rw [nI_clamp (by omega)]; exact e) (nm_r (nI_1 p) g)⟩
/-! what the distances say -/
theorem kw_q_n2 {d : Nat → Int32} {k x y : Nat} (h : d (16 * x + y) = -2) : kw_q d k x y = false := kw_q_f1 (by rw [h]; decide)
theorem kw_q_nI {d : Nat → Int32} {k x y m : Nat} (h : d (16 * x + y) = nI m) (hm : m < 1000) (hk : k < 1000) : kw_q d k x y = decide (m ≤ k) := by
  unfold kw_q
  rw [h]
  by_cases z : m ≤ k
  · rw [decide_eq_true z, decide_eq_true ⟨nI_pos' (by omega), nI_le z (by omega)⟩]
  · rw [decide_eq_false z, decide_eq_false (fun g => nI_ge (a := k) (b := m) (by omega) (by omega) g.2)]
theorem kw_E (k : Nat) (hk : k < 100) : ∀ w v, w < 16 → v < 16 → bt th w = true → bt th v = true → (∀ n, n ≤ k → kw_q (kw_D th fa co di k) n w v = kw_ap th fa co n w v) ∧ (kw_D th fa co di k (16 * w + v) = -2 ∨ ∃ m, m ≤ k ∧ kw_D th fa co di k (16 * w + v) = nI m) := by
  induction k with
  | zero =>
    intro w v hw hv bw bv
    have e : kw_D th fa co di 0 (16 * w + v) = if fa w = fa v then -2 else 0 := by
      rw [kw_D, kw_mx_lo (by omega), kw_d0, show (16 * w + v) / 16 = w from by omega, show (16 * w + v) % 16 = v from by omega]
    by_cases z : fa w = fa v
    · rw [if_pos z] at e
      refine ⟨fun n hn => ?_, Or.inl e⟩
      have : n = 0 := by omega
      subst this
      rw [kw_q_n2 e]
      exact (decide_eq_false (fun g => g z)).symm
    · rw [if_neg z] at e
      refine ⟨fun n hn => ?_, Or.inr ⟨0, by omega, e⟩⟩
      have : n = 0 := by omega
      subst this
      rw [kw_q_nI (m := 0) e (by omega) (by omega)]
      exact (decide_eq_true (p := fa w ≠ fa v) z).symm
  | succ k ih =>
    intro w v hw hv bw bv
    have ih := ih (by omega)
    have e : kw_D th fa co di (k + 1) (16 * w + v) = if (!decide (0 ≤ kw_D th fa co di k (16 * w + v)) && kw_tl th co (kw_ap th fa co k) w v) = true then nI (k + 1) else kw_D th fa co di k (16 * w + v) := by
      rw [kw_D, kw_mx_lo (by omega), kw_stp, show (16 * w + v) / 16 = w from by omega, show (16 * w + v) % 16 = v from by omega, bw, bv, kw_tl_cg (q' := kw_ap th fa co k) (fun x y hx hy bx bY => (ih x y hx hy bx bY).1 k (by omega))]
      rfl
    obtain ⟨h1, h2⟩ := ih w v hw hv bw bv
    rcases h2 with h2 | ⟨m, hm, h2⟩
    · rw [h2, decide_eq_false (by decide)] at e
      have hf : ∀ n, n ≤ k → kw_ap th fa co n w v = false := fun n hn => by rw [← h1 n hn]; exact kw_q_n2 h2
      cases z : kw_tl th co (kw_ap th fa co k) w v
      · rw [z, if_neg (by decide)] at e
        refine ⟨fun n hn => ?_, Or.inl e⟩
        rw [kw_q_n2 e]
        by_cases g : n = k + 1
        · rw [g, kw_ap_s, hf k (by omega), z]; rfl
        · rw [hf n (by omega)]
      · rw [z, if_pos (by decide)] at e
        refine ⟨fun n hn => ?_, Or.inr ⟨k + 1, by omega, e⟩⟩
        rw [kw_q_nI e (by omega) (by omega)]
        by_cases g : n = k + 1
        · rw [g, kw_ap_s, hf k (by omega), z]; simp
        · rw [hf n (by omega), decide_eq_false (by omega)]
    · have hp : (0 : Int32) ≤ nI m := nI_pos' (by omega)
      rw [h2, decide_eq_true hp, if_neg (by simp)] at e
      refine ⟨fun n hn => ?_, Or.inr ⟨m, by omega, e⟩⟩
      rw [kw_q_nI e (by omega) (by omega)]
      by_cases g : n = k + 1
      · have := h1 k (by omega)
        rw [kw_q_nI h2 (by omega) (by omega), decide_eq_true hm] at this
        rw [g, kw_ap_mono this.symm, decide_eq_true (by omega)]
      · rw [← h1 n (by omega), kw_q_nI h2 (by omega) (by omega)]
theorem ky_kinds {post : Int32 → SY → Prop} (h : ∀ di', post (nI (kw_c (kw_lw th fa co 17) 16)) (th, ac, ht, fa, co, sz, kd, ag, fi, tr, ia, ho, ro, di')) : wpY_kinds post (th, ac, ht, fa, co, sz, kd, ag, fi, tr, ia, ho, ro, di) := by
  unfold wpY_kinds
  dsimp only
  refine ky_dist ?_
  dsimp only
  have hE := kw_E (th := th) (fa := fa) (co := co) (di := di) 17 (by omega)
  generalize kw_D th fa co di 17 = d at hE
  refine kw_lp (fun n i s => wY_kinds_8 post th ac ht fa co sz kd ag fi tr ia ho ro d n s (nI i)) (fun i => nI (kw_c (kw_lw th fa co 17) i)) 16 0 (by omega) (fun n => ?_) (fun n w hw g => ?_)
  · exact br_t (nI_le (a := 16) (by omega) (by decide)) (h d)
  · refine br_f (nI_ge (b := 16) hw (by decide)) (ky_there hw ?_)
    rw [kw_c, kw_lw] at g
    have hin := kw_lp (fun m i s => wY_kinds_23 post (wY_kinds_8 post th ac ht fa co sz kd ag fi tr ia ho ro d n) (nI (kw_c (kw_lw th fa co 17) w)) (nI w) th ac ht fa co sz kd ag fi tr ia ho ro d m s (nI i)) (fun i => kw_b (kw_al (fun v => !(bt th v && !kw_ap th fa co 17 w v)) i && bt th w)) w 0 (by omega)
      (fun m => br_t (nI_le (by omega) (by omega)) (kw_br _ (fun e => nm_r (nI_1 w) (by
        rw [Bool.and_comm, e] at g
        exact g)) (fun e => nm_r (by rw [nI_1]) (nm_r (nI_1 w) (by
        rw [Bool.and_comm, e] at g
        exact g)))))
      (fun m v hv G => br_f (nI_ge hv (by omega)) (kw_br _ (fun e => nm_r (nI_1 v) (by
        have e2 : (kw_al (fun v => !(bt th v && !kw_ap th fa co 17 w v)) (v + 1) && bt th w) = false := by
          rw [kw_al, Bool.and_assoc, Bool.and_comm (!_), ← Bool.and_assoc, e]; rfl
        rw [e2] at G; exact G)) (fun e => by
        rw [Bool.and_eq_true] at e
        rw [kw_al, e.1, e.2] at G
        refine ky_there (by omega) (kw_br _ (fun e1 => nm_r (nI_1 v) ?_) (fun e1 => ?_))
        · rw [e1] at G
          exact G
        · rw [kw_ixY, nI_clamp (by omega)]
          refine ⟨vp_in_nI (by omega) (by decide), ?_⟩
          obtain ⟨h1, h2⟩ := hE w v hw (by omega) e.2 e1
          have h1 := h1 17 (by omega)
          rcases h2 with h2 | ⟨q, hq, h2⟩
          · rw [kw_q_n2 h2] at h1
            rw [e1, ← h1] at G
            exact br_t h2 (nm_r (nI_1 v) G)
          · rw [kw_q_nI h2 (by omega) (by omega), decide_eq_true hq] at h1
            rw [e1, ← h1] at G
            refine br_f (fun z => ?_) (nm_r (nI_1 v) G)
            rw [h2] at z
            exact absurd (nI_pos' (n := q) (by omega)) (by rw [z]; decide))))
    simp only [kw_al, Bool.true_and] at hin
    exact hin
end
