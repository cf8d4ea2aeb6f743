theorem kw_wf_cg {K K' Z Z' : Nat → Nat} {n : Nat} (hK : ∀ i, i < n → K i = K' i) (hZ : ∀ i, i < n → Z i = Z' i) (h : kw_wf K Z n) : kw_wf K' Z' n := by
  obtain ⟨h1, h2, h3⟩ := h
  refine ⟨h1, by rw [← hZ _ (by omega)]; exact h2, fun i hi => ?_⟩
  have := h3 i hi
  rw [← hK i hi, ← hZ i hi, ← hZ (i - 1) (by omega), ← hZ (i - 1 - Z (i - 1)) (by omega)]
  exact this
theorem kw_off_cg {z z' : Nat → Nat} {h : Nat} (e : ∀ s, s < h → z s = z' s) : ∀ s, s ≤ h → kw_off z s = kw_off z' s := by
  intro s
  induction s with
  | zero => intro _; rfl
  | succ s ih => intro hs; rw [kw_off, kw_off, ih (by omega), e s (by omega)]
theorem kw_off_mono {z : Nat → Nat} {s t : Nat} (h : s ≤ t) : kw_off z s ≤ kw_off z t := by
  induction t with
  | zero => have : s = 0 := by omega
            rw [this]; exact Nat.le_refl _
  | succ t ih =>
    by_cases e : s = t + 1
    · rw [e]; exact Nat.le_refl _
    · have := ih (by omega)
      rw [kw_off]; omega
section
variable {wt aw tc fc : Int32} {fs ce tk ta fz hs ap na : Nat → Int32}
variable {th ac ht : Int32} {fa co sz kd ag fi tr ia ho ro di : Nat → Int32}
theorem kw_ST_new {h n : Nat} {z Z : Nat → Nat} {k a : Int32} {sz' kd' ag' : Nat → Int32} (h6 : h + 1 ≤ 6) (hn : n + 1 ≤ 24)
    (hf : ∀ s, s < h → sz s = nI (z s) ∧ kw_fm tk ta fz kd ag Z (kw_off z s) s (z s))
    (hc : ∀ i, i < n → kd' (24 * h + i) = tk (kw_off z h + i) ∧ ag' (24 * h + i) = ta (kw_off z h + i) ∧ fz (kw_off z h + i) = nI (Z (kw_off z h + i)) ∧ kw_ok (tk (kw_off z h + i)) (ta (kw_off z h + i)))
    (hk : kd' (24 * h + n) = k) (ha : ag' (24 * h + n) = a) (hok : kw_ok k a)
    (hfr : ∀ j, j < 24 * h → kd' j = kd j ∧ ag' j = ag j) (hsz : ∀ s, s < h → sz' s = sz s) (hsz2 : sz' h = nI (n + 1))
    (hw : kw_wf (fun i => if i < n then (tk (kw_off z h + i)).toNatClampNeg else k.toNatClampNeg) (fun i => if i < n then Z (kw_off z h + i) else n + 1) (n + 1)) :
    kw_ST (nI (kw_off z h + n + 1)) (nI (h + 1)) (nI (h + 1)) (upd tk (kw_off z h + n) k) (upd ta (kw_off z h + n) a) (upd fz (kw_off z h + n) (nI (n + 1))) sz' kd' ag' := by
  obtain ⟨z', z1, z2⟩ : ∃ z' : Nat → Nat, z' h = n + 1 ∧ ∀ s, s < h → z s = z' s := ⟨fun s => if s = h then n + 1 else z s, if_pos rfl, fun s hs => (if_neg (by omega)).symm⟩
  obtain ⟨Z', Z1, Z2⟩ : ∃ Z' : Nat → Nat, Z' (kw_off z h + n) = n + 1 ∧ ∀ j, j < kw_off z h + n → Z' j = Z j := ⟨fun j => if j = kw_off z h + n then n + 1 else Z j, if_pos rfl, fun s hs => if_neg (by omega)⟩
  have eo : ∀ s, s ≤ h → kw_off z s = kw_off z' s := kw_off_cg z2
  refine ⟨h + 1, z', Z', h6, rfl, rfl, ?_, fun s hs => ?_⟩
  · rw [kw_off, ← eo h (by omega), z1]; rfl
  · by_cases e : s = h
    · subst e
      refine ⟨by rw [z1]; exact hsz2, ?_⟩
      rw [← eo s (by omega), z1]
      refine ⟨hn, fun i hi => ?_, ?_⟩
      · by_cases e : i = n
        · subst e
          rw [pk_us, pk_us, pk_us, Z1]
          exact ⟨hk, ha, rfl, hok⟩
        · rw [pk_un (by omega), pk_un (by omega), pk_un (by omega), Z2 _ (by omega)]
          exact hc i (by omega)
      · refine kw_wf_cg (fun i hi => ?_) (fun i hi => ?_) hw
        · by_cases e : i < n
          · rw [if_pos e, pk_un (by omega)]
          · have : i = n := by omega
            subst this
            rw [if_neg e, pk_us]
        · by_cases e : i < n
          · rw [if_pos e, Z2 _ (by omega)]
          · have : i = n := by omega
            subst this
            rw [if_neg e, Z1]
    · have hs' : s < h := by omega
      obtain ⟨hz, h24, hi, hwf⟩ := hf s hs'
      have hm : kw_off z s + z s ≤ kw_off z h := kw_off_mono (s := s + 1) (z := z) hs'
      rw [← eo s (by omega), ← z2 s hs']
      refine ⟨by rw [hsz s hs']; exact hz, h24, fun i hi' => ?_, ?_⟩
      · rw [pk_un (by omega), pk_un (by omega), pk_un (by omega), Z2 _ (by omega), (hfr _ (by omega)).1, (hfr _ (by omega)).2]
        exact hi i hi'
      · refine kw_wf_cg (fun i hi => ?_) (fun i hi => ?_) hwf
        · rw [pk_un (by omega)]
        · rw [Z2 _ (by omega)]
theorem kw_wf_0 {K Z : Nat → Nat} (hk : kw_t (K 0) = 0) (hZ : Z 0 = 1) : kw_wf K Z 1 :=
  ⟨by omega, hZ, fun i hi => by
    have : i = 0 := by omega
    subst this
    exact ⟨fun _ => hZ, fun h => by rw [hk] at h; omega, fun h => by rw [hk] at h; omega⟩⟩
theorem kw_wf_1 {K Z : Nat → Nat} {n : Nat} (h : kw_wf K Z n) (hk : kw_t (K n) = 1) (hZ : Z n = n + 1) : kw_wf K Z (n + 1) := by
  obtain ⟨h1, h2, h3⟩ := h
  refine ⟨by omega, hZ, fun i hi => ?_⟩
  by_cases e : i = n
  · subst e
    refine ⟨fun h => by rw [hk] at h; omega, fun _ => ⟨h1, by rw [hZ, h2]; omega⟩, fun h => by rw [hk] at h; omega⟩
  · exact h3 i (by omega)
theorem kw_wf_2 {K Z : Nat → Nat} {n m : Nat} (h : kw_wf K Z n) (g : kw_wf (fun i => K (n + i)) (fun i => Z (n + i)) m) (hk : kw_t (K (n + m)) = 2) (hZ : Z (n + m) = n + m + 1) : kw_wf K Z (n + m + 1) := by
  obtain ⟨h1, h2, h3⟩ := h
  obtain ⟨g1, g2, g3⟩ := g
  refine ⟨by omega, hZ, fun i hi => ?_⟩
  by_cases e : i = n + m
  · subst e
    have e1 : Z (n + m - 1) = m := by rw [show n + m - 1 = n + (m - 1) from by omega]; exact g2
    refine ⟨fun h => by rw [hk] at h; omega, fun h => by rw [hk] at h; omega, fun _ => ?_⟩
    rw [e1, show n + m - 1 - m = n - 1 from by omega, h2, hZ]
    omega
  · by_cases e2 : i < n
    · exact h3 i e2
    · obtain ⟨j, rfl⟩ : ∃ j, i = n + j := ⟨i - n, by omega⟩
      obtain ⟨q0, q1, q2⟩ := g3 j (by omega)
      dsimp only at q0 q1 q2
      refine ⟨q0, fun hh => ?_, fun hh => ?_⟩
      · have := q1 hh
        rw [show n + j - 1 = n + (j - 1) from by omega]
        exact ⟨by omega, this.2⟩
      · have := q2 hh
        rw [show n + j - 1 = n + (j - 1) from by omega, show n + (j - 1) - Z (n + (j - 1)) = n + (j - 1 - Z (n + (j - 1))) from by omega]
        exact ⟨by omega, this.2⟩
theorem ky_append {post : SY → Prop} {s m : Nat} {k a : Int32} (hs : s < 6) (hm : sz s = nI m) (hb : 24 * s + m < 144) (h : post (th, ac, ht, fa, co, upd sz s (nI (m + 1)), upd kd (24 * s + m) k, upd ag (24 * s + m) a, fi, tr, ia, ho, ro, di)) : wpY_append post (th, ac, ht, fa, co, sz, kd, ag, fi, tr, ia, ho, ro, di) (nI s) k a := by
  unfold wpY_append
  dsimp only
  rw [nI_clamp (by omega), hm, kw_ixT, nI_clamp (by omega)]
  exact ⟨vp_in_nI hs (by decide), vp_in_nI hb (by decide), nm_e ⟨vp_in_nI hs (by decide), vp_in_nI hb (by decide), nm_e ⟨vp_in_nI hs (by decide), vp_in_nI hs (by decide), nm_r (by rw [nI_1]) h⟩⟩⟩
theorem ky_tok178 {post : Int32 → SY → Prop} {s m : Nat} {k a : Int32} (hs : s < 6) (hm : sz s = nI m) (hb : 24 * s + m < 144) (h : post (nI (s + 1)) (th, ac, nI (s + 1), fa, co, upd sz s (nI (m + 1)), upd kd (24 * s + m) k, upd ag (24 * s + m) a, fi, tr, ia, ho, ro, di)) : wY_token_178 post k a (nI s) th ac ht fa co sz kd ag fi tr ia ho ro di := by
  unfold wY_token_178
  refine ky_append hs hm hb ?_
  dsimp only
  exact nm_r (nI_1 s) h
/-- the copy of the second formula behind the first -/
def kw_cp (f : Nat → Int32) (b m : Nat) (s i : Nat) : Nat → Int32 := fun j => if b ≤ j ∧ j < b + i then f (24 * s + 24 + (j - b)) else f j
theorem kw_cp_upd {f : Nat → Int32} {b m s i : Nat} (hb : b = 24 * s + m) : upd (kw_cp f b m s i) (b + i) (f (24 * s + 24 + i)) = kw_cp f b m s (i + 1) := by
  funext j
  unfold upd kw_cp
  by_cases e : j = b + i
  · rw [if_pos e, if_pos (by omega), show j - b = i from by omega]
  · rw [if_neg e]
    by_cases e2 : b ≤ j ∧ j < b + i
    · rw [if_pos e2, if_pos (by omega)]
    · rw [if_neg e2, if_neg (by omega)]
theorem kw_cp_0 {f : Nat → Int32} {b m s : Nat} : kw_cp f b m s 0 = f := by
  funext j
  exact if_neg (by omega)
theorem ky_tok115 {post : Int32 → SY → Prop} {s m l : Nat} {k a : Int32} (hs : s + 1 < 6) (hm : sz s = nI m) (hl : sz (s + 1) = nI l) (h24 : m + l + 1 ≤ 24) (h : post (nI (s + 1)) (th, ac, nI (s + 1), fa, co, upd (upd sz s (nI (m + l))) s (nI (m + l + 1)), upd (kw_cp kd (24 * s + m) m s l) (24 * s + (m + l)) k, upd (kw_cp ag (24 * s + m) m s l) (24 * s + (m + l)) a, fi, tr, ia, ho, ro, di)) : ∃ n, wY_token_115 post k a 2 (nI s) n 0 th ac ht fa co sz kd ag fi tr ia ho ro di := by
  have hin := kw_lp (fun n i (q : (Nat → Int32) × (Nat → Int32) × (Nat → Int32)) => wY_token_115 post k a 2 (nI s) n (nI i) th ac ht fa co q.1 q.2.1 q.2.2 fi tr ia ho ro di) (fun i => (upd sz s (nI (m + i)), kw_cp kd (24 * s + m) m s i, kw_cp ag (24 * s + m) m s i)) l 0 (by omega)
    (fun n => br_t rfl ⟨by rw [nI_1]; exact vp_in_nI hs (by decide), br_t (by
        dsimp only
        rw [nI_1, nI_clamp (by omega), pk_un (by omega), hl]
        exact nI_le (by omega) (by omega)) (ky_tok178 (by omega) pk_us (by omega) h)⟩)
    (fun n i hi g => br_t rfl ⟨by rw [nI_1]; exact vp_in_nI hs (by decide), br_f (by
        dsimp only
        rw [nI_1, nI_clamp (by omega), pk_un (by omega), hl]
        exact nI_ge hi (by omega)) (by
        have e : 24 * nI s + 24 + nI i = nI (24 * s + 24 + i) := by
          rw [show (24 : Int32) = nI 24 from rfl, pk_mul, nI_add, nI_add]
        rw [e]
        refine ⟨vp_in_nI (by omega) (by decide), vp_in_nI (by omega) (by decide), ?_⟩
        rw [nI_clamp (by omega)]
        refine ky_append (m := m + i) (by omega) pk_us (by omega) ?_
        dsimp only
        refine nm_r (nI_1 i) ?_
        have e1 : upd (upd sz s (nI (m + i))) s (nI (m + i + 1)) = upd sz s (nI (m + (i + 1))) := kw_updupd
        have e2 : kw_cp kd (24 * s + m) m s i (24 * s + 24 + i) = kd (24 * s + 24 + i) := if_neg (by omega)
        have e3 : kw_cp ag (24 * s + m) m s i (24 * s + 24 + i) = ag (24 * s + 24 + i) := if_neg (by omega)
        rw [e1, e2, e3, show 24 * s + (m + i) = 24 * s + m + i from by omega, kw_cp_upd (m := m) rfl, kw_cp_upd (m := m) rfl]
        exact g)⟩)
  obtain ⟨n, hn⟩ := hin
  dsimp only at hn
  have e0 : upd sz s (nI (m + 0)) = sz := by
    funext j
    unfold upd
    by_cases e : j = s
    · rw [if_pos e, e, hm]; rfl
    · rw [if_neg e]
  rw [e0, kw_cp_0, kw_cp_0] at hn
  exact ⟨n, hn⟩
end
