def kw_off (z : Nat → Nat) : Nat → Nat
  | 0 => 0
  | s + 1 => kw_off z s + z s
def kw_wf (K Z : Nat → Nat) (n : Nat) : Prop := 1 ≤ n ∧ Z (n - 1) = n ∧ ∀ i, i < n → (kw_t (K i) = 0 → Z i = 1) ∧ (kw_t (K i) = 1 → 1 ≤ i ∧ Z i = 1 + Z (i - 1)) ∧ (kw_t (K i) = 2 → Z (i - 1) + 1 ≤ i ∧ Z i = 1 + Z (i - 1) + Z (i - 1 - Z (i - 1)))
/-- one formula: n tokens, in the component from o on, in the reference in slot s -/
def kw_fm (tk ta fz kd ag : Nat → Int32) (Z : Nat → Nat) (o s n : Nat) : Prop := n ≤ 24 ∧ (∀ i, i < n → kd (24 * s + i) = tk (o + i) ∧ ag (24 * s + i) = ta (o + i) ∧ fz (o + i) = nI (Z (o + i)) ∧ kw_ok (tk (o + i)) (ta (o + i))) ∧ kw_wf (fun i => (tk (o + i)).toNatClampNeg) (fun i => Z (o + i)) n
def kw_FA (wt : Int32) (fs fa : Nat → Int32) : Prop := ∀ w, w < 16 → bt wt w = true → (∀ p, p < 4 → bt (fs p) w = bt (fa w) p) ∧ (∀ i, 4 ≤ i → bt (fa w) i = false)
def kw_R (co : Nat → Int32) (a w v : Nat) : Bool := decide (co (16 * a + w) = co (16 * a + v))
def kw_CE (wt : Int32) (ce co : Nat → Int32) : Prop := ∀ a, a < 3 → ∀ w v, w < 16 → v < 16 → bt wt w = true → bt wt v = true → bt (ce (16 * a + w)) v = kw_R co a w v
def kw_ST (tc fc ht : Int32) (tk ta fz sz kd ag : Nat → Int32) : Prop := ∃ (h : Nat) (z Z : Nat → Nat), h ≤ 6 ∧ fc = nI h ∧ ht = nI h ∧ tc = nI (kw_off z h) ∧ ∀ s, s < h → sz s = nI (z s) ∧ kw_fm tk ta fz kd ag Z (kw_off z s) s (z s)
def kw_AC (wt aw ac : Int32) : Prop := ∃ n, n < 16 ∧ aw = nI n ∧ ac = nI n ∧ bt wt n = true
def i_Rel (k : Nat) (u : SX) (v : SY) : Prop := match u, v with
  | (wt, aw, tc, fc, fs, ce, tk, ta, fz, hs, ap, na), (th, ac, ht, fa, co, sz, kd, ag, fi, tr, ia, ho, ro, di) => wt = th ∧ kw_S wt ∧ kw_AC wt aw ac ∧ kw_FA wt fs fa ∧ kw_CE wt ce co ∧ kw_ST tc fc ht tk ta fz sz kd ag
theorem i_up {k : Nat} {u : SX} {v : SY} (h : i_Rel k u v) : i_Rel (k + 4) u v := h
/-! the beginning -/
section
variable {wt aw tc fc : Int32} {fs ce tk ta fz hs ap na : Nat → Int32}
variable {th ac ht : Int32} {fa co sz kd ag fi tr ia ho ro di : Nat → Int32}
def kw_bq (p : Nat) : Nat → Bool := fun w => bt (nI w) p
def kw_bf (p : Nat) : Int32 := kw_mk (kw_bq p) 16
theorem kw_updupd {f : Nat → Int32} {k : Nat} {x y : Int32} : upd (upd f k x) k y = upd f k y := by
  funext j
  unfold upd
  by_cases h : j = k
  · simp [h]
  · simp [h]
theorem kx_begin {post : SX → Prop} (h : ∀ fs' ce' : Nat → Int32, (∀ p, p < 4 → fs' p = kw_bf p) → (∀ j, j < 48 → ce' j = 65535) → post (65535, 0, tc, fc, fs', ce', tk, ta, fz, hs, ap, na)) : wpX_setBeginning post (wt, aw, tc, fc, fs, ce, tk, ta, fz, hs, ap, na) := by
  unfold wpX_setBeginning
  dsimp only
  refine kw_lp (fun n i s => wX_setBeginning_13 post 65535 0 tc fc n (nI i) s ce tk ta fz hs ap na) (fun i => kw_mx kw_bf fs i) 4 0 (by omega) (fun n => ?_) (fun n p hp g => ?_)
  · refine br_t (nI_le (a := 4) (by omega) (by decide)) ?_
    refine kw_lp (fun n i s => wX_setBeginning_67 post 65535 0 tc fc n (nI i) (kw_mx kw_bf fs 4) s tk ta fz hs ap na) (fun i => kw_mx (fun _ => 65535) ce i) 48 0 (by omega) (fun n => ?_) (fun n i hi g => ?_)
    · refine br_t (nI_le (a := 48) (by omega) (by decide)) (h _ _ (fun p hp => kw_mx_lo hp) (fun j hj => kw_mx_lo hj))
    · refine br_f (nI_ge (b := 48) hi (by decide)) ⟨vp_in_nI hi (by decide), nm_r ?_ (nm_r (nI_1 i) g)⟩
      rw [nI_clamp (by omega)]
      exact kw_mx_upd (new := fun _ => 65535)
  · refine br_f (nI_ge (b := 4) hp (by decide)) ⟨vp_in_nI hp (by decide), nm_r (e' := upd (kw_mx kw_bf fs p) p (kw_mk (kw_bq p) 0)) (by rw [nI_clamp (by omega)]; rfl) ?_⟩
    refine kw_lp (fun m i s => wX_setBeginning_27 post (wX_setBeginning_13 post 65535 0 tc fc n) (nI p) 65535 0 tc fc m (nI i) s ce tk ta fz hs ap na) (fun i => upd (kw_mx kw_bf fs p) p (kw_mk (kw_bq p) i)) 16 0 (by omega) (fun n => ?_) (fun n i hi g => ?_)
    · refine br_t (nI_le (a := 16) (by omega) (by decide)) (nm_r (nI_1 p) ?_)
      have e : upd (kw_mx kw_bf fs p) p (kw_mk (kw_bq p) 16) = kw_mx kw_bf fs (p + 1) := kw_mx_upd (new := kw_bf)
      rw [e]
      exact g
    · refine br_f (nI_ge (b := 16) hi (by decide)) (kx_isIn (by omega) (kw_br _ (fun e => nm_r (nI_1 i) ?_) (fun e => ⟨vp_in_nI hp (by decide), vp_in_nI hp (by decide), nm_r (e' := upd (kw_mx kw_bf fs p) p (kw_mk (kw_bq p) (i + 1))) ?_ (nm_r (nI_1 i) g)⟩)))
      · have e2 : kw_mk (kw_bq p) (i + 1) = kw_mk (kw_bq p) i := by
          rw [kw_mk, if_neg]
          rw [kw_bq, e]
          decide
        rw [← e2]
        exact g
      · rw [nI_clamp (by omega), pk_us, kw_updupd]
        have e2 : kw_mk (kw_bq p) (i + 1) = kw_mk (kw_bq p) i ||| ((1 : Int32) <<< (nI i &&& 31)) := by
          rw [kw_mk, if_pos]
          exact e
        rw [e2]
def kw_co0 (co : Nat → Int32) (i : Nat) : Nat → Int32 := fun j => if j < 48 ∧ j % 16 < i then 0 else co j
theorem kw_co0_s (i : Nat) (hi : i < 16) : upd (upd (upd (kw_co0 co i) i 0) (16 + i) 0) (32 + i) 0 = kw_co0 co (i + 1) := by
  funext j
  unfold upd kw_co0
  by_cases h1 : j = 32 + i
  · rw [if_pos h1, if_pos (by omega)]
  · by_cases h2 : j = 16 + i
    · rw [if_neg h1, if_pos h2, if_pos (by omega)]
    · by_cases h3 : j = i
      · rw [if_neg h1, if_neg h2, if_pos h3, if_pos (by omega)]
      · rw [if_neg h1, if_neg h2, if_neg h3]
        by_cases h4 : j < 48 ∧ j % 16 < i
        · rw [if_pos h4, if_pos (by omega)]
        · rw [if_neg h4, if_neg (by omega)]
theorem ky_restart {post : SY → Prop} (h : ∀ fa' co' : Nat → Int32, (∀ w, w < 16 → fa' w = nI w) → (∀ j, j < 48 → co' j = 0) → post (65535, 0, ht, fa', co', sz, kd, ag, fi, tr, ia, ho, ro, di)) : wpY_restart post (th, ac, ht, fa, co, sz, kd, ag, fi, tr, ia, ho, ro, di) := by
  unfold wpY_restart
  dsimp only
  obtain ⟨n, hn⟩ := kw_lp (fun n i (s : (Nat → Int32) × (Nat → Int32)) => wY_restart_13 post 65535 0 ht n (nI i) s.1 s.2 sz kd ag fi tr ia ho ro di) (fun i => (kw_mx nI fa i, kw_co0 co i)) 16 0 (by omega)
    (fun n => br_t (nI_le (a := 16) (by omega) (by decide)) (h _ _ (fun w hw => kw_mx_lo hw) (fun j hj => if_pos ⟨hj, by omega⟩)))
    (fun n i hi g => by
      refine br_f (nI_ge (b := 16) hi (by decide)) ⟨vp_in_nI hi (by decide), nm_r (e' := kw_mx nI fa (i + 1)) ?_ ⟨vp_in_nI (by omega) (by decide), nm_e ⟨?_, nm_e ⟨?_, nm_r (e' := kw_co0 co (i + 1)) ?_ (nm_r (nI_1 i) g)⟩⟩⟩⟩
      · rw [nI_clamp (by omega)]; exact kw_mx_upd
      · rw [show (16 : Int32) = nI 16 from rfl, nI_add]; exact vp_in_nI (by omega) (by decide)
      · rw [show (32 : Int32) = nI 32 from rfl, nI_add]; exact vp_in_nI (by omega) (by decide)
      · rw [show (32 : Int32) = nI 32 from rfl, show (16 : Int32) = nI 16 from rfl, nI_add, nI_add, nI_clamp (by omega), nI_clamp (by omega), nI_clamp (by omega)]
        exact kw_co0_s i hi)
  refine ⟨n, ?_⟩
  have e1 : kw_co0 co 0 = co := by funext j; exact if_neg (by omega)
  have e2 : kw_mx nI fa 0 = fa := kw_mx_0
  dsimp only at hn
  rw [e1, e2] at hn
  exact hn
theorem kw_hi4 : ∀ w, w < 16 → ∀ i, i < 32 → 4 ≤ i → bt (nI w) i = false := by decide +kernel
theorem kw_FA0 {fs' fa' : Nat → Int32} (h1 : ∀ p, p < 4 → fs' p = kw_bf p) (h2 : ∀ w, w < 16 → fa' w = nI w) : kw_FA 65535 fs' fa' := by
  intro w hw _
  refine ⟨fun p hp => ?_, fun i hi => ?_⟩
  · rw [h1 p hp, h2 w hw, kw_bf, kw_mk16 hw, kw_bq]
  · rw [h2 w hw]
    by_cases z : i < 32
    · exact kw_hi4 w hw i z hi
    · exact b_big (by omega)
theorem kw_CE0 {ce' co' : Nat → Int32} (h1 : ∀ j, j < 48 → ce' j = 65535) (h2 : ∀ j, j < 48 → co' j = 0) : kw_CE 65535 ce' co' := by
  intro a ha w v hw hv _ _
  rw [h1 _ (by omega), b_65535, decide_eq_true hv, kw_R, h2 _ (by omega), h2 _ (by omega)]
  rfl
theorem kw_AC0 : kw_AC 65535 0 0 := ⟨0, by omega, rfl, rfl, by decide +kernel⟩
end
theorem i_vc0 : wpX_init (fun u => wpY_init (fun v => i_Rel 0 u v)) := by
  unfold wpX_init
  refine kx_begin fun fs' ce' hf hc => ?_
  dsimp only
  unfold wpY_init
  refine ky_restart fun fa' co' hf' hc' => ?_
  dsimp only
  exact ⟨rfl, kw_S_all, kw_AC0, kw_FA0 hf hf', kw_CE0 hc hc', 0, fun _ => 0, fun _ => 0, by omega, rfl, rfl, rfl, fun s hs => absurd hs (by omega)⟩
theorem i_vc_restart {k : Nat} {u : SX} {v : SY} (I : i_Rel k u v) (hk : k + 4 ≤ 2048) : wpX_restart (fun u' => wpY_restart (fun v' => i_Rel (k + 4) u' v') v) u := by
  obtain ⟨wt, aw, tc, fc, fs, ce, tk, ta, fz, hs, ap, na⟩ := u
  obtain ⟨th, ac, ht, fa, co, sz, kd, ag, fi, tr, ia, ho, ro, di⟩ := v
  obtain ⟨rfl, hS, hA, hF, hC, hT⟩ := I
  unfold wpX_restart
  dsimp only
  refine kx_begin fun fs' ce' hf hc => ?_
  dsimp only
  refine ky_restart fun fa' co' hf' hc' => ?_
  exact ⟨rfl, kw_S_all, kw_AC0, kw_FA0 hf hf', kw_CE0 hc hc', hT⟩
