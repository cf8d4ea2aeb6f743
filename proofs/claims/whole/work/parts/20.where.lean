section
variable {wt aw tc fc : Int32} {fs ce tk ta fz hs ap na : Nat → Int32}
variable {th ac ht : Int32} {fa co sz kd ag fi tr ia ho ro di : Nat → Int32}
theorem kw_both {h : Nat} {z Z : Nat → Nat} (hS : kw_S wt) (hF : kw_FA wt fs fa) (hC : kw_CE wt ce co) (h6 : h + 1 ≤ 6) (htc : tc = nI (kw_off z (h + 1))) (hf : ∀ s, s < h + 1 → sz s = nI (z s) ∧ kw_fm tk ta fz kd ag Z (kw_off z s) s (z s)) :
    ∃ r, kw_sub r wt ∧ (∀ post : Int32 → SX → Prop, (∀ hs', post r (wt, aw, tc, fc, fs, ce, tk, ta, fz, hs', ap, na)) → wpX_topSet post (wt, aw, tc, fc, fs, ce, tk, ta, fz, hs, ap, na)) ∧ (∀ post : Int32 → SY → Prop, (∀ fi' tr' ia' ho' ro', post r (wt, ac, ht, fa, co, sz, kd, ag, fi', tr', ia', ho', ro', di)) → wpY_whereHolds post (wt, ac, ht, fa, co, sz, kd, ag, fi, tr, ia, ho, ro, di) (nI (h + 1) - 1)) := by
  obtain ⟨h1, h24, h144, hz, hoh⟩ := kw_top h6 hf
  obtain ⟨es, hfm⟩ := hf h (by omega)
  have hfm2 := hfm
  obtain ⟨_, hc, hw⟩ := hfm
  refine ⟨kw_HX wt fs ce tk ta hs Z (kw_off z h) (z h) (z h) (kw_off z h + (z h - 1)), ?_, fun post hp => kx_topSet hfm2 htc h144 (hp _), fun post hp => ?_⟩
  · rw [kw_H_eq (ho := ho) hfm2 hS hF hC (z h) (Nat.le_refl _) (z h - 1) (by omega)]
    exact (kw_HY_sub hS (z h) (z h - 1) (by omega)).2
  · rw [nI_pred]
    refine ky_where (K := fun i => (tk (kw_off z h + i)).toNatClampNeg) (Z := fun i => Z (kw_off z h + i)) (n := z h) hS hw h24 (by omega) es (fun i hi => ?_) (fun i hi e0 => ?_) (fun fi' tr' ia' ro' => ?_)
    · obtain ⟨ek, _, _, κ, hκ, e, _⟩ := hc i hi
      have eκ : (tk (kw_off z h + i)).toNatClampNeg = κ := by rw [e]; exact nI_clamp (by omega)
      rw [ek, eκ]
      exact ⟨e, hκ⟩
    · obtain ⟨_, ea, _, κ, hκ, e, ha0, _⟩ := hc i hi
      have eκ : (tk (kw_off z h + i)).toNatClampNeg = κ := by rw [e]; exact nI_clamp (by omega)
      rw [eκ] at e0
      rw [ea]
      exact ha0 e0
    · have := hp fi' tr' ia' (kw_HY wt fa co ag ho (fun i => (tk (kw_off z h + i)).toNatClampNeg) (fun i => Z (kw_off z h + i)) h (z h) (z h)) ro'
      rw [kw_H_eq (ho := ho) hfm2 hS hF hC (z h) (Nat.le_refl _) (z h - 1) (by omega)] at this
      exact this
theorem kw_FA_sub {r : Int32} (h : kw_sub r wt) (hF : kw_FA wt fs fa) : kw_FA r fs fa := fun w hw hb => hF w hw (h w hb)
theorem kw_CE_sub {r : Int32} (h : kw_sub r wt) (hC : kw_CE wt ce co) : kw_CE r ce co := fun a ha w v hw hv bw bv => hC a ha w v hw hv (h w bw) (h v bv)
end
theorem i_vc_where {k : Nat} {u : SX} {v : SY} (I : i_Rel k u v) (hk : k + 4 ≤ 2048) : wpX_where (fun r u' => wpY_where (fun r' v' => r' = r ∧ i_Rel (k + 4) u' v') v) u := by
  obtain ⟨wt, aw, tc, fc, fs, ce, tk, ta, fz, hs, ap, na⟩ := u
  obtain ⟨th, ac, ht, fa, co, sz, kd, ag, fi, tr, ia, ho, ro, di⟩ := v
  obtain ⟨rfl, hS, hA, hF, hC, h, z, Z, h6, rfl, rfl, htc, hf⟩ := I
  unfold wpX_where wpY_where
  dsimp only
  cases h with
  | zero => exact br_t rfl (br_t rfl ⟨rfl, rfl, hS, hA, hF, hC, 0, z, Z, h6, rfl, rfl, htc, hf⟩)
  | succ h =>
    have hne : ¬ nI (h + 1) = 0 := nI_ne0 (by omega) (by omega)
    obtain ⟨r, hr, hX, hY⟩ := kw_both (aw := aw) (fc := nI (h + 1)) (hs := hs) (ap := ap) (na := na) (ac := ac) (ht := nI (h + 1)) (fi := fi) (tr := tr) (ia := ia) (ho := ho) (ro := ro) (di := di) hS hF hC h6 htc hf
    refine br_f hne (hX _ fun hs' => ?_)
    dsimp only
    refine br_f hne (hY _ fun fi' tr' ia' ho' ro' => ?_)
    dsimp only
    exact ⟨rfl, rfl, hS, hA, hF, hC, h + 1, z, Z, h6, rfl, rfl, htc, hf⟩
theorem i_vc_holds {k : Nat} {u : SX} {v : SY} (I : i_Rel k u v) (hk : k + 4 ≤ 2048) (v1 : Int32) : wpX_holds (fun r u' => wpY_holds (fun r' v' => r' = r ∧ i_Rel (k + 4) u' v') v v1) u v1 := by
  obtain ⟨wt, aw, tc, fc, fs, ce, tk, ta, fz, hs, ap, na⟩ := u
  obtain ⟨th, ac, ht, fa, co, sz, kd, ag, fi, tr, ia, ho, ro, di⟩ := v
  obtain ⟨rfl, hS, hA, hF, hC, h, z, Z, h6, rfl, rfl, htc, hf⟩ := I
  unfold wpX_holds wpY_holds
  dsimp only
  cases h with
  | zero => exact br_t rfl (br_t rfl ⟨rfl, rfl, hS, hA, hF, hC, 0, z, Z, h6, rfl, rfl, htc, hf⟩)
  | succ h =>
    have hne : ¬ nI (h + 1) = 0 := nI_ne0 (by omega) (by omega)
    refine br_f hne ?_
    rcases kw_cs wt v1 with hb | ⟨w, hw, rfl, hb⟩
    · exact kx_thereN hb (br_t rfl (br_f hne (ky_thereN hb (br_t rfl ⟨rfl, rfl, hS, hA, hF, hC, h + 1, z, Z, h6, rfl, rfl, htc, hf⟩))))
    · obtain ⟨r, hr, hX, hY⟩ := kw_both (aw := aw) (fc := nI (h + 1)) (hs := hs) (ap := ap) (na := na) (ac := ac) (ht := nI (h + 1)) (fi := fi) (tr := tr) (ia := ia) (ho := ho) (ro := ro) (di := di) hS hF hC h6 htc hf
      refine kx_there hw (kw_br _ (fun e => absurd (e.symm.trans hb) (by decide)) fun _ => hX _ fun hs' => ?_)
      dsimp only
      refine kx_isIn (by omega) (kw_br _ (fun e => br_f hne (ky_there hw (kw_br _ (fun e => absurd (e.symm.trans hb) (by decide)) fun _ => hY _ fun fi' tr' ia' ho' ro' => ?_))) (fun e => br_f hne (ky_there hw (kw_br _ (fun e => absurd (e.symm.trans hb) (by decide)) fun _ => hY _ fun fi' tr' ia' ho' ro' => ?_))))
      · dsimp only
        rw [kw_bit r (by omega), e]
        exact ⟨rfl, rfl, hS, hA, hF, hC, h + 1, z, Z, h6, rfl, rfl, htc, hf⟩
      · dsimp only
        rw [kw_bit r (by omega), e]
        exact ⟨rfl, rfl, hS, hA, hF, hC, h + 1, z, Z, h6, rfl, rfl, htc, hf⟩
theorem i_vc_say {k : Nat} {u : SX} {v : SY} (I : i_Rel k u v) (hk : k + 4 ≤ 2048) : wpX_say (fun r u' => wpY_say (fun r' v' => r' = r ∧ i_Rel (k + 4) u' v') v) u := by
  obtain ⟨wt, aw, tc, fc, fs, ce, tk, ta, fz, hs, ap, na⟩ := u
  obtain ⟨th, ac, ht, fa, co, sz, kd, ag, fi, tr, ia, ho, ro, di⟩ := v
  obtain ⟨rfl, hS, hA, hF, hC, h, z, Z, h6, rfl, rfl, htc, hf⟩ := I
  unfold wpX_say wpY_say
  dsimp only
  cases h with
  | zero => exact br_t rfl (br_t rfl ⟨rfl, rfl, hS, hA, hF, hC, 0, z, Z, h6, rfl, rfl, htc, hf⟩)
  | succ h =>
    have hne : ¬ nI (h + 1) = 0 := nI_ne0 (by omega) (by omega)
    obtain ⟨r, hr, hX, hY⟩ := kw_both (aw := aw) (fc := nI (h + 1)) (hs := hs) (ap := ap) (na := na) (ac := ac) (ht := nI (h + 1)) (fi := fi) (tr := tr) (ia := ia) (ho := ho) (ro := ro) (di := di) hS hF hC h6 htc hf
    have hA2 := hA
    obtain ⟨n, hn, rfl, rfl, hb⟩ := hA
    refine br_f hne (hX _ fun hs' => ?_)
    dsimp only
    refine kx_isIn (by omega) (kw_br _ (fun e => br_f hne (hY _ fun fi' tr' ia' ho' ro' => ?_)) (fun e => kx_cnt (br_f hne (hY _ fun fi' tr' ia' ho' ro' => ?_))))
    · dsimp only
      exact ky_in (by omega) (kw_br _ (fun _ => ⟨rfl, rfl, hS, hA2, hF, hC, h + 1, z, Z, h6, rfl, rfl, htc, hf⟩) (fun e2 => absurd (e.symm.trans e2) (by decide)))
    · dsimp only
      exact ky_in (by omega) (kw_br _ (fun e2 => absurd (e.symm.trans e2) (by decide)) (fun _ => ky_cnt ⟨rfl, rfl, kw_sub_S hr hS, ⟨n, hn, rfl, rfl, e⟩, kw_FA_sub hr hF, kw_CE_sub hr hC, h + 1, z, Z, h6, rfl, rfl, htc, hf⟩))
section
variable {th ac ht : Int32} {fa co sz kd ag fi tr ia ho ro di : Nat → Int32}
def kw_tq (th r : Int32) (fa : Nat → Int32) (p w : Nat) : Bool := bt th w && (bt r w != bt (fa w) p)
def kw_tf (th r : Int32) (fa : Nat → Int32) (p w : Nat) : Int32 := if kw_tq th r fa p w then fa w ^^^ ((1 : Int32) <<< (nI p &&& 31)) else fa w
theorem ky_turn {post : Int32 → SY → Prop} {r : Int32} {p : Nat} (hp : p < 4) (h : post (nI (kw_c (kw_tq th r fa p) 16)) (th, ac, ht, kw_mx (kw_tf th r fa p) fa 16, co, sz, kd, ag, fi, tr, ia, ho, ro, di)) : ∃ n, wY_turn_37 post (nI p) r th ac ht n 0 0 fa co sz kd ag fi tr ia ho ro di := by
  refine kw_lp (fun n i (q : Int32 × (Nat → Int32)) => wY_turn_37 post (nI p) r th ac ht n q.1 (nI i) q.2 co sz kd ag fi tr ia ho ro di) (fun i => (nI (kw_c (kw_tq th r fa p) i), kw_mx (kw_tf th r fa p) fa i)) 16 0 (by omega) (fun n => ?_) (fun n w hw g => ?_)
  · exact br_t (nI_le (a := 16) (by omega) (by decide)) h
  · dsimp only at g
    rw [kw_c] at g
    have hno : kw_tq th r fa p w = false → wY_turn_37 post (nI p) r th ac ht n (nI (kw_c (kw_tq th r fa p) w)) (nI (w + 1)) (kw_mx (kw_tf th r fa p) fa w) co sz kd ag fi tr ia ho ro di := by
      intro e
      rw [e, kw_mx_same (by rw [kw_tf, e]; rfl)] at g
      exact g
    refine br_f (nI_ge (b := 16) hw (by decide)) (ky_there hw (kw_br _ (fun e => nm_r (nI_1 w) (hno (by rw [kw_tq, e]; rfl))) (fun e => ky_in (by omega) ⟨vp_in_nI hw (by decide), ?_⟩)))
    rw [nI_clamp (by omega)]
    dsimp only
    rw [kw_mx_hi (Nat.le_refl w)]
    refine ky_in (by omega) (kw_br2 _ _ (fun e2 => nm_r (nI_1 w) (hno (by rw [kw_tq, e2]; simp))) (fun e2 => ⟨vp_in_nI hw (by decide), vp_in_nI hw (by decide), ?_⟩))
    have eq1 : kw_tq th r fa p w = true := by rw [kw_tq, e]; simpa using e2
    rw [eq1] at g
    refine nm_r (e' := kw_mx (kw_tf th r fa p) fa (w + 1)) ?_ (nm_r (nI_1 _) (nm_r (nI_1 w) g))
    rw [← kw_mx_upd, kw_tf, eq1]
    rfl
end
theorem i_vc_turn {k : Nat} {u : SX} {v : SY} (I : i_Rel k u v) (hk : k + 4 ≤ 2048) (v1 : Int32) : wpX_turn (fun r u' => wpY_turn (fun r' v' => r' = r ∧ i_Rel (k + 4) u' v') v v1) u v1 := by
  obtain ⟨wt, aw, tc, fc, fs, ce, tk, ta, fz, hs, ap, na⟩ := u
  obtain ⟨th, ac, ht, fa, co, sz, kd, ag, fi, tr, ia, ho, ro, di⟩ := v
  obtain ⟨rfl, hS, hA, hF, hC, h, z, Z, h6, rfl, rfl, htc, hf⟩ := I
  unfold wpX_turn wpY_turn
  dsimp only
  rcases kw_cs3 v1 4 with hn | ⟨p, hp, rfl⟩
  · exact kx_faN hn (br_t rfl (ky_faN hn ⟨rfl, rfl, hS, hA, hF, hC, h, z, Z, h6, rfl, rfl, htc, hf⟩))
  · refine kx_fa hp (br_f (by decide) ?_)
    cases h with
    | zero => exact br_t rfl (ky_fa hp (br_t rfl ⟨rfl, rfl, hS, hA, hF, hC, 0, z, Z, h6, rfl, rfl, htc, hf⟩))
    | succ h =>
      have hne : ¬ nI (h + 1) = 0 := nI_ne0 (by omega) (by omega)
      obtain ⟨r, hr, hX, hY⟩ := kw_both (aw := aw) (fc := nI (h + 1)) (hs := hs) (ap := ap) (na := na) (ac := ac) (ht := nI (h + 1)) (fi := fi) (tr := tr) (ia := ia) (ho := ho) (ro := ro) (di := di) hS hF hC h6 htc hf
      refine br_f hne (hX _ fun hs' => ?_)
      dsimp only
      rw [nI_clamp (by omega)]
      refine ⟨vp_in_nI hp (by decide), nm_e ⟨vp_in_nI hp (by decide), nm_e (kx_cnt (ky_fa hp (br_f hne (hY _ fun fi' tr' ia' ho' ro' => ?_))))⟩⟩
      dsimp only
      refine ky_turn hp ⟨?_, rfl, hS, hA, ?_, hC, h + 1, z, Z, h6, rfl, rfl, htc, hf⟩
      · refine congrArg nI (kw_c_cg fun w hw => ?_)
        rw [kw_tq, b_and, b_xor, Bool.and_comm]
        cases e : bt wt w
        · rw [Bool.and_false, Bool.and_false]
        · rw [(hF w hw e).1 p hp]
          cases bt r w <;> cases bt (fa w) p <;> rfl
      · intro w hw hb
        rw [kw_mx_lo hw]
        obtain ⟨f1, f2⟩ := hF w hw hb
        refine ⟨fun q hq => ?_, fun i hi => ?_⟩
        · by_cases e : q = p
          · subst e
            rw [pk_us, kw_tf]
            cases eq1 : kw_tq wt r fa q w
            · rw [if_neg (by decide)]
              rw [kw_tq, hb] at eq1
              simpa using eq1
            · rw [if_pos rfl, b_xor, kw_one (by omega) (by omega), decide_eq_true rfl]
              rw [kw_tq, hb] at eq1
              revert eq1
              cases bt r w <;> cases bt (fa w) q <;> decide
          · rw [pk_un e, f1 q hq, kw_tf]
            cases eq1 : kw_tq wt r fa p w
            · rfl
            · rw [if_pos rfl, b_xor, kw_one (by omega) (by omega), decide_eq_false e, Bool.xor_false]
        · rw [kw_tf]
          cases eq1 : kw_tq wt r fa p w
          · exact f2 i hi
          · by_cases z32 : i < 32
            · rw [if_pos rfl, b_xor, f2 i hi, kw_one (by omega) z32, decide_eq_false (by omega)]; rfl
            · exact b_big (by omega)
