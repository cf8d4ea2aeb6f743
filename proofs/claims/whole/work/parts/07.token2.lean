section
variable {wt aw tc fc : Int32} {fs ce tk ta fz hs ap na : Nat → Int32}
variable {th ac ht : Int32} {fa co sz kd ag fi tr ia ho ro di : Nat → Int32}
theorem kx_tok42 {post : Int32 → SX → Prop} {T q : Nat} {k a x3 : Int32} (f' : Int32) (ht : tc = nI T) (hT : q + 1 ≤ 24 → T < 144) (hq : q < 1000) (hf : fc + (1 - x3) = f') (H : ∀ post' : Int32 → Prop, post' (nI q) → wpX_sizeOfTopmost post' (wt, aw, tc, fc, fs, ce, tk, ta, fz, hs, ap, na) x3)
    (h : q + 1 ≤ 24 → post f' (wt, aw, nI (T + 1), f', fs, ce, upd tk T k, upd ta T a, upd fz T (nI (q + 1)), hs, ap, na)) (h4 : ¬ q + 1 ≤ 24 → post (-4) (wt, aw, tc, fc, fs, ce, tk, ta, fz, hs, ap, na)) : wX_token_42 post k a x3 wt aw tc fc fs ce tk ta fz hs ap na := by
  unfold wX_token_42
  refine H _ (nm_r (e' := nI (q + 1)) (by rw [Int32.add_comm, nI_1]) (pk_le (q + 1) 24 (fun z => ?_) (fun z => h4 (by omega))))
  subst ht
  have hT := hT z
  rw [nI_clamp (by omega)]
  exact ⟨vp_in_nI hT (by decide), nm_e ⟨vp_in_nI hT (by decide), nm_e ⟨vp_in_nI hT (by decide), nm_e (nm_r (nI_1 T) (nm_r hf (h z)))⟩⟩⟩
theorem kw_t_012 (κ : Nat) : kw_t κ = 0 ∨ kw_t κ = 1 ∨ kw_t κ = 2 := by
  unfold kw_t
  by_cases h : κ = 0
  · rw [if_pos h]; omega
  · rw [if_neg h]
    by_cases h2 : κ = 2 ∨ κ = 3 ∨ κ = 4 ∨ κ = 9
    · rw [if_pos h2]; omega
    · rw [if_neg h2]; omega
/-- the reference's sum of sizes, by how many are taken -/
theorem ky_sum0 {post : Int32 → SY → Prop} {h : Nat} {k a : Int32} (hh : ht = nI h) (h6 : h < 6) (H : post (nI (h + 1)) (th, ac, nI (h + 1), fa, co, upd (upd sz h 0) h (nI 1), upd kd (24 * h + 0) k, upd ag (24 * h + 0) a, fi, tr, ia, ho, ro, di)) : ∀ x5, x5 = ht - nI 0 → ∃ n, wY_token_55 post k a (nI 0) th ac ht fa co sz kd ag fi tr ia ho ro di n 1 x5 := by
  have e0 : ht - nI 0 = nI h := by rw [hh, pk_sub (by omega)]; rfl
  intro x5 e5
  rw [e0] at e5
  subst e5
  refine ⟨1, br_t (by rw [hh]; exact nI_le (by omega) (by omega)) (br_t (by decide) (nm_r e0 (br_t rfl ⟨vp_in_nI h6 (by decide), nm_r (e' := upd sz h 0) (by rw [nI_clamp (by omega)]) ?_⟩)))⟩
  exact ⟨1, br_f (by decide) (ky_tok178 (m := 0) h6 pk_us (by omega) H)⟩
theorem ky_sum1 {post : Int32 → SY → Prop} {h m : Nat} {k a : Int32} (hh : ht = nI (h + 1)) (h6 : h < 6) (hm : sz h = nI m) (h100 : m < 100) (H : m + 1 ≤ 24 → post (nI (h + 1)) (th, ac, nI (h + 1), fa, co, upd sz h (nI (m + 1)), upd kd (24 * h + m) k, upd ag (24 * h + m) a, fi, tr, ia, ho, ro, di)) (H4 : ¬ m + 1 ≤ 24 → post (-4) (th, ac, ht, fa, co, sz, kd, ag, fi, tr, ia, ho, ro, di)) : ∀ x5, x5 = ht - nI 1 → ∃ n, wY_token_55 post k a (nI 1) th ac ht fa co sz kd ag fi tr ia ho ro di n 1 x5 := by
  have e0 : ht - nI 1 = nI h := by rw [hh, pk_sub (by omega)]; rfl
  intro x5 e5
  rw [e0] at e5
  subst e5
  refine ⟨2, br_f (by rw [hh]; exact nI_ge (by omega) (by omega)) ⟨vp_in_nI h6 (by decide), nm_r (e' := nI (m + 1)) (by rw [nI_clamp (by omega), hm, Int32.add_comm, nI_1]) (nm_r (nI_1 h) (br_t (by rw [hh]; exact nI_le (by omega) (by omega)) (pk_le (m + 1) 24 (fun z => nm_r e0 (br_f (by decide) ?_)) (fun z => H4 (by omega)))))⟩⟩
  exact ⟨1, br_f (by decide) (ky_tok178 h6 hm (by omega) (H z))⟩
theorem ky_sum2 {post : Int32 → SY → Prop} {h m l : Nat} {k a : Int32} (hh : ht = nI (h + 2)) (h6 : h + 1 < 6) (hm : sz h = nI m) (hl : sz (h + 1) = nI l) (h100 : m < 100) (h101 : l < 100) (H : m + l + 1 ≤ 24 → post (nI (h + 1)) (th, ac, nI (h + 1), fa, co, upd (upd sz h (nI (m + l))) h (nI (m + l + 1)), upd (kw_cp kd (24 * h + m) m h l) (24 * h + (m + l)) k, upd (kw_cp ag (24 * h + m) m h l) (24 * h + (m + l)) a, fi, tr, ia, ho, ro, di)) (H4 : ¬ m + l + 1 ≤ 24 → post (-4) (th, ac, ht, fa, co, sz, kd, ag, fi, tr, ia, ho, ro, di)) : ∀ x5, x5 = ht - nI 2 → ∃ n, wY_token_55 post k a (nI 2) th ac ht fa co sz kd ag fi tr ia ho ro di n 1 x5 := by
  have e0 : ht - nI 2 = nI h := by rw [hh, pk_sub (by omega)]; rfl
  intro x5 e5
  rw [e0] at e5
  subst e5
  refine ⟨3, br_f (by rw [hh]; exact nI_ge (by omega) (by omega)) ⟨vp_in_nI (by omega) (by decide), nm_r (e' := nI (m + 1)) (by rw [nI_clamp (by omega), hm, Int32.add_comm, nI_1]) (nm_r (nI_1 h) (br_f (by rw [hh]; exact nI_ge (by omega) (by omega)) ⟨vp_in_nI h6 (by decide), nm_r (e' := nI (m + l + 1)) (by rw [nI_clamp (by omega), hl, nI_add]; exact congrArg nI (by omega)) (nm_r (nI_1 (h + 1)) (br_t (by rw [hh]; exact nI_le (by omega) (by omega)) (pk_le (m + l + 1) 24 (fun z => nm_r e0 (br_f (by decide) ?_)) (fun z => H4 (by omega)))))⟩))⟩⟩
  exact ky_tok115 h6 hm hl z (H z)
end
theorem i_vc_token {k : Nat} {u : SX} {v : SY} (I : i_Rel k u v) (hk : k + 4 ≤ 2048) (v1 : Int32) (v2 : Int32) : wpX_token (fun r u' => wpY_token (fun r' v' => r' = r ∧ i_Rel (k + 4) u' v') v v1 v2) u v1 v2 := by
  have J := I
  obtain ⟨wt, aw, tc, fc, fs, ce, tk, ta, fz, hs, ap, na⟩ := u
  obtain ⟨th, ac, ht, fa, co, sz, kd, ag, fi, tr, ia, ho, ro, di⟩ := v
  obtain ⟨rfl, hS, hA, hF, hC, h, z, Z, h6, rfl, rfl, rfl, hf⟩ := I
  unfold wpX_token wpY_token
  dsimp only
  rcases kw_tokP (th := wt) (ac := ac) (ht := nI h) (fa := fa) (co := co) (sz := sz) (kd := kd) (ag := ag) (fi := fi) (tr := tr) (ia := ia) (ho := ho) (ro := ro) (di := di) v1 v2 with ⟨hok, hX, hY⟩ | ⟨hX, hY⟩
  · have hok2 := hok
    obtain ⟨κ, hκ, rfl, _⟩ := hok
    have hcl : (nI κ).toNatClampNeg = κ := nI_clamp (by omega)
    refine hX _ (br_f (by decide) (kx_taken κ hκ ?_))
    rcases kw_t_012 κ with ht | ht | ht
    · rw [ht]
      refine br_t (nI_le (by omega) (by omega)) (br_t rfl (pk_eq h 6 (fun e => ?_) (fun e => ?_)))
      · exact hY _ (br_f (by decide) (ky_takes κ hκ (by rw [ht]; exact br_t (nI_le (by omega) (by omega)) (br_t rfl (br_t (by rw [e]; rfl) ⟨rfl, J⟩)))))
      · have hle := kw_off_le (z := z) (h := h) (fun s hs => (hf s hs).2.1) h (by omega)
        refine kx_tok42 (T := kw_off z h) (q := 0) (nI (h + 1)) rfl (by omega) (by omega) (nI_1 h) (fun post' hp => kx_szt0 hp) (fun _ => ?_) (fun z => absurd (by omega) z)
        refine hY _ (br_f (by decide) (ky_takes κ hκ ?_))
        rw [ht]
        refine br_t (nI_le (by omega) (by omega)) (br_t rfl (br_f (fun z => e ((nI_eq (b := 6) (by omega) (by omega)).mp z)) (ky_sum0 rfl (by omega) ⟨rfl, rfl, hS, hA, hF, hC, ?_⟩)))
        refine kw_ST_new (n := 0) (by omega) (by omega) hf (fun i hi => absurd hi (by omega)) pk_us pk_us hok2 (fun j hj => ⟨pk_un (by omega), pk_un (by omega)⟩) (fun s hs => ?_) pk_us ?_
        · rw [pk_un (by omega), pk_un (by omega)]
        · refine kw_wf_0 ?_ rfl
          show kw_t (nI κ).toNatClampNeg = 0
          rw [hcl, ht]
    · rw [ht]
      cases h with
      | zero => exact br_f (by decide) (hY _ (br_f (by decide) (ky_takes κ hκ (by rw [ht]; exact br_f (by decide) ⟨rfl, J⟩))))
      | succ h =>
        have hle := kw_off_le (z := z) (h := h + 1) (fun s hs => (hf s hs).2.1) (h + 1) (by omega)
        obtain ⟨h1, h24, h144, hz, hoh⟩ := kw_top h6 hf
        obtain ⟨es, _, hc, hw⟩ := hf h (by omega)
        refine br_t (nI_le (a := 1) (by omega) (by omega)) (br_f (by decide) (kx_tok42 (T := kw_off z h + z h) (q := z h) (nI (h + 1)) rfl (by omega) (by omega) (by rw [show (1 : Int32) - nI 1 = 0 from by decide, Int32.add_zero]) (fun post' hp => kx_szt1 (t := kw_off z h + z h) rfl (by omega) (by omega) hz hp) (fun z24 => ?_) (fun z24 => ?_)))
        · refine hY _ (br_f (by decide) (ky_takes κ hκ ?_))
          rw [ht]
          refine br_t (nI_le (a := 1) (by omega) (by omega)) (br_f (by decide) (ky_sum1 rfl (by omega) es (by omega) (fun _ => ⟨rfl, rfl, hS, hA, hF, hC, ?_⟩) (fun q => absurd z24 q)))
          refine kw_ST_new (n := z h) (by omega) z24 (fun s hs => hf s (by omega)) (fun i hi => ?_) pk_us pk_us hok2 (fun j hj => ⟨pk_un (by omega), pk_un (by omega)⟩) (fun s hs => pk_un (by omega)) pk_us ?_
          · rw [pk_un (by omega), pk_un (by omega)]
            exact hc i hi
          · refine kw_wf_1 (kw_wf_cg (fun i hi => (if_pos hi).symm) (fun i hi => (if_pos hi).symm) hw) ?_ (if_neg (by omega))
            rw [if_neg (by omega), hcl, ht]
        · refine hY _ (br_f (by decide) (ky_takes κ hκ ?_))
          rw [ht]
          exact br_t (nI_le (a := 1) (by omega) (by omega)) (br_f (by decide) (ky_sum1 rfl (by omega) es (by omega) (fun q => absurd q z24) (fun _ => ⟨rfl, J⟩)))
    · rw [ht]
      rcases (by omega : h = 0 ∨ h = 1 ∨ 2 ≤ h) with rfl | rfl | h2
      · exact br_f (by decide) (hY _ (br_f (by decide) (ky_takes κ hκ (by rw [ht]; exact br_f (by decide) ⟨rfl, J⟩))))
      · exact br_f (by decide) (hY _ (br_f (by decide) (ky_takes κ hκ (by rw [ht]; exact br_f (by decide) ⟨rfl, J⟩))))
      · obtain ⟨h, rfl⟩ : ∃ g, h = g + 2 := ⟨h - 2, by omega⟩
        have hle := kw_off_le (z := z) (h := h + 2) (fun s hs => (hf s hs).2.1) (h + 2) (by omega)
        obtain ⟨h1, h24, h144, hz, hoh⟩ := kw_top (h := h + 1) h6 hf
        obtain ⟨g1, g24, g144, gz, goh⟩ := kw_top (h := h) (z := z) (Z := Z) (by omega) (fun s hs => hf s (by omega))
        obtain ⟨es, _, hc, hw⟩ := hf h (by omega)
        obtain ⟨es1, _, hc1, hw1⟩ := hf (h + 1) (by omega)
        have eo : kw_off z (h + 1) = kw_off z h + z h := rfl
        rw [eo] at h144 hz hoh hc1 hw1
        have goh1 : kw_off z (h + 1) ≤ 24 * h + 24 := by rw [eo]; omega
        have eT : kw_off z (h + 2) = kw_off z h + (z h + z (h + 1)) := by
          show kw_off z h + z h + z (h + 1) = _
          omega
        refine br_t (nI_le (a := 2) (by omega) (by omega)) (br_f (by decide) (kx_tok42 (T := kw_off z h + (z h + z (h + 1))) (q := z h + z (h + 1)) (nI (h + 1)) (by rw [eT]) (by omega) (by omega) ?_ (fun post' hp => kx_szt2 (t := kw_off z h + (z h + z (h + 1))) (z1 := z (h + 1)) (z2 := z h) (by rw [eT]) (by omega) (by omega) (by omega) (by rw [← hz]; exact congrArg fz (by omega)) (by rw [← gz]; exact congrArg fz (by omega)) (by rw [Nat.add_comm]; exact hp)) (fun z24 => ?_) (fun z24 => ?_)))
        · rw [show (1 : Int32) - nI 2 = -1 from by decide]
          exact pk_m1 (h + 1)
        · refine hY _ (br_f (by decide) (ky_takes κ hκ ?_))
          rw [ht]
          refine br_t (nI_le (a := 2) (by omega) (by omega)) (br_f (by decide) (ky_sum2 rfl (by omega) es es1 (by omega) (by omega) (fun _ => ⟨rfl, rfl, hS, hA, hF, hC, ?_⟩) (fun q => absurd z24 q)))
          refine kw_ST_new (n := z h + z (h + 1)) (by omega) z24 (fun s hs => hf s (by omega)) (fun i hi => ?_) pk_us pk_us hok2 (fun j hj => ⟨?_, ?_⟩) (fun s hs => ?_) pk_us ?_
          · rw [pk_un (by omega), pk_un (by omega)]
            by_cases e : i < z h
            · have e1 : kw_cp kd (24 * h + z h) (z h) h (z (h + 1)) (24 * h + i) = kd (24 * h + i) := if_neg (by omega)
              have e2 : kw_cp ag (24 * h + z h) (z h) h (z (h + 1)) (24 * h + i) = ag (24 * h + i) := if_neg (by omega)
              rw [e1, e2]
              exact hc i e
            · obtain ⟨j, rfl⟩ : ∃ j, i = z h + j := ⟨i - z h, by omega⟩
              have e1 : kw_cp kd (24 * h + z h) (z h) h (z (h + 1)) (24 * h + (z h + j)) = kd (24 * h + 24 + (24 * h + (z h + j) - (24 * h + z h))) := if_pos (by omega)
              have e2 : kw_cp ag (24 * h + z h) (z h) h (z (h + 1)) (24 * h + (z h + j)) = ag (24 * h + 24 + (24 * h + (z h + j) - (24 * h + z h))) := if_pos (by omega)
              rw [e1, e2, show 24 * h + 24 + (24 * h + (z h + j) - (24 * h + z h)) = 24 * (h + 1) + j from by omega, ← Nat.add_assoc]
              exact hc1 j (by omega)
          · rw [pk_un (by omega)]; exact if_neg (by omega)
          · rw [pk_un (by omega)]; exact if_neg (by omega)
          · rw [pk_un (by omega), pk_un (by omega)]
          · refine kw_wf_2 (n := z h) (m := z (h + 1)) (kw_wf_cg (fun i hi => (if_pos (by omega)).symm) (fun i hi => (if_pos (by omega)).symm) hw) (kw_wf_cg (fun i hi => ?_) (fun i hi => ?_) hw1) ?_ (if_neg (by omega))
            · rw [if_pos (by omega), Nat.add_assoc]
            · rw [if_pos (by omega), Nat.add_assoc]
            · rw [if_neg (by omega), hcl, ht]
        · refine hY _ (br_f (by decide) (ky_takes κ hκ ?_))
          rw [ht]
          exact br_t (nI_le (a := 2) (by omega) (by omega)) (br_f (by decide) (ky_sum2 rfl (by omega) es es1 (by omega) (by omega) (fun q => absurd q z24) (fun _ => ⟨rfl, J⟩)))
  · exact hX _ (br_t rfl (hY _ (br_t rfl ⟨rfl, J⟩)))
