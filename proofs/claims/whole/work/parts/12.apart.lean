theorem i_vc_apart {k : Nat} {u : SX} {v : SY} (I : i_Rel k u v) (hk : k + 4 ≤ 2048) (v1 : Int32) (v2 : Int32) : wpX_apart (fun r u' => wpY_apart (fun r' v' => r' = r ∧ i_Rel (k + 4) u' v') v v1 v2) u v1 v2 := by
  have J := I
  obtain ⟨wt, aw, tc, fc, fs, ce, tk, ta, fz, hs, ap, na⟩ := u
  obtain ⟨th, ac, ht, fa, co, sz, kd, ag, fi, tr, ia, ho, ro, di⟩ := v
  obtain ⟨rfl, hS, hA, hF, hC, hT⟩ := I
  rcases kw_cs wt v1 with hb | ⟨w, hw, rfl, hb⟩
  · unfold wpX_apart wpY_apart
    dsimp only
    exact kx_thereN hb (br_t rfl (ky_thereN hb (br_t rfl ⟨rfl, J⟩)))
  · rcases kw_cs wt v2 with hb2 | ⟨v, hv, rfl, hb2⟩
    · unfold wpX_apart wpY_apart
      dsimp only
      exact kx_there hw (kw_br _ (fun e => absurd (e.symm.trans hb) (by decide)) fun _ => kx_thereN hb2 (br_t rfl (ky_there hw (kw_br _ (fun e => absurd (e.symm.trans hb) (by decide)) fun _ => ky_thereN hb2 (br_t rfl ⟨rfl, J⟩)))))
    · have hne : ∃ w, w < 16 ∧ bt wt w = true := ⟨w, hw, hb⟩
      have hY : ∀ r ap' na', (∀ d, kw_D wt fa co di 17 (16 * w + v) = d → d = r) → wpY_apart (fun r' v' => r' = r ∧ i_Rel (k + 4) (wt, aw, tc, fc, fs, ce, tk, ta, fz, hs, ap', na') v') (wt, ac, ht, fa, co, sz, kd, ag, fi, tr, ia, ho, ro, di) (nI w) (nI v) := by
        intro r ap' na' hd
        unfold wpY_apart
        dsimp only
        refine ky_there hw (kw_br _ (fun e => absurd (e.symm.trans hb) (by decide)) fun _ => ky_there hv (kw_br _ (fun e => absurd (e.symm.trans hb2) (by decide)) fun _ => ky_dist ?_))
        dsimp only
        rw [kw_ixY, nI_clamp (by omega)]
        exact ⟨vp_in_nI (by omega) (by decide), hd _ rfl, rfl, hS, hA, hF, hC, hT⟩
      obtain ⟨h1, h2⟩ := kw_E (th := wt) (fa := fa) (co := co) (di := di) 17 (by omega) w v hw hv hb hb2
      refine kx_apart hS hF hC hw hv hb hb2 (fun i hi ht hf ap' na' => hY _ _ _ fun d hd => ?_) (fun hf ap' na' => hY _ _ _ fun d hd => ?_)
      · subst hd
        have hq := h1 i (by omega)
        rw [ht] at hq
        rcases h2 with h2 | ⟨m, hm, h2⟩
        · rw [kw_q_n2 h2] at hq
          exact absurd hq (by decide)
        · rw [kw_q_nI h2 (by omega) (by omega)] at hq
          have hmi : m ≤ i := of_decide_eq_true hq
          rw [h2]
          by_cases e : m = i
          · rw [e]
          · have q1 := h1 m hm
            rw [kw_q_nI h2 (by omega) (by omega), hf m (by omega), decide_eq_true (Nat.le_refl m)] at q1
            exact absurd q1 (by decide)
      · subst hd
        rcases h2 with h2 | ⟨m, hm, h2⟩
        · exact h2
        · have q1 := h1 m hm
          rw [kw_q_nI h2 (by omega) (by omega), decide_eq_true (Nat.le_refl m)] at q1
          by_cases e : m < 16
          · rw [hf m e] at q1
            exact absurd q1 (by decide)
          · rw [kw_ap15 hne (by omega) hw hv hb hb2, hf 15 (by omega)] at q1
            exact absurd q1 (by decide)
theorem i_vc_kinds {k : Nat} {u : SX} {v : SY} (I : i_Rel k u v) (hk : k + 4 ≤ 2048) : wpX_kinds (fun r u' => wpY_kinds (fun r' v' => r' = r ∧ i_Rel (k + 4) u' v') v) u := by
  obtain ⟨wt, aw, tc, fc, fs, ce, tk, ta, fz, hs, ap, na⟩ := u
  obtain ⟨th, ac, ht, fa, co, sz, kd, ag, fi, tr, ia, ho, ro, di⟩ := v
  obtain ⟨rfl, hS, hA, hF, hC, hT⟩ := I
  refine kx_kinds hS hF hC fun ap' na' => ky_kinds fun di' => ⟨?_, rfl, hS, hA, hF, hC, hT⟩
  obtain ⟨n, hn, _, _, hb⟩ := hA
  have hne : ∃ w, w < 16 ∧ bt wt w = true := ⟨n, hn, hb⟩
  refine congrArg nI (kw_c_cg fun w hw => ?_)
  unfold kw_lw
  cases bw : bt wt w
  · rw [Bool.false_and, Bool.false_and]
  · rw [Bool.true_and, Bool.true_and]
    apply kw_al_cg
    intro v hv
    cases bv : bt wt v
    · rw [Bool.false_and, Bool.false_and]
    · rw [kw_ap15 hne (n := 17) (by omega) hw (by omega) bw bv]
