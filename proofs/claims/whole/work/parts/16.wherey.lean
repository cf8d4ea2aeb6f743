section
variable {th ac ht : Int32} {fa co sz kd ag fi tr ia ho ro di : Nat → Int32}
theorem kw_vn (b : Bool) : vp_nar .boolean (kw_b b) = kw_b b := by unfold vp_nar; rw [kw_nar]
theorem ky_83 {post : SY → Prop} {J : Int32 → Int32 → (Nat → Int32) → (Nat → Int32) → (Nat → Int32) → (Nat → Int32) → (Nat → Int32) → (Nat → Int32) → (Nat → Int32) → (Nat → Int32) → (Nat → Int32) → (Nat → Int32) → (Nat → Int32) → Prop} {x1 : Int32} {m i κ : Nat} (hκ : κ ≤ 9) (hte : kw_t κ ≠ 2) (hm : m < 24) (h : J (nI (m + 1)) (nI (i + 1)) fa co sz kd ag fi tr ia ho (upd ro m (nI i)) di) : wY_findParts_83 post J x1 (nI m) (nI i) (nI κ) th ac ht fa co sz kd ag fi tr ia ho ro di := by
  unfold wY_findParts_83
  refine ky_takes κ hκ (br_f (fun z => ?_) ⟨vp_in_nI hm (by decide), nm_r (by rw [nI_clamp (by omega)]) (nm_r (nI_1 m) (nm_r (nI_1 i) h))⟩)
  have := (nI_eq (a := kw_t κ) (b := 2) (by have := kw_t_012 κ; omega) (by omega)).mp z
  exact hte this
theorem ky_83b {post : SY → Prop} {J : Int32 → Int32 → (Nat → Int32) → (Nat → Int32) → (Nat → Int32) → (Nat → Int32) → (Nat → Int32) → (Nat → Int32) → (Nat → Int32) → (Nat → Int32) → (Nat → Int32) → (Nat → Int32) → (Nat → Int32) → Prop} {x1 : Int32} {m i κ : Nat} (hκ : κ ≤ 9) (hte : kw_t κ = 2) (hm : m < 24) (hi : 1 ≤ i) (hi2 : i < 24) (h : J (nI (m + 1)) (nI (i + 1)) fa co sz kd ag fi (upd tr (i - 1) (nI i)) (upd ia (i - 1) (kw_b (decide (κ = 9)))) ho (upd ro m (nI i)) di) : wY_findParts_83 post J x1 (nI m) (nI i) (nI κ) th ac ht fa co sz kd ag fi tr ia ho ro di := by
  unfold wY_findParts_83
  have e1 : nI i - 1 = nI (i - 1) := by rw [show (1 : Int32) = nI 1 from rfl, pk_sub hi]
  refine ky_takes κ hκ ?_
  rw [hte, e1]
  refine br_t rfl ⟨vp_in_nI (by omega) (by decide), nm_r (by rw [nI_clamp (by omega)]) (pk_eq κ 9 (fun e => ?_) (fun e => ?_))⟩
  · rw [decide_eq_true e] at h
    exact ⟨vp_in_nI (by omega) (by decide), nm_r (by rw [nI_clamp (by omega)]; exact congrArg _ (kw_vn true)) ⟨vp_in_nI hm (by decide), nm_r (by rw [nI_clamp (by omega)]) (nm_r (nI_1 m) (nm_r (nI_1 i) h))⟩⟩
  · rw [decide_eq_false e] at h
    exact ⟨vp_in_nI (by omega) (by decide), nm_r (by rw [nI_clamp (by omega)]; exact congrArg _ (kw_vn false)) ⟨vp_in_nI hm (by decide), nm_r (by rw [nI_clamp (by omega)]) (nm_r (nI_1 m) (nm_r (nI_1 i) h))⟩⟩
theorem kw_fi_s {K Z : Nat → Nat} {i : Nat} {fi' : Nat → Int32} (h : kw_fi K Z fi i) (h1 : ∀ j, j < i → fi' j = fi j) (h2 : kw_t (K i) = 1 → fi' i = nI (i - 1)) (h3 : kw_t (K i) = 2 → fi' i = nI (i - 1 - Z (i - 1))) : kw_fi K Z fi' (i + 1) := by
  intro j hj
  by_cases e : j = i
  · subst e; exact ⟨h2, h3⟩
  · rw [h1 j (by omega)]
    exact h j (by omega)
theorem ky_parts {post : SY → Prop} {K Z : Nat → Nat} {n s : Nat} (hw : kw_wf K Z n) (hn : n ≤ 24) (hs : s < 6) (hsz : sz s = nI n) (hK : ∀ i, i < n → kd (24 * s + i) = nI (K i) ∧ K i ≤ 9)
    (h : ∀ fi' tr' ia' ro', kw_pi K Z tr' ia' n → kw_fi K Z fi' n → post (th, ac, ht, fa, co, sz, kd, ag, fi', tr', ia', ho, ro', di)) : wpY_findParts post (th, ac, ht, fa, co, sz, kd, ag, fi, tr, ia, ho, ro, di) (nI s) := by
  unfold wpY_findParts
  dsimp only
  have hrng := kw_wf_rng hw
  refine pk_loop (fun N i (q : Nat × (Nat → Int32) × (Nat → Int32) × (Nat → Int32) × (Nat → Int32)) => wY_findParts_4 post (nI s) th ac ht N (nI q.1) (nI i) fa co sz kd ag q.2.1 q.2.2.1 q.2.2.2.1 ho q.2.2.2.2 di) (fun i q => kw_st Z q.2.2.2.2 q.1 i ∧ kw_pi K Z q.2.2.1 q.2.2.2.1 i ∧ kw_fi K Z q.2.1 i) n 0 (0, fi, tr, ia, ro) (by omega) ⟨rfl, fun k hk => absurd hk (by omega), fun k hk => absurd hk (by omega)⟩ (fun N q I => ?_) (fun N i q hi I g => ?_)
  · refine ⟨vp_in_nI hs (by decide), br_t ?_ (h _ _ _ _ I.2.1 I.2.2)⟩
    rw [nI_clamp (by omega), hsz]
    exact nI_le (by omega) (by omega)
  · obtain ⟨m, fi, tr, ia, ro⟩ := q
    obtain ⟨hst, hpi, hfi⟩ := I
    dsimp only at hst hpi hfi ⊢
    obtain ⟨ek, hk9⟩ := hK i hi
    obtain ⟨q0, q1, q2⟩ := hw.2.2 i hi
    have hmi := kw_st_le (n := n) (fun j hj => (hrng j hj).1) m i (by omega) hst
    refine ⟨vp_in_nI hs (by decide), br_f ?_ ?_⟩
    · rw [nI_clamp (by omega), hsz]
      exact nI_ge hi (by omega)
    · rw [kw_ixT, nI_clamp (by omega), nI_clamp (by omega), ek]
      refine ⟨vp_in_nI (by omega) (by decide), nm_e ⟨vp_in_nI (by omega) (by decide), nm_e ⟨vp_in_nI (by omega) (by decide), nm_r (e' := upd ia i 0) (congrArg _ (kw_vn false)) (ky_takes (K i) hk9 ?_)⟩⟩⟩
      rcases kw_t_012 (K i) with t | t | t
      · rw [t]
        refine nm_r (e' := nI m) (Int32.sub_zero _) (ky_takes (K i) hk9 ?_)
        rw [t]
        refine br_t (by decide) (ky_83 hk9 (by omega) (by omega) (g (m + 1, fi, upd tr i (-1), upd ia i 0, upd ro m (nI i)) ⟨⟨by omega, pk_us, ?_⟩, ?_, ?_⟩))
        · show kw_st Z (upd ro m (nI i)) m (i + 1 - Z i)
          rw [q0 t]
          exact kw_st_cg m i (fun j hj => (pk_un (by omega)).symm) hst
        · exact kw_pi_s hw hi hpi pk_us pk_us (fun z => by omega) (fun z => by omega) (fun k hk _ _ => ⟨pk_un (by omega), pk_un (by omega)⟩)
        · exact kw_fi_s hfi (fun j _ => rfl) (fun z => by omega) (fun z => by omega)
      · obtain ⟨i1, iz⟩ := q1 t
        cases m with
        | zero => exact absurd (show i = 0 from hst) (by omega)
        | succ m =>
          obtain ⟨_, er, hst⟩ := hst
          rw [t]
          refine nm_r (e' := nI m) (by rw [pk_sub (by omega)]; rfl) (ky_takes (K i) hk9 ?_)
          rw [t, nI_clamp (n := m) (by omega), er, nI_clamp (by omega)]
          refine br_f (by decide) ⟨vp_in_nI (by omega) (by decide), vp_in_nI (by omega) (by decide), nm_e ⟨vp_in_nI (by omega) (by decide), vp_in_nI (by omega) (by decide), nm_e (ky_83 hk9 (by omega) (by omega) (g (m + 1, upd fi i (nI (i - 1)), upd (upd tr i (-1)) (i - 1) (nI i), upd ia i 0, upd ro m (nI i)) ⟨⟨by omega, pk_us, ?_⟩, ?_, ?_⟩))⟩⟩
          · show kw_st Z (upd ro m (nI i)) m (i + 1 - Z i)
            rw [iz, show i + 1 - (1 + Z (i - 1)) = i - Z (i - 1) from by omega]
            exact kw_st_cg m _ (fun j hj => (pk_un (by omega)).symm) hst
          · show kw_pi K Z (upd (upd tr i (-1)) (i - 1) (nI i)) (upd ia i 0) (i + 1)
            refine kw_pi_s hw hi hpi (by rw [pk_un (by omega), pk_us]) pk_us (fun z => ⟨pk_us, ?_⟩) (fun z => by omega) (fun k hk z _ => ?_)
            · rw [if_neg (by omega), pk_un (by omega)]
            · have := z (by omega)
              rw [pk_un (by omega), pk_un (by omega), pk_un (by omega)]
              exact ⟨rfl, rfl⟩
          · exact kw_fi_s hfi (fun j hj => pk_un (by omega)) (fun _ => pk_us) (fun z => by omega)
      · obtain ⟨i1, iz⟩ := q2 t
        have hr1 := hrng (i - 1) (by omega)
        cases m with
        | zero => exact absurd (show i = 0 from hst) (by omega)
        | succ m =>
          obtain ⟨_, er, hst⟩ := hst
          cases m with
          | zero => exact absurd (show i - Z (i - 1) = 0 from hst) (by omega)
          | succ m =>
            obtain ⟨_, er2, hst⟩ := hst
            have ef : i - Z (i - 1) - 1 = i - 1 - Z (i - 1) := by omega
            rw [ef] at er2 hst
            rw [t]
            refine nm_r (e' := nI m) (by rw [pk_sub (by omega)]; rfl) (ky_takes (K i) hk9 ?_)
            rw [t, nI_clamp (n := m) (by omega), er2, nI_clamp (by omega)]
            refine br_f (by decide) ⟨vp_in_nI (by omega) (by decide), vp_in_nI (by omega) (by decide), nm_e ⟨vp_in_nI (by omega) (by decide), vp_in_nI (by omega) (by decide), nm_e (ky_83b hk9 t (by omega) (by omega) (by omega) (g (m + 1, upd fi i (nI (i - 1 - Z (i - 1))), upd (upd (upd tr i (-1)) (i - 1 - Z (i - 1)) (nI i)) (i - 1) (nI i), upd (upd ia i 0) (i - 1) (kw_b (decide (K i = 9))), upd ro m (nI i)) ⟨⟨by omega, pk_us, ?_⟩, ?_, ?_⟩))⟩⟩
            · show kw_st Z (upd ro m (nI i)) m (i + 1 - Z i)
              rw [iz, show i + 1 - (1 + Z (i - 1) + Z (i - 1 - Z (i - 1))) = i - Z (i - 1) - Z (i - 1 - Z (i - 1)) from by omega]
              exact kw_st_cg m _ (fun j hj => (pk_un (by omega)).symm) hst
            · show kw_pi K Z (upd (upd (upd tr i (-1)) (i - 1 - Z (i - 1)) (nI i)) (i - 1) (nI i)) (upd (upd ia i 0) (i - 1) (kw_b (decide (K i = 9)))) (i + 1)
              refine kw_pi_s hw hi hpi (by rw [pk_un (by omega), pk_un (by omega), pk_us]) (by rw [pk_un (by omega), pk_us]) (fun z => ⟨pk_us, ?_⟩) (fun z => ⟨?_, ?_⟩) (fun k hk z1 z2 => ?_)
              · rw [if_pos t, pk_us]
              · rw [pk_un (by omega), pk_us]
              · rw [pk_un (by omega), pk_un (by omega)]
              · have := z1 (by omega)
                have := z2 t
                rw [pk_un (by omega), pk_un (by omega), pk_un (by omega), pk_un (by omega), pk_un (by omega)]
                exact ⟨rfl, rfl⟩
            · exact kw_fi_s hfi (fun j hj => pk_un (by omega)) (fun z => by omega) (fun _ => pk_us)
/-! the worlds about a token -/
theorem kw_in_up {K Z : Nat → Nat} {n : Nat} (hw : kw_wf K Z n) {i j : Nat} (hij : i < j) (hj : j < n) (h : (i + 1 = j ∧ 1 ≤ kw_t (K j)) ∨ (kw_t (K j) = 2 ∧ i + 1 + Z (j - 1) = j)) : j + 1 ≤ i + Z j := by
  obtain ⟨q0, q1, q2⟩ := hw.2.2 j hj
  rcases h with ⟨h1, h2⟩ | ⟨h1, h2⟩
  · rcases kw_t_012 (K j) with t | t | t
    · omega
    · have := q1 t
      have := kw_wf_rng hw (j - 1) (by omega)
      omega
    · have := q2 t
      have := kw_wf_rng hw (j - 1) (by omega)
      omega
  · have := q2 h1
    have e : j - 1 - Z (j - 1) = i := by omega
    rw [e] at this
    have := kw_wf_rng hw i (by omega)
    omega
theorem ky_57 {post : Int32 → Prop} {J : Int32 → Int32 → Int32 → Prop} {k t j : Nat} {z0 : Int32} (hk : k < 24) (e : tr k = nI j) (h : J z0 (nI j) (nI (t + 1))) : wY_about_57 post J (nI k) (nI t) z0 th ac ht fa co sz kd ag fi tr ia ho ro di := by
  unfold wY_about_57
  rw [nI_clamp (by omega), e]
  exact ⟨vp_in_nI hk (by decide), nm_e (nm_r (nI_1 t) h)⟩
theorem ky_about {post : Int32 → Prop} {K Z : Nat → Nat} {n i : Nat} (hw : kw_wf K Z n) (hn : n ≤ 24) (hP : kw_pi K Z tr ia n) (hFi : kw_fi K Z fi n) (hi : i < n)
    (hsub : ∀ f, f < i → kw_sub (ho f) (kw_val th ho 0 (kw_ix K Z n f)) ∧ kw_sub (ho f) th) (h : post (kw_val th ho 0 (kw_ix K Z n i))) : wpY_about post (th, ac, ht, fa, co, sz, kd, ag, fi, tr, ia, ho, ro, di) (nI i) := by
  have hval : kw_sub (kw_val th ho 0 (kw_ix K Z n i)) th := by
    unfold kw_val
    by_cases z : kw_ix K Z n i = 0
    · rw [if_pos z]; exact kw_sub_rf _
    · have := kw_ix_le (K := K) (Z := Z) (n := n) i
      rw [if_neg z, Nat.zero_add]
      exact (hsub _ (by omega)).2
  have key : ∀ N k t set, n - k < N → i ≤ k → k < n → k + 1 ≤ i + Z k → i + t ≤ k → kw_sub set th → set &&& kw_val th ho 0 (kw_ix K Z n k) = kw_val th ho 0 (kw_ix K Z n i) → wY_about_10 post th ac ht fa co sz kd ag fi tr ia ho ro di N set (nI k) (nI t) := by
    intro N
    induction N with
    | zero => intro k t set z; omega
    | succ N ih =>
      intro k t set hN hik hk hin hti hset heq
      refine br_f (nI_ge (b := 24) (by omega) (by decide)) ⟨vp_in_nI (by omega) (by decide), ?_⟩
      rw [nI_clamp (by omega)]
      rcases kw_pi_end hw hP hk with ⟨e1, e2⟩ | ⟨j, hkj, hjn, etr, hch⟩
      · rw [e1]
        refine br_t (by decide) ?_
        rw [e2, kw_ix_top, kw_val, if_pos rfl, Int32.and_comm, kw_sub_and.mp hset] at heq
        rw [heq]
        exact h
      · have hup : j + 1 ≤ i + Z j := by
          have h1 := kw_in_up hw hkj hjn (by
            rcases hch with ⟨y1, y2, _⟩ | ⟨y1, y2, _⟩
            · exact Or.inl ⟨y1, y2⟩
            · exact Or.inr ⟨y1, y2⟩)
          have h2 := kw_lam hw j hjn k (by omega) h1
          omega
        have hgo : ∀ set', kw_sub set' th → set' &&& kw_val th ho 0 (kw_ix K Z n j) = kw_val th ho 0 (kw_ix K Z n i) → wY_about_57 post (wY_about_10 post th ac ht fa co sz kd ag fi tr ia ho ro di N) (nI k) (nI t) set' th ac ht fa co sz kd ag fi tr ia ho ro di := fun set' s1 s2 => ky_57 (by omega) etr (ih j (t + 1) set' (by omega) (by omega) hjn hup (by omega) s1 s2)
        rw [etr]
        refine br_f (nI_pos (by omega)) ⟨vp_in_nI (by omega) (by decide), ?_⟩
        rcases hch with ⟨y1, y2, y3⟩ | ⟨y1, y2, y3⟩
        · rw [y3]
          refine kw_br _ (fun e => ?_) (fun e => ?_)
          · have k9 : K j ≠ 9 := of_decide_eq_false e
            refine hgo set hset ?_
            rw [← kw_ix_up hw hkj hjn (Or.inl ⟨y1, y2, k9⟩)]
            exact heq
          · have k9 : K j = 9 := of_decide_eq_true e
            have t2 := kw_t9 k9
            have eF := (hFi j hjn).2 t2
            obtain ⟨_, _, q2⟩ := hw.2.2 j hjn
            have q2 := (q2 t2).1
            have ejk : j - 1 = k := by omega
            rw [ejk] at eF q2
            have hrk := kw_wf_rng hw k hk
            rw [nI_clamp (by omega), eF, nI_clamp (by omega)]
            refine ⟨vp_in_nI (by omega) (by decide), vp_in_nI (by omega) (by decide), vp_in_nI (by omega) (by decide), hgo _ ?_ ?_⟩
            · intro b hb
              rw [b_and, Bool.and_eq_true] at hb
              exact hset b hb.1
            · have eix : kw_ix K Z n k = k - Z k + 1 := by
                rw [kw_ix_G hw (i := k) (by omega) (by rw [y1]; exact k9)]
                omega
              have ev : kw_val th ho 0 (kw_ix K Z n k) = ho (k - Z k) := by
                rw [eix, kw_val, if_neg (by omega), Nat.zero_add, Nat.add_sub_cancel]
              rw [ev] at heq
              have es := (hsub (k - Z k) (by omega)).1
              rw [kw_ix_up hw (i := k - Z k) (j := j) (by omega) hjn (Or.inr ⟨t2, by rw [ejk]; omega⟩)] at es
              rw [Int32.and_assoc, Int32.and_comm (ho (k - Z k)), kw_sub_and.mp es]
              exact heq
        · rw [y3]
          refine br_t rfl (hgo set hset ?_)
          rw [← kw_ix_up hw hkj hjn (Or.inr ⟨y1, y2⟩)]
          exact heq
  unfold wpY_about
  dsimp only
  have hri := kw_wf_rng hw i hi
  refine ⟨n - i + 1, key (n - i + 1) i 0 th (by omega) (by omega) hi (by omega) (by omega) (kw_sub_rf _) (kw_sub_and.mp hval)⟩
end
