section
variable {wt aw tc fc : Int32} {fs ce tk ta fz hs ap na : Nat → Int32}
/-- worlds taken out of a set -/
def kw_rm (c : Int32) (q : Nat → Bool) : Nat → Int32
  | 0 => c
  | w + 1 => if q w then kw_rm c q w &&& (((1 : Int32) <<< (nI w &&& 31)) ^^^ (-1)) else kw_rm c q w
theorem kw_rm_bt {c : Int32} {q : Nat → Bool} {n : Nat} (hn : n ≤ 32) {i : Nat} (hi : i < 32) : bt (kw_rm c q n) i = (bt c i && !(decide (i < n) && q i)) := by
  induction n with
  | zero => rw [kw_rm]; simp
  | succ n ih =>
    have ih := ih (by omega)
    rw [kw_rm]
    by_cases e : i = n
    · subst e
      cases hp : q i
      · simp [ih]
      · rw [if_pos rfl, b_and, kw_not _ hi, kw_one hi hi]
        simp
    · have e2 : decide (i < n + 1) = decide (i < n) := by
        by_cases h : i < n
        · simp [h]; omega
        · simp [h]; omega
      cases hp : q n
      · rw [if_neg (by decide), ih, e2]
      · rw [if_pos rfl, b_and, kw_not _ hi, kw_one (m := n) (by omega) hi, ih, e2, decide_eq_false e]
        simp
def kw_dq (ce : Nat → Int32) (g s ar : Int32) (a w : Nat) : Bool := bt g a && !decide ((ce (16 * a + w) &&& ar) &&& (s ^^^ (-1)) = 0)
def kw_akn (ce : Nat → Int32) (g s ar : Int32) : Nat → Int32
  | 0 => ar
  | a + 1 => kw_rm (kw_akn ce g s ar a) (kw_dq ce g s ar a) 16
def kw_ak (ce : Nat → Int32) (g s ar : Int32) : Int32 := kw_akn ce g s ar 3
theorem kx_allKnow {post : Int32 → Prop} {g s ar : Int32} (h : post (kw_ak ce g s ar)) : wpX_allKnow post (wt, aw, tc, fc, fs, ce, tk, ta, fz, hs, ap, na) g s ar := by
  unfold wpX_allKnow
  dsimp only
  refine kw_lp (fun n i c => wX_allKnow_6 post g s ar wt aw tc fc fs ce tk ta fz hs ap na n c (nI i)) (fun i => kw_akn ce g s ar i) 3 0 (by omega) (fun n => ?_) (fun n a ha G => ?_)
  · exact br_t (nI_le (a := 3) (by omega) (by decide)) h
  · refine br_f (nI_ge (b := 3) ha (by decide)) ?_
    refine kw_lp (fun m i c => wX_allKnow_15 post (wX_allKnow_6 post g s ar wt aw tc fc fs ce tk ta fz hs ap na n) g s ar (nI a) wt aw tc fc fs ce tk ta fz hs ap na m c (nI i)) (fun i => kw_rm (kw_akn ce g s ar a) (kw_dq ce g s ar a) i) 16 0 (by omega) (fun m => ?_) (fun m w hw G' => ?_)
    · exact br_t (nI_le (a := 16) (by omega) (by decide)) (nm_r (nI_1 a) G)
    · rw [kw_rm, kw_dq] at G'
      refine br_f (nI_ge (b := 16) hw (by decide)) ?_
      rw [kw_ixX, nI_clamp (by omega)]
      refine ⟨vp_in_nI (by omega) (by decide), ?_⟩
      by_cases z : (ce (16 * a + w) &&& ar) &&& (s ^^^ (-1)) = 0
      · rw [decide_eq_true z, Bool.not_true, Bool.and_false, if_neg (by decide)] at G'
        exact br_t z (kx_isIn (by omega) (kw_br _ (fun e => nm_r (nI_1 w) G') (fun e => br_t rfl (nm_r (nI_1 w) G'))))
      · rw [decide_eq_false z, Bool.not_false, Bool.and_true] at G'
        refine br_f z (kx_isIn (by omega) (kw_br _ (fun e => nm_r (nI_1 w) ?_) (fun e => br_f (by decide) (nm_e (nm_r (nI_1 w) ?_)))))
        · rw [e, if_neg (by decide)] at G'
          exact G'
        · rw [e, if_pos rfl] at G'
          exact G'
def kw_ck (ce : Nat → Int32) (g s ar : Int32) : Nat → Int32
  | 0 => s
  | n + 1 => kw_ak ce g (kw_ck ce g s ar n) ar
theorem kx_common {post : Int32 → Prop} {g s ar : Int32} (h : post (kw_ck ce g s ar 15)) : wpX_commonlyKnown post (wt, aw, tc, fc, fs, ce, tk, ta, fz, hs, ap, na) g s ar := by
  unfold wpX_commonlyKnown
  dsimp only
  refine kw_lp (fun n i c => wX_commonlyKnown_6 post g ar wt aw tc fc fs ce tk ta fz hs ap na n c (nI (i + 1))) (fun i => kw_ck ce g s ar i) 15 0 (by omega) (fun n => ?_) (fun n a ha G => ?_)
  · exact br_t (nI_le (a := 16) (by omega) (by decide)) h
  · exact br_f (nI_ge (b := 16) (by omega) (by decide)) (kx_allKnow (nm_r (nI_1 (a + 1)) G))
def kw_sh (ce : Nat → Int32) (g ar : Int32) (w : Nat) : Nat → Int32
  | 0 => ar
  | a + 1 => if bt g a then kw_sh ce g ar w a &&& ce (16 * a + w) else kw_sh ce g ar w a
def kw_kt (ce : Nat → Int32) (g s ar : Int32) : Int32 := kw_rm ar (fun w => !decide (kw_sh ce g ar w 3 &&& (s ^^^ (-1)) = 0)) 16
theorem kx_tog {post : Int32 → Prop} {g s ar : Int32} (h : post (kw_kt ce g s ar)) : wpX_knownTogether post (wt, aw, tc, fc, fs, ce, tk, ta, fz, hs, ap, na) g s ar := by
  unfold wpX_knownTogether
  dsimp only
  refine kw_lp (fun n i c => wX_knownTogether_6 post g s ar wt aw tc fc fs ce tk ta fz hs ap na n c (nI i)) (fun i => kw_rm ar (fun w => !decide (kw_sh ce g ar w 3 &&& (s ^^^ (-1)) = 0)) i) 16 0 (by omega) (fun n => ?_) (fun n w hw G => ?_)
  · exact br_t (nI_le (a := 16) (by omega) (by decide)) h
  · rw [kw_rm] at G
    refine br_f (nI_ge (b := 16) hw (by decide)) ?_
    refine kw_lp (fun m i c => wX_knownTogether_19 post (wX_knownTogether_6 post g s ar wt aw tc fc fs ce tk ta fz hs ap na n) g s ar (kw_rm ar (fun w => !decide (kw_sh ce g ar w 3 &&& (s ^^^ (-1)) = 0)) w) (nI w) wt aw tc fc fs ce tk ta fz hs ap na m c (nI i)) (fun i => kw_sh ce g ar w i) 3 0 (by omega) (fun m => ?_) (fun m a ha G' => ?_)
    · refine br_t (nI_le (a := 3) (by omega) (by decide)) ?_
      by_cases z : kw_sh ce g ar w 3 &&& (s ^^^ (-1)) = 0
      · rw [decide_eq_true z, if_neg (by decide)] at G
        exact br_t z (nm_r (nI_1 w) G)
      · rw [decide_eq_false z, if_pos (by decide)] at G
        exact br_f z (nm_e (nm_r (nI_1 w) G))
    · rw [kw_sh] at G'
      refine br_f (nI_ge (b := 3) ha (by decide)) (kx_isIn (by omega) (kw_br _ (fun e => nm_r (nI_1 a) ?_) (fun e => ?_)))
      · rw [e, if_neg (by decide)] at G'
        exact G'
      · rw [e, if_pos rfl] at G'
        rw [kw_ixX, nI_clamp (by omega)]
        exact ⟨vp_in_nI (by omega) (by decide), nm_e (nm_r (nI_1 a) G')⟩
def kw_vX (fs ce : Nat → Int32) (a f g ar : Int32) : Nat → Int32
  | 0 => fs a.toNatClampNeg &&& ar
  | 1 => ar &&& (f ^^^ (-1))
  | 2 => f &&& g
  | 3 => f ||| g
  | 4 => ar &&& ((f ^^^ g) ^^^ (-1))
  | 5 => kw_ak ce ((1 : Int32) <<< (a &&& 31)) f ar
  | 6 => kw_ak ce a f ar
  | 7 => kw_ck ce a f ar 15
  | 8 => kw_kt ce a f ar
  | _ => (ar &&& (f ^^^ (-1))) ||| g
theorem kx_72 {post : Int32 → Prop} {a f g ar : Int32} : ∀ κ, κ ≤ 9 → 1 ≤ κ → post (kw_vX fs ce a f g ar κ) → wX_setOfToken_72 post ar (nI κ) a g f wt aw tc fc fs ce tk ta fz hs ap na := by
  refine kw_10 (fun h => absurd h (by omega)) ?_ ?_ ?_ ?_ ?_ ?_ ?_ ?_ ?_ <;> intro _ h <;> rw [kw_vX] at h
  · exact br_f (by decide) (br_f (by decide) (br_t (by decide) h))
  · exact br_f (by decide) (br_f (by decide) (br_f (by decide) (br_t (by decide) h)))
  · exact br_f (by decide) (br_f (by decide) (br_f (by decide) (br_f (by decide) (br_t (by decide) h))))
  · exact br_f (by decide) (br_f (by decide) (br_f (by decide) (br_f (by decide) (br_f (by decide) (br_t (by decide) h)))))
  · exact br_f (by decide) (br_f (by decide) (br_f (by decide) (br_f (by decide) (br_f (by decide) (br_f (by decide) (br_t (by decide) (kx_allKnow h)))))))
  · exact br_f (by decide) (br_f (by decide) (br_f (by decide) (br_f (by decide) (br_f (by decide) (br_f (by decide) (br_f (by decide) (br_t (by decide) (kx_allKnow h))))))))
  · exact br_f (by decide) (br_f (by decide) (br_f (by decide) (br_f (by decide) (br_f (by decide) (br_f (by decide) (br_f (by decide) (br_f (by decide) (br_t (by decide) (kx_common h)))))))))
  · exact br_f (by decide) (br_f (by decide) (br_f (by decide) (br_f (by decide) (br_f (by decide) (br_f (by decide) (br_f (by decide) (br_f (by decide) (br_f (by decide) (br_t (by decide) (kx_tog h))))))))))
  · exact br_f (by decide) (br_t (by decide) h)
  all_goals (intros; omega)
theorem kx_setOf {post : Int32 → Prop} {T κ c : Nat} {f g ar : Int32} (hT : T < 144) (hk : tk T = nI κ) (hκ : κ ≤ 9) (ha : κ = 0 → ∃ p, p < 4 ∧ ta T = nI p)
    (hg : 1 ≤ kw_t κ → 1 ≤ T ∧ hs (T - 1) = g) (hf1 : kw_t κ = 1 → f = g) (hf2 : kw_t κ = 2 → fz (T - 1) = nI c ∧ c + 1 ≤ T ∧ hs (T - 1 - c) = f)
    (h : post (kw_vX fs ce (ta T) f g ar κ)) : wpX_setOfToken post (wt, aw, tc, fc, fs, ce, tk, ta, fz, hs, ap, na) (nI T) ar := by
  unfold wpX_setOfToken
  dsimp only
  rw [nI_clamp (by omega)]
  refine ⟨vp_in_nI hT (by decide), nm_r hk ⟨vp_in_nI hT (by decide), nm_e (kx_taken κ hκ ?_)⟩⟩
  rcases kw_t_012 κ with t | t | t
  · have hκ0 : κ = 0 := by
      apply Classical.byContradiction
      intro z
      unfold kw_t at t
      rw [if_neg z] at t
      by_cases z2 : κ = 2 ∨ κ = 3 ∨ κ = 4 ∨ κ = 9
      · rw [if_pos z2] at t; omega
      · rw [if_neg z2] at t; omega
    obtain ⟨p, hp, e⟩ := ha hκ0
    rw [t]
    subst hκ0
    refine br_t rfl ⟨by rw [e]; exact vp_in_nI hp (by decide), h⟩
  · obtain ⟨h1, h2⟩ := hg (by omega)
    have hκ1 : 1 ≤ κ := by
      apply Classical.byContradiction
      intro z
      have : κ = 0 := by omega
      rw [this] at t
      exact absurd t (by decide)
    have e1 : nI T - 1 = nI (T - 1) := by rw [show (1 : Int32) = nI 1 from rfl, pk_sub h1]
    rw [t, e1, nI_clamp (by omega), h2]
    refine br_f (by decide) ⟨vp_in_nI (by omega) (by decide), nm_e (kx_taken κ hκ ?_)⟩
    rw [t]
    rw [hf1 t] at h
    exact br_f (by decide) (kx_72 κ hκ hκ1 h)
  · obtain ⟨h1, h2⟩ := hg (by omega)
    obtain ⟨c1, c2, c3⟩ := hf2 t
    have hκ1 : 1 ≤ κ := by
      apply Classical.byContradiction
      intro z
      have : κ = 0 := by omega
      rw [this] at t
      exact absurd t (by decide)
    have e1 : nI T - 1 = nI (T - 1) := by rw [show (1 : Int32) = nI 1 from rfl, pk_sub h1]
    have e2 : nI (T - 1) - nI c = nI (T - 1 - c) := pk_sub (by omega)
    rw [t, e1, nI_clamp (by omega), h2, c1, e2, nI_clamp (by omega), c3]
    refine br_f (by decide) ⟨vp_in_nI (by omega) (by decide), nm_e (kx_taken κ hκ ?_)⟩
    rw [t]
    exact br_t rfl ⟨vp_in_nI (by omega) (by decide), vp_in_nI (by omega) (by decide), kx_72 κ hκ hκ1 h⟩
/-! the worlds around a token -/
def kw_val (wt : Int32) (H : Nat → Int32) (o e : Nat) : Int32 := if e = 0 then wt else H (o + (e - 1))
theorem kx_around {post : Int32 → Prop} {Z : Nat → Nat} {o n i : Nat} {kd ag : Nat → Int32} {s : Nat} (hfm : kw_fm tk ta fz kd ag Z o s n) (htc : tc = nI (o + n)) (h144 : o + n ≤ 144) (hi : i < n)
    (h : post (kw_val wt hs o (kw_ix (fun i => (tk (o + i)).toNatClampNeg) (fun i => Z (o + i)) n i))) : wpX_worldsAround post (wt, aw, tc, fc, fs, ce, tk, ta, fz, hs, ap, na) (nI (o + i)) := by
  obtain ⟨h24, hc, hw⟩ := hfm
  have hrng := kw_wf_rng hw
  unfold wpX_worldsAround
  dsimp only
  refine nm_r (nI_1 (o + i)) ⟨n - 1 - i + 1, ?_⟩
  have key : ∀ d j, j + d = n → i < j → post (kw_val wt hs o (kw_ixs (fun i => (tk (o + i)).toNatClampNeg) (fun i => Z (o + i)) i d j)) → wX_worldsAround_4 post (nI (o + i)) wt aw tc fc fs ce tk ta fz hs ap na (d + 1) (nI (o + j)) := by
    intro d
    induction d with
    | zero =>
      intro j hj _ hp
      exact br_t (by rw [htc]; exact nI_le (by omega) (by omega)) hp
    | succ d ih =>
      intro j hj hij hp
      have ih := ih (j + 1) (by omega) (by omega)
      have e1 : nI (o + j) - 1 = nI (o + (j - 1)) := by rw [show (1 : Int32) = nI 1 from rfl, pk_sub (by omega)]; exact congrArg nI (by omega)
      obtain ⟨_, _, ez, _⟩ := hc (j - 1) (by omega)
      obtain ⟨_, _, _, κ, hκ, ek, _⟩ := hc j (by omega)
      have hr := hrng (j - 1) (by omega)
      have e2 : nI (o + j) - nI (Z (o + (j - 1))) = nI (o + (j - Z (o + (j - 1)))) := by
        rw [pk_sub (by omega)]; exact congrArg nI (by omega)
      rw [kw_ixs] at hp
      have eκ : (tk (o + j)).toNatClampNeg = κ := by rw [ek]; exact nI_clamp (by omega)
      rw [eκ] at hp
      have hnx : post (kw_val wt hs o (kw_ixs (fun i => (tk (o + i)).toNatClampNeg) (fun i => Z (o + i)) i d (j + 1))) → ∀ x, x = nI (o + j) + 1 → wX_worldsAround_4 post (nI (o + i)) wt aw tc fc fs ce tk ta fz hs ap na (d + 1) x := fun q => nm_r (e' := nI (o + (j + 1))) (nI_1 (o + j)) (ih q)
      refine br_f (by rw [htc]; exact nI_ge (by omega) (by omega)) ?_
      rw [e1, nI_clamp (by omega), ez, nI_clamp (by omega), ek]
      refine ⟨vp_in_nI (by omega) (by decide), nm_r e2 ⟨vp_in_nI (by omega) (by decide), ?_⟩⟩
      refine pk_eq κ 9 (fun k9 => ?_) (fun k9 => hnx (by rw [if_neg (fun q => k9 q.1)] at hp; exact hp))
      refine pk_lt (o + i) (o + (j - Z (o + (j - 1)))) (fun z => hnx (by rw [if_neg (fun q => by omega)] at hp; exact hp)) (fun z => ?_)
      rw [if_pos ⟨k9, by omega⟩] at hp
      obtain ⟨_, _, q2⟩ := hw.2.2 j (by omega)
      dsimp only at q2
      rw [eκ] at q2
      have q2 := (q2 (kw_t9 k9)).1
      have e3 : nI (o + (j - Z (o + (j - 1)))) - 1 = nI (o + (j - Z (o + (j - 1)) - 1)) := by
        rw [show (1 : Int32) = nI 1 from rfl, pk_sub (by omega)]; exact congrArg nI (by omega)
      rw [e3, nI_clamp (by omega)]
      rw [kw_val, if_neg (by omega)] at hp
      exact ⟨vp_in_nI (by omega) (by decide), hp⟩
  exact key (n - 1 - i) (i + 1) (by omega) (by omega) h
/-! the top's set -/
def kw_VX (wt : Int32) (fs ce tk ta : Nat → Int32) (Z : Nat → Nat) (o n i : Nat) (H : Nat → Int32) : Int32 :=
  kw_vX fs ce (ta (o + i)) (if kw_t (tk (o + i)).toNatClampNeg = 2 then H (o + (i - 1 - Z (o + (i - 1)))) else H (o + (i - 1))) (H (o + (i - 1)))
    (kw_val wt H o (kw_ix (fun i => (tk (o + i)).toNatClampNeg) (fun i => Z (o + i)) n i)) (tk (o + i)).toNatClampNeg
def kw_HX (wt : Int32) (fs ce tk ta hs : Nat → Int32) (Z : Nat → Nat) (o n : Nat) : Nat → Nat → Int32
  | 0 => hs
  | i + 1 => upd (kw_HX wt fs ce tk ta hs Z o n i) (o + i) (kw_VX wt fs ce tk ta Z o n i (kw_HX wt fs ce tk ta hs Z o n i))
theorem kx_topSet {post : Int32 → SX → Prop} {Z : Nat → Nat} {o n : Nat} {kd ag : Nat → Int32} {s : Nat} (hfm : kw_fm tk ta fz kd ag Z o s n) (htc : tc = nI (o + n)) (h144 : o + n ≤ 144)
    (h : post (kw_HX wt fs ce tk ta hs Z o n n (o + (n - 1))) (wt, aw, tc, fc, fs, ce, tk, ta, fz, kw_HX wt fs ce tk ta hs Z o n n, ap, na)) : wpX_topSet post (wt, aw, tc, fc, fs, ce, tk, ta, fz, hs, ap, na) := by
  have hfm2 := hfm
  obtain ⟨h24, hc, hw⟩ := hfm
  have h1 := hw.1
  have hz : fz (o + n - 1) = nI n := by
    rw [show o + n - 1 = o + (n - 1) from by omega, (hc (n - 1) (by omega)).2.2.1]
    exact congrArg nI hw.2.1
  unfold wpX_topSet
  dsimp only
  refine kx_szt1 htc h144 (by omega) hz (nm_r (e' := nI (o + 0)) (by rw [htc, pk_sub (by omega)]; exact congrArg nI (by omega)) ?_)
  refine kw_lp (fun m i q => wX_topSet_11 post wt aw tc fc m (nI (o + i)) fs ce tk ta fz q ap na) (fun i => kw_HX wt fs ce tk ta hs Z o n i) n 0 (by omega) (fun m => ?_) (fun m i hi G => ?_)
  · have e1 : tc - 1 = nI (o + (n - 1)) := by rw [htc, show (1 : Int32) = nI 1 from rfl, pk_sub (by omega)]; exact congrArg nI (by omega)
    refine br_t (by rw [htc]; exact nI_le (by omega) (by omega)) ?_
    rw [e1, nI_clamp (by omega)]
    exact ⟨vp_in_nI (by omega) (by decide), h⟩
  · refine br_f (by rw [htc]; exact nI_ge (by omega) (by omega)) (kx_around hfm2 htc h144 hi ?_)
    obtain ⟨_, _, _, κ, hκ, ek, ha0, _⟩ := hc i hi
    have eκ : (tk (o + i)).toNatClampNeg = κ := by rw [ek]; exact nI_clamp (by omega)
    obtain ⟨q0, q1, q2⟩ := hw.2.2 i hi
    dsimp only at q0 q1 q2
    rw [eκ] at q0 q1 q2
    refine kx_setOf (κ := κ) (c := Z (o + (i - 1))) (f := if kw_t κ = 2 then kw_HX wt fs ce tk ta hs Z o n i (o + (i - 1 - Z (o + (i - 1)))) else kw_HX wt fs ce tk ta hs Z o n i (o + (i - 1))) (g := kw_HX wt fs ce tk ta hs Z o n i (o + (i - 1))) (by omega) ek hκ ha0 (fun t => ?_) (fun t => if_neg (by omega)) (fun t => ?_) ⟨vp_in_nI (by omega) (by decide), nm_r ?_ (nm_r (nI_1 (o + i)) G)⟩
    · have : 1 ≤ i := by
        rcases kw_t_012 κ with t' | t' | t'
        · omega
        · exact (q1 t').1
        · have := q2 t'; omega
      exact ⟨by omega, congrArg _ (by omega)⟩
    · have q2 := q2 t
      refine ⟨?_, by omega, ?_⟩
      · rw [show o + i - 1 = o + (i - 1) from by omega]
        exact (hc (i - 1) (by omega)).2.2.1
      · rw [if_pos t]
        exact congrArg _ (by omega)
    · rw [nI_clamp (by omega), kw_HX, kw_VX, eκ]
end
