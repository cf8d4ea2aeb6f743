section
variable {th ac ht : Int32} {fa co sz kd ag fi tr ia ho ro di : Nat → Int32}
theorem ky_82 {post : Int32 → SY → Prop} {J : Int32 → (Nat → Int32) → (Nat → Int32) → (Nat → Int32) → (Nat → Int32) → (Nat → Int32) → (Nat → Int32) → (Nat → Int32) → (Nat → Int32) → (Nat → Int32) → (Nat → Int32) → (Nat → Int32) → Prop} {s i κ : Nat} {set f g : Int32} (hs : s < 6) (hi : i < 24) (hκ : κ ≤ 9) (ha : κ = 0 → ∃ p, p < 4 ∧ ag (24 * s + i) = nI p)
    (h : J (nI (i + 1)) fa co sz kd ag fi tr ia (upd ho i (kw_mk (fun w => bt set w && kw_iY fa co (ag (24 * s + i)) set f g w κ) 16)) ro di) : ∃ n, wY_whereHolds_82 post J (nI s) (nI i) set (nI κ) f g th ac ht fa co sz kd ag fi tr ia ho ro di n 0 0 := by
  refine kw_lp (fun n j c => wY_whereHolds_82 post J (nI s) (nI i) set (nI κ) f g th ac ht fa co sz kd ag fi tr ia ho ro di n c (nI j)) (fun j => kw_mk (fun w => bt set w && kw_iY fa co (ag (24 * s + i)) set f g w κ) j) 16 0 (by omega) (fun n => ?_) (fun n w hw G => ?_)
  · exact br_t (nI_le (a := 16) (by omega) (by decide)) ⟨vp_in_nI hi (by decide), nm_r (by rw [nI_clamp (by omega)]) (nm_r (nI_1 i) h)⟩
  · rw [kw_mk] at G
    refine br_f (nI_ge (b := 16) hw (by decide)) (ky_in (by omega) (kw_br _ (fun e => nm_r (nI_1 w) ?_) (fun e => ?_)))
    · rw [e, Bool.false_and, if_neg (by decide)] at G
      exact G
    · rw [e, Bool.true_and] at G
      rw [kw_ixT, nI_clamp (by omega)]
      refine ⟨vp_in_nI (by omega) (by decide), ky_isIn hw κ hκ ha (kw_br _ (fun e2 => nm_r (nI_1 w) ?_) (fun e2 => nm_e (nm_r (nI_1 w) ?_)))⟩
      · rw [e2, if_neg (by decide)] at G
        exact G
      · rw [e2, if_pos rfl] at G
        exact G
/-- the place of a token's first formula -/
def kw_f1 (K Z : Nat → Nat) (i : Nat) : Nat := if kw_t (K i) = 2 then i - 1 - Z (i - 1) else i - 1
def kw_VY (th : Int32) (fa co ag : Nat → Int32) (K Z : Nat → Nat) (s n i : Nat) (H : Nat → Int32) : Int32 :=
  kw_mk (fun w => bt (kw_val th H 0 (kw_ix K Z n i)) w && kw_iY fa co (ag (24 * s + i)) (kw_val th H 0 (kw_ix K Z n i)) (if K i = 0 then 0 else H (kw_f1 K Z i)) (if i = 0 then 0 else H (i - 1)) w (K i)) 16
def kw_HY (th : Int32) (fa co ag ho : Nat → Int32) (K Z : Nat → Nat) (s n : Nat) : Nat → Nat → Int32
  | 0 => ho
  | i + 1 => upd (kw_HY th fa co ag ho K Z s n i) i (kw_VY th fa co ag K Z s n i (kw_HY th fa co ag ho K Z s n i))
theorem kw_VY_sub (hS : kw_S th) {K Z : Nat → Nat} {s n i : Nat} {H : Nat → Int32} : kw_sub (kw_VY th fa co ag K Z s n i H) (kw_val th H 0 (kw_ix K Z n i)) := by
  intro b hb
  unfold kw_VY at hb
  by_cases z : b < 16
  · rw [kw_mk16 z, Bool.and_eq_true] at hb
    exact hb.1
  · rw [kw_mk_S b (by omega)] at hb
    exact nomatch hb
theorem kw_val_cg {H H' : Nat → Int32} {o e i : Nat} (he : e ≤ i) (h : ∀ j, j < i → H (o + j) = H' (o + j)) : kw_val th H o e = kw_val th H' o e := by
  unfold kw_val
  by_cases z : e = 0
  · rw [if_pos z, if_pos z]
  · rw [if_neg z, if_neg z]
    exact h _ (by omega)
theorem kw_HY_sub (hS : kw_S th) {K Z : Nat → Nat} {s n : Nat} : ∀ i f, f < i → kw_sub (kw_HY th fa co ag ho K Z s n i f) (kw_val th (kw_HY th fa co ag ho K Z s n i) 0 (kw_ix K Z n f)) ∧ kw_sub (kw_HY th fa co ag ho K Z s n i f) th := by
  intro i
  induction i with
  | zero => intro f hf; omega
  | succ i ih =>
    intro f hf
    have hlo : ∀ j, j < i → kw_HY th fa co ag ho K Z s n (i + 1) j = kw_HY th fa co ag ho K Z s n i j := fun j hj => pk_un (by omega)
    have hix : ∀ f, f ≤ i → kw_val th (kw_HY th fa co ag ho K Z s n (i + 1)) 0 (kw_ix K Z n f) = kw_val th (kw_HY th fa co ag ho K Z s n i) 0 (kw_ix K Z n f) := fun f hf => kw_val_cg (i := i) (Nat.le_trans (kw_ix_le f) hf) (fun j hj => by rw [Nat.zero_add]; exact hlo j hj)
    by_cases e : f = i
    · subst e
      have e1 : kw_HY th fa co ag ho K Z s n (f + 1) f = kw_VY th fa co ag K Z s n f (kw_HY th fa co ag ho K Z s n f) := pk_us
      have h1 : kw_sub (kw_HY th fa co ag ho K Z s n (f + 1) f) (kw_val th (kw_HY th fa co ag ho K Z s n (f + 1)) 0 (kw_ix K Z n f)) := by
        rw [e1, hix f (Nat.le_refl f)]
        exact kw_VY_sub hS
      refine ⟨h1, kw_sub_tr h1 ?_⟩
      rw [hix f (Nat.le_refl f)]
      unfold kw_val
      by_cases z : kw_ix K Z n f = 0
      · rw [if_pos z]; exact kw_sub_rf _
      · rw [if_neg z, Nat.zero_add]
        have := kw_ix_le (K := K) (Z := Z) (n := n) f
        exact (ih _ (by omega)).2
    · rw [hlo f (by omega), hix f (by omega)]
      exact ih f (by omega)
theorem ky_where {post : Int32 → SY → Prop} {K Z : Nat → Nat} {n s : Nat} (hS : kw_S th) (hw : kw_wf K Z n) (hn : n ≤ 24) (hs : s < 6) (hsz : sz s = nI n) (hK : ∀ i, i < n → kd (24 * s + i) = nI (K i) ∧ K i ≤ 9) (ha : ∀ i, i < n → K i = 0 → ∃ p, p < 4 ∧ ag (24 * s + i) = nI p)
    (h : ∀ fi' tr' ia' ro', post (kw_HY th fa co ag ho K Z s n n (n - 1)) (th, ac, ht, fa, co, sz, kd, ag, fi', tr', ia', kw_HY th fa co ag ho K Z s n n, ro', di)) : wpY_whereHolds post (th, ac, ht, fa, co, sz, kd, ag, fi, tr, ia, ho, ro, di) (nI s) := by
  unfold wpY_whereHolds
  dsimp only
  refine ky_parts hw hn hs hsz hK fun fi' tr' ia' ro' hpi hfi => ?_
  dsimp only
  have h1 := hw.1
  refine kw_lp (fun N i q => wY_whereHolds_7 post (nI s) th ac ht N (nI i) fa co sz kd ag (fi') (tr') (ia') q (ro') di) (fun i => kw_HY th fa co ag ho K Z s n i) n 0 (by omega) (fun N => ?_) (fun N i hi G => ?_)
  · refine ⟨vp_in_nI hs (by decide), ?_⟩
    rw [nI_clamp (by omega), hsz]
    have e1 : nI n - 1 = nI (n - 1) := by rw [show (1 : Int32) = nI 1 from rfl, pk_sub h1]
    refine br_t (nI_le (by omega) (by omega)) ⟨vp_in_nI hs (by decide), ?_⟩
    rw [e1, nI_clamp (by omega)]
    exact ⟨vp_in_nI (by omega) (by decide), h _ _ _ _⟩
  · refine ⟨vp_in_nI hs (by decide), ?_⟩
    rw [nI_clamp (by omega), hsz]
    obtain ⟨ek, hk9⟩ := hK i hi
    obtain ⟨q0, q1, q2⟩ := hw.2.2 i hi
    refine br_f (nI_ge hi (by omega)) (ky_about hw hn hpi hfi hi (kw_HY_sub hS i) ?_)
    rw [kw_ixT, nI_clamp (by omega), ek]
    have h56 : ∀ f, f = (if K i = 0 then 0 else kw_HY th fa co ag ho K Z s n i (kw_f1 K Z i)) → wY_whereHolds_56 post (wY_whereHolds_7 post (nI s) th ac ht N) (nI s) (nI i) (kw_val th (kw_HY th fa co ag ho K Z s n i) 0 (kw_ix K Z n i)) (nI (K i)) f th ac ht fa co sz kd ag (fi') (tr') (ia') (kw_HY th fa co ag ho K Z s n i) (ro') di := by
      intro f ef
      unfold wY_whereHolds_56
      have e1 : ∀ g, g = (if i = 0 then 0 else kw_HY th fa co ag ho K Z s n i (i - 1)) → upd (kw_HY th fa co ag ho K Z s n i) i (kw_mk (fun w => bt (kw_val th (kw_HY th fa co ag ho K Z s n i) 0 (kw_ix K Z n i)) w && kw_iY fa co (ag (24 * s + i)) (kw_val th (kw_HY th fa co ag ho K Z s n i) 0 (kw_ix K Z n i)) f g w (K i)) 16) = kw_HY th fa co ag ho K Z s n (i + 1) := by
        intro g eg
        rw [ef, eg]
        rfl
      refine pk_eq i 0 (fun z => ?_) (fun z => ?_)
      · refine ky_82 hs (by omega) hk9 (ha i hi) ?_
        rw [e1 0 (by rw [if_pos z])]
        exact G
      · have e2 : nI i - 1 = nI (i - 1) := by rw [show (1 : Int32) = nI 1 from rfl, pk_sub (by omega)]
        rw [e2, nI_clamp (by omega)]
        refine ⟨vp_in_nI (by omega) (by decide), nm_e (ky_82 hs (by omega) hk9 (ha i hi) ?_)⟩
        rw [e1 _ (by rw [if_neg z])]
        exact G
    refine ⟨vp_in_nI (by omega) (by decide), nm_e (pk_eq (K i) 0 (fun z => h56 0 (by rw [if_pos z])) (fun z => ?_))⟩
    have ef : fi' i = nI (kw_f1 K Z i) ∧ kw_f1 K Z i < 24 := by
      unfold kw_f1
      rcases kw_t_012 (K i) with t | t | t
      · exfalso
        apply z
        unfold kw_t at t
        by_cases z0 : K i = 0
        · exact z0
        · rw [if_neg z0] at t
          by_cases z2 : K i = 2 ∨ K i = 3 ∨ K i = 4 ∨ K i = 9
          · rw [if_pos z2] at t; omega
          · rw [if_neg z2] at t; omega
      · rw [if_neg (by omega)]
        exact ⟨(hfi i hi).1 t, by omega⟩
      · rw [if_pos t]
        exact ⟨(hfi i hi).2 t, by omega⟩
    rw [nI_clamp (by omega), ef.1, nI_clamp (by omega)]
    exact ⟨vp_in_nI (by omega) (by decide), vp_in_nI ef.2 (by decide), h56 _ (by rw [if_neg z])⟩
end
