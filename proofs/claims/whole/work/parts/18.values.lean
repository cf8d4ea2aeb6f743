/-! the common knowledge of both: a greatest set, a least set -/
section
variable {S : Nat → Bool} {E : Nat → Nat → Prop}
theorem kw_gfp {P : Nat → Nat → Bool} (hP : ∀ n w, w < 16 → (P (n + 1) w = true ↔ S w = true ∧ ∀ v, v < 16 → S v = true → E w v → P n v = true)) (h0 : ∀ w, w < 16 → P 0 w = true → S w = true) (hr : ∀ w, w < 16 → S w = true → E w w) :
    (∀ w, w < 16 → P 15 w = true → ∀ v, v < 16 → S v = true → E w v → P 15 v = true) ∧ (∀ w, w < 16 → P 15 w = true → P 0 w = true) := by
  have hd : ∀ n w, w < 16 → P (n + 1) w = true → P n w = true := fun n w hw h => by
    obtain ⟨h1, h2⟩ := (hP n w hw).mp h
    exact h2 w hw h1 (hr w hw h1)
  have hst : ∀ n, (∀ w, w < 16 → P n w = true → P (n + 1) w = true) → (∀ w, w < 16 → P (n + 1) w = true → P (n + 2) w = true) := fun n h w hw hp => by
    obtain ⟨h1, h2⟩ := (hP n w hw).mp hp
    exact (hP (n + 1) w hw).mpr ⟨h1, fun v hv sv ev => h v hv (h2 v hv sv ev)⟩
  have hor : ∀ n, (∀ w, w < 16 → P n w = true → P (n + 1) w = true) ∨ kw_c (P n) 16 + n ≤ 15 := by
    intro n
    induction n with
    | zero =>
      by_cases z : ∀ w, w < 16 → S w = true → P 0 w = true
      · exact Or.inl fun w hw hp => (hP 0 w hw).mpr ⟨h0 w hw hp, fun v hv sv _ => z v hv sv⟩
      · right
        obtain ⟨w, z⟩ := Classical.not_forall.mp z
        have hw : w < 16 := Classical.byContradiction fun g => z fun h => absurd h g
        have hp : P 0 w = false := by
          cases e : P 0 w
          · rfl
          · exact absurd (fun _ _ => e) z
        have h1 := kw_c_lt (p := P 0) (q := fun _ => true) (n := 16) (fun _ _ _ => rfl) hw hp rfl
        have h2 := kw_c_le (p := fun _ => true) (n := 16)
        omega
    | succ n ih =>
      rcases ih with h | h
      · exact Or.inl (hst n h)
      · by_cases z : ∀ w, w < 16 → P n w = true → P (n + 1) w = true
        · exact Or.inl (hst n z)
        · right
          obtain ⟨w, z⟩ := Classical.not_forall.mp z
          have hw : w < 16 := Classical.byContradiction fun g => z fun h => absurd h g
          have hp : P n w = true := by
            cases e : P n w
            · exact absurd (fun _ h => by rw [e] at h; exact (nomatch h)) z
            · rfl
          have hp1 : P (n + 1) w = false := by
            cases e : P (n + 1) w
            · rfl
            · exact absurd (fun _ _ => e) z
          have := kw_c_lt (p := P (n + 1)) (q := P n) (n := 16) (fun i hi h => hd n i hi h) hw hp1 hp
          omega
  have h15 : ∀ w, w < 16 → P 15 w = true → P 16 w = true := by
    rcases hor 15 with h | h
    · exact h
    · have := kw_c_0 (p := P 15) (n := 16) (by omega)
      intro w hw hp
      rw [this w hw] at hp
      exact nomatch hp
  refine ⟨fun w hw hp v hv sv ev => ((hP 15 w hw).mp (h15 w hw hp)).2 v hv sv ev, fun w hw hp => ?_⟩
  have : ∀ n, P n w = true → P 0 w = true := by
    intro n
    induction n with
    | zero => exact id
    | succ n ih => exact fun h => ih (hd n w hw h)
  exact this 15 hp
theorem kw_lfp {Q : Nat → Nat → Bool} (hQ : ∀ t v, v < 16 → (Q (t + 1) v = true ↔ Q t v = true ∨ (Q t (t % 16) = true ∧ S v = true ∧ E (t % 16) v))) (hne : ∃ w, w < 16 ∧ Q 0 w = true) :
    ∀ x, x < 16 → Q 256 x = true → ∀ v, v < 16 → S v = true → E x v → Q 256 v = true := by
  have hm : ∀ t d v, v < 16 → Q t v = true → Q (t + d) v = true := by
    intro t d v hv h
    induction d with
    | zero => exact h
    | succ d ih => exact (hQ (t + d) v hv).mpr (Or.inl ih)
  have hc1 : ∀ t, (∀ x, x < 16 → Q t x = true → ∀ v, v < 16 → S v = true → E x v → Q t v = true) → (∀ x, x < 16 → Q (t + 1) x = true → ∀ v, v < 16 → S v = true → E x v → Q (t + 1) v = true) := by
    intro t h x hx hq v hv sv ev
    refine hm t 1 v hv ?_
    rcases (hQ t x hx).mp hq with z | ⟨z1, z2, z3⟩
    · exact h x hx z v hv sv ev
    · exact h x hx (h (t % 16) (by omega) z1 x hx z2 z3) v hv sv ev
  have hc : ∀ t d, (∀ x, x < 16 → Q t x = true → ∀ v, v < 16 → S v = true → E x v → Q t v = true) → (∀ x, x < 16 → Q (t + d) x = true → ∀ v, v < 16 → S v = true → E x v → Q (t + d) v = true) := by
    intro t d h
    induction d with
    | zero => exact h
    | succ d ih => exact hc1 (t + d) ih
  have hor : ∀ r, (∀ x, x < 16 → Q (16 * r) x = true → ∀ v, v < 16 → S v = true → E x v → Q (16 * r) v = true) ∨ r + 1 ≤ kw_c (Q (16 * r)) 16 := by
    intro r
    induction r with
    | zero =>
      right
      obtain ⟨w, hw, h⟩ := hne
      have := kw_c_lt (p := fun _ => false) (q := Q (16 * 0)) (n := 16) (fun _ _ z => (nomatch z)) hw rfl h
      omega
    | succ r ih =>
      rcases ih with h | h
      · exact Or.inl (hc (16 * r) 16 h)
      · by_cases z : ∀ v, v < 16 → Q (16 * r + 16) v = true → Q (16 * r) v = true
        · left
          refine hc (16 * r) 16 fun x hx hq v hv sv ev => z v hv ?_
          have h1 : Q (16 * r + x) x = true := hm (16 * r) x x hx hq
          have e : (16 * r + x) % 16 = x := by omega
          have h2 : Q (16 * r + x + 1) v = true := (hQ (16 * r + x) v hv).mpr (Or.inr (by rw [e]; exact ⟨h1, sv, ev⟩))
          have h3 := hm (16 * r + x + 1) (15 - x) v hv h2
          rw [show 16 * r + x + 1 + (15 - x) = 16 * r + 16 from by omega] at h3
          exact h3
        · right
          obtain ⟨w, z⟩ := Classical.not_forall.mp z
          have hw : w < 16 := Classical.byContradiction fun g => z fun h => absurd h g
          have hp : Q (16 * r + 16) w = true := by
            cases e : Q (16 * r + 16) w
            · exact absurd (fun _ h => by rw [e] at h; exact (nomatch h)) z
            · rfl
          have hp1 : Q (16 * r) w = false := by
            cases e : Q (16 * r) w
            · rfl
            · exact absurd (fun _ _ => e) z
          have := kw_c_lt (p := Q (16 * r)) (q := Q (16 * r + 16)) (n := 16) (fun i hi h => hm (16 * r) 16 i hi h) hw hp1 hp
          show r + 1 + 1 ≤ kw_c (Q (16 * r + 16)) 16
          omega
  rcases hor 16 with h | h
  · exact h
  · have := kw_c_le (p := Q (16 * 16)) (n := 16)
    omega
end
/-! the sets, by their worlds -/
section
variable {wt : Int32} {fs ce fa co : Nat → Int32}
def kw_Eg (co : Nat → Int32) (g : Int32) (w v : Nat) : Prop := ∃ a, a < 3 ∧ bt g a = true ∧ kw_R co a w v = true
theorem kw_bT {a : Bool} {p : Prop} (b : Bool) (h1 : a = true ↔ p) (h2 : b = true ↔ p) : a = b := by
  cases a
  · cases b
    · rfl
    · exact absurd (h1.mpr (h2.mp rfl)) (by decide)
  · exact (h2.mpr (h1.mp rfl)).symm
theorem kw_akn_bt {g s ar : Int32} {w : Nat} (hw : w < 16) : ∀ n, (bt (kw_akn ce g s ar n) w = true ↔ bt ar w = true ∧ ∀ a, a < n → kw_dq ce g s ar a w = false) := by
  intro n
  induction n with
  | zero => exact ⟨fun h => ⟨h, fun a ha => absurd ha (by omega)⟩, fun h => h.1⟩
  | succ n ih =>
    rw [kw_akn, kw_rm_bt (by omega) (by omega), decide_eq_true hw, Bool.true_and, Bool.and_eq_true, ih]
    constructor
    · rintro ⟨⟨h1, h2⟩, h3⟩
      refine ⟨h1, fun a ha => ?_⟩
      by_cases e : a = n
      · rw [e]; simpa using h3
      · exact h2 a (by omega)
    · rintro ⟨h1, h2⟩
      exact ⟨⟨h1, fun a ha => h2 a (by omega)⟩, by rw [h2 n (by omega)]; rfl⟩
theorem kw_ak_iff (hS : kw_S wt) (hC : kw_CE wt ce co) {g s ar : Int32} (har : kw_sub ar wt) {w : Nat} (hw : w < 16) : bt (kw_ak ce g s ar) w = true ↔ bt ar w = true ∧ ∀ v, v < 16 → bt ar v = true → kw_Eg co g w v → bt s v = true := by
  have hSa : kw_S ar := kw_sub_S har hS
  unfold kw_ak
  rw [kw_akn_bt hw]
  constructor
  · rintro ⟨h1, h2⟩
    refine ⟨h1, ?_⟩
    rintro v hv av ⟨a, ha, ga, ra⟩
    have := h2 a ha
    rw [kw_dq, ga, Bool.true_and, Bool.not_eq_false', decide_eq_true_eq, kw_zero16 (kw_S_and' hSa)] at this
    have := this v hv (by rw [b_and, hC a ha w v hw hv (har w h1) (har v av), ra, av]; rfl)
    rw [kw_not _ (by omega)] at this
    simpa using this
  · rintro ⟨h1, h2⟩
    refine ⟨h1, fun a ha => ?_⟩
    rw [kw_dq]
    cases ga : bt g a
    · rfl
    · rw [Bool.true_and, Bool.not_eq_false', decide_eq_true_eq, kw_zero16 (kw_S_and' hSa)]
      intro v hv hb
      rw [b_and, Bool.and_eq_true] at hb
      rw [kw_not _ (by omega), h2 v hv hb.2 ⟨a, ha, ga, by rw [← hC a ha w v hw hv (har w h1) (har v hb.2)]; exact hb.1⟩]
      rfl
theorem kw_akn_S {g s ar : Int32} (h : kw_S ar) : ∀ n, kw_S (kw_akn ce g s ar n) := by
  intro n
  induction n with
  | zero => exact h
  | succ n ih =>
    intro i hi
    by_cases z : i < 32
    · rw [kw_akn, kw_rm_bt (by omega) z, ih i hi]; rfl
    · exact b_big (by omega)
theorem kw_ak_S {g s ar : Int32} (h : kw_S ar) : kw_S (kw_ak ce g s ar) := kw_akn_S h 3
theorem kw_nx_S {set g : Int32} {b : Bool} {w : Nat} : kw_S (kw_nx co set g b w) := kw_mk_S
theorem kw_nxt_iff {set g : Int32} {w v : Nat} (hv : v < 16) : bt (kw_nx co set g true w) v = true ↔ bt set v = true ∧ kw_Eg co g w v := by
  unfold kw_nx
  rw [kw_mk16 hv, Bool.and_eq_true, if_pos rfl, kw_ex_iff]
  constructor
  · rintro ⟨h1, a, ha, h2⟩
    rw [kw_no1, Bool.and_eq_true] at h2
    exact ⟨h1, a, ha, h2.2, h2.1⟩
  · rintro ⟨h1, a, ha, h2, h3⟩
    exact ⟨h1, a, ha, by rw [kw_no1, h2, h3]; rfl⟩
theorem kw_nxf_iff {set g : Int32} {w v : Nat} (hv : v < 16) : bt (kw_nx co set g false w) v = true ↔ bt set v = true ∧ ∀ a, a < 3 → bt g a = true → kw_R co a w v = true := by
  unfold kw_nx
  rw [kw_mk16 hv, Bool.and_eq_true, if_neg (by decide), kw_al_iff]
  constructor
  · rintro ⟨h1, h2⟩
    refine ⟨h1, fun a ha ga => ?_⟩
    have := h2 a ha
    rw [kw_na, ga] at this
    simpa using this
  · rintro ⟨h1, h2⟩
    refine ⟨h1, fun a ha => ?_⟩
    rw [kw_na]
    cases ga : bt g a
    · rw [Bool.not_false, Bool.or_true]
    · rw [h2 a ha ga]; rfl
/-- seen sets within f -/
theorem kw_see {x f : Int32} (hx : kw_S x) : decide (x &&& (f ^^^ (-1)) = 0) = true ↔ ∀ v, v < 16 → bt x v = true → bt f v = true := by
  rw [decide_eq_true_eq, kw_zero16 hx]
  constructor
  · intro h v hv xv
    have := h v hv xv
    rw [kw_not _ (by omega)] at this
    simpa using this
  · intro h v hv xv
    rw [kw_not _ (by omega), h v hv xv]
    rfl
theorem kw_eq5 (hS : kw_S wt) (hC : kw_CE wt ce co) {set f : Int32} (hset : kw_sub set wt) {p w : Nat} (hp : p < 3) (hw : w < 16) : bt (kw_ak ce ((1 : Int32) <<< (nI p &&& 31)) f set) w = (bt set w && decide (kw_nx co set ((1 : Int32) <<< (nI p &&& 31)) false w &&& (f ^^^ (-1)) = 0)) := by
  refine kw_bT _ (kw_ak_iff hS hC hset hw) ?_
  rw [Bool.and_eq_true, kw_see kw_nx_S]
  have hg : ∀ a, a < 3 → (bt ((1 : Int32) <<< (nI p &&& 31)) a = true ↔ a = p) := fun a ha => by
    rw [kw_one (by omega) (by omega), decide_eq_true_eq]
  constructor
  · rintro ⟨h1, h2⟩
    refine ⟨h1, fun v hv sv ⟨a, ha, ga, ra⟩ => h2 v hv ((kw_nxf_iff hv).mpr ⟨sv, fun b hb gb => ?_⟩)⟩
    rw [(hg b hb).mp gb, ← (hg a ha).mp ga]; exact ra
  · rintro ⟨h1, h2⟩
    refine ⟨h1, fun v hv xv => ?_⟩
    obtain ⟨z1, z2⟩ := (kw_nxf_iff hv).mp xv
    exact h2 v hv z1 ⟨p, hp, (hg p hp).mpr rfl, z2 p hp ((hg p hp).mpr rfl)⟩
theorem kw_eq6 (hS : kw_S wt) (hC : kw_CE wt ce co) {set f g : Int32} (hset : kw_sub set wt) {w : Nat} (hw : w < 16) : bt (kw_ak ce g f set) w = (bt set w && decide (kw_nx co set g true w &&& (f ^^^ (-1)) = 0)) := by
  refine kw_bT _ (kw_ak_iff hS hC hset hw) ?_
  rw [Bool.and_eq_true, kw_see kw_nx_S]
  constructor
  · rintro ⟨h1, h2⟩
    exact ⟨h1, fun v hv sv ev => h2 v hv ((kw_nxt_iff hv).mpr ⟨sv, ev⟩)⟩
  · rintro ⟨h1, h2⟩
    exact ⟨h1, fun v hv xv => h2 v hv ((kw_nxt_iff hv).mp xv).1 ((kw_nxt_iff hv).mp xv).2⟩
theorem kw_sh_bt {g ar : Int32} {w v : Nat} : ∀ n, (bt (kw_sh ce g ar w n) v = true ↔ bt ar v = true ∧ ∀ a, a < n → bt g a = true → bt (ce (16 * a + w)) v = true) := by
  intro n
  induction n with
  | zero => exact ⟨fun h => ⟨h, fun a ha => absurd ha (by omega)⟩, fun h => h.1⟩
  | succ n ih =>
    have key : bt (kw_sh ce g ar w (n + 1)) v = true ↔ bt (kw_sh ce g ar w n) v = true ∧ (bt g n = true → bt (ce (16 * n + w)) v = true) := by
      rw [kw_sh]
      cases e : bt g n
      · simp
      · rw [if_pos rfl, b_and]; simp
    rw [key, ih]
    constructor
    · rintro ⟨⟨h1, h2⟩, h3⟩
      refine ⟨h1, fun a ha => ?_⟩
      by_cases e : a = n
      · rw [e]; exact h3
      · exact h2 a (by omega)
    · rintro ⟨h1, h2⟩
      exact ⟨⟨h1, fun a ha => h2 a (by omega)⟩, h2 n (by omega)⟩
theorem kw_eq8 (hS : kw_S wt) (hC : kw_CE wt ce co) {set f g : Int32} (hset : kw_sub set wt) {w : Nat} (hw : w < 16) : bt (kw_kt ce g f set) w = (bt set w && decide (kw_nx co set g false w &&& (f ^^^ (-1)) = 0)) := by
  have hSa : kw_S set := kw_sub_S hset hS
  rw [kw_kt, kw_rm_bt (by omega) (by omega), decide_eq_true hw, Bool.true_and, Bool.not_not]
  cases sw : bt set w
  · rfl
  · rw [Bool.true_and, Bool.true_and]
    have hSs : kw_S (kw_sh ce g set w 3) := fun i hi => by
      cases e : bt (kw_sh ce g set w 3) i
      · rfl
      · have := ((kw_sh_bt 3).mp e).1
        rw [hSa i hi] at this
        exact this.symm
    refine kw_bT _ (kw_see hSs) ?_
    rw [kw_see kw_nx_S]
    constructor
    · intro h v hv xv
      obtain ⟨z1, z2⟩ := (kw_sh_bt 3).mp xv
      exact h v hv ((kw_nxf_iff hv).mpr ⟨z1, fun a ha ga => by rw [← hC a ha w v hw hv (hset w sw) (hset v z1)]; exact z2 a ha ga⟩)
    · intro h v hv xv
      obtain ⟨z1, z2⟩ := (kw_nxf_iff hv).mp xv
      exact h v hv ((kw_sh_bt 3).mpr ⟨z1, fun a ha ga => by rw [hC a ha w v hw hv (hset w sw) (hset v z1)]; exact z2 a ha ga⟩)
theorem kw_g17 : ∀ p, 1 ≤ p → p ≤ 7 → ∃ a, a < 3 ∧ bt (nI p) a = true := by
  intro p h1 h7
  have : ∀ p, p < 8 → 1 ≤ p → (bt (nI p) 0 || bt (nI p) 1 || bt (nI p) 2) = true := by decide +kernel
  have := this p (by omega) h1
  rw [Bool.or_eq_true, Bool.or_eq_true] at this
  rcases this with (h | h) | h
  · exact ⟨0, by omega, h⟩
  · exact ⟨1, by omega, h⟩
  · exact ⟨2, by omega, h⟩
theorem kw_rc_S {set g : Int32} {w : Nat} (hw : w < 16) : ∀ t, kw_S (kw_rc co set g w t) := by
  intro t
  induction t with
  | zero =>
    intro i hi
    by_cases z : i < 32
    · rw [kw_rc, kw_one (by omega) z, decide_eq_false (by omega)]
    · exact b_big (by omega)
  | succ t ih =>
    rw [kw_rc]
    by_cases z : bt (kw_rc co set g w t) (t % 16) = true
    · rw [if_pos z]; exact kw_S_or ih kw_nx_S
    · rw [if_neg z]; exact ih
theorem kw_rc_iff {set g : Int32} {w : Nat} (t v : Nat) (hv : v < 16) : bt (kw_rc co set g w (t + 1)) v = true ↔ bt (kw_rc co set g w t) v = true ∨ (bt (kw_rc co set g w t) (t % 16) = true ∧ bt set v = true ∧ kw_Eg co g (t % 16) v) := by
  rw [kw_rc]
  by_cases z : bt (kw_rc co set g w t) (t % 16) = true
  · rw [if_pos z, b_or, Bool.or_eq_true, kw_nxt_iff hv]
    constructor
    · rintro (h | h)
      · exact Or.inl h
      · exact Or.inr ⟨z, h⟩
    · rintro (h | h)
      · exact Or.inl h
      · exact Or.inr h.2
  · rw [if_neg z]
    exact ⟨Or.inl, fun h => h.elim id fun q => absurd q.1 z⟩
theorem kw_eq7 (hS : kw_S wt) (hC : kw_CE wt ce co) {set f g : Int32} (hset : kw_sub set wt) (hf : kw_sub f set) (hg : ∃ a, a < 3 ∧ bt g a = true) {w : Nat} (hw : w < 16) : bt (kw_ck ce g f set 15) w = (bt set w && decide (kw_rc co set g w 256 &&& (f ^^^ (-1)) = 0)) := by
  have hP : ∀ n w, w < 16 → (bt (kw_ck ce g f set (n + 1)) w = true ↔ bt set w = true ∧ ∀ v, v < 16 → bt set v = true → kw_Eg co g w v → bt (kw_ck ce g f set n) v = true) := fun n w hw => by
    rw [kw_ck]; exact kw_ak_iff hS hC hset hw
  obtain ⟨hcl, hle⟩ := kw_gfp (S := bt set) (E := kw_Eg co g) (P := fun n => bt (kw_ck ce g f set n)) hP (fun w _ h => hf w h) (fun w hw _ => by
    obtain ⟨a, ha, ga⟩ := hg
    exact ⟨a, ha, ga, kw_R_rf⟩)
  refine kw_bT _ Iff.rfl ?_
  rw [Bool.and_eq_true, kw_see (kw_rc_S hw 256)]
  have h0 : ∀ v, v < 16 → (bt (kw_rc co set g w 0) v = true ↔ v = w) := fun v hv => by
    rw [kw_rc, kw_one (by omega) (by omega), decide_eq_true_eq]
  constructor
  · rintro ⟨sw, h⟩
    have hqs : ∀ t v, v < 16 → bt (kw_rc co set g w t) v = true → bt set v = true := by
      intro t
      induction t with
      | zero => intro v hv h; rw [(h0 v hv).mp h]; exact sw
      | succ t ih =>
        intro v hv h
        rcases (kw_rc_iff t v hv).mp h with z | z
        · exact ih v hv z
        · exact z.2.1
    have hqw : ∀ t, bt (kw_rc co set g w t) w = true := by
      intro t
      induction t with
      | zero => exact (h0 w hw).mpr rfl
      | succ t ih => exact (kw_rc_iff t w hw).mpr (Or.inl ih)
    have hc := kw_lfp (S := bt set) (E := kw_Eg co g) (Q := fun t => bt (kw_rc co set g w t)) (fun t v hv => kw_rc_iff t v hv) ⟨w, hw, hqw 0⟩
    have hall : ∀ n v, v < 16 → bt (kw_rc co set g w 256) v = true → bt (kw_ck ce g f set n) v = true := by
      intro n
      induction n with
      | zero => exact h
      | succ n ih => exact fun x hx hq => (hP n x hx).mpr ⟨hqs 256 x hx hq, fun v hv sv ev => ih v hv (hc x hx hq v hv sv ev)⟩
    exact hall 15 w hw (hqw 256)
  · intro h
    refine ⟨((hP 14 w hw).mp h).1, fun v hv hq => hle v hv ?_⟩
    have hin : ∀ t v, v < 16 → bt (kw_rc co set g w t) v = true → bt (kw_ck ce g f set 15) v = true := by
      intro t
      induction t with
      | zero => intro v hv z; rw [(h0 v hv).mp z]; exact h
      | succ t ih =>
        intro v hv z
        rcases (kw_rc_iff t v hv).mp z with z | ⟨z1, z2, z3⟩
        · exact ih v hv z
        · exact hcl (t % 16) (by omega) (ih (t % 16) (by omega) z1) v hv z2 z3
    exact hin 256 v hv hq
end
