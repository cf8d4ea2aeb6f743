def kw_t1 (th : Int32) (co : Nat → Int32) (q : Nat → Nat → Bool) (a w v : Nat) : Bool := kw_ex (fun x => bt th x && kw_R co a w x && kw_al (fun y => !bt th y || !kw_R co a v y || q x y) 16) 16
def kw_tl (th : Int32) (co : Nat → Int32) (q : Nat → Nat → Bool) (w v : Nat) : Bool := kw_ex (fun a => kw_t1 th co q a w v || kw_t1 th co q a v w) 3
def kw_ap (th : Int32) (fa co : Nat → Int32) : Nat → Nat → Nat → Bool
  | 0 => fun w v => decide (fa w ≠ fa v)
  | n + 1 => fun w v => kw_ap th fa co n w v || kw_tl th co (kw_ap th fa co n) w v
theorem kw_t1_cg {th : Int32} {co : Nat → Int32} {q q' : Nat → Nat → Bool} (h : ∀ x y, x < 16 → y < 16 → bt th x = true → bt th y = true → q x y = q' x y) (a w v : Nat) : kw_t1 th co q a w v = kw_t1 th co q' a w v := by
  unfold kw_t1
  apply kw_ex_cg
  intro x hx
  cases e : bt th x
  · rfl
  · congr 1
    apply kw_al_cg
    intro y hy
    cases e2 : bt th y
    · rfl
    · rw [h x y hx hy e e2]
theorem kw_tl_cg {th : Int32} {co : Nat → Int32} {q q' : Nat → Nat → Bool} (h : ∀ x y, x < 16 → y < 16 → bt th x = true → bt th y = true → q x y = q' x y) (w v : Nat) : kw_tl th co q w v = kw_tl th co q' w v := by
  unfold kw_tl
  apply kw_ex_cg
  intro a _
  rw [kw_t1_cg h, kw_t1_cg h]
theorem kw_t1_iff {th : Int32} {co : Nat → Int32} {q : Nat → Nat → Bool} {a w v : Nat} : kw_t1 th co q a w v = true ↔ ∃ x, x < 16 ∧ bt th x = true ∧ kw_R co a w x = true ∧ ∀ y, y < 16 → bt th y = true → kw_R co a v y = true → q x y = true := by
  unfold kw_t1
  rw [kw_ex_iff]
  constructor
  · rintro ⟨x, hx, h⟩
    simp only [Bool.and_eq_true] at h
    refine ⟨x, hx, h.1.1, h.1.2, fun y hy h1 h2 => ?_⟩
    have := kw_al_iff.mp h.2 y hy
    rw [h1, h2] at this
    simpa using this
  · rintro ⟨x, hx, h1, h2, h3⟩
    refine ⟨x, hx, ?_⟩
    rw [h1, h2]
    simp only [Bool.true_and]
    rw [kw_al_iff]
    intro y hy
    cases e1 : bt th y
    · rfl
    · cases e2 : kw_R co a v y
      · rfl
      · rw [h3 y hy e1 e2]; rfl
theorem kw_tl_iff {th : Int32} {co : Nat → Int32} {q : Nat → Nat → Bool} {w v : Nat} : kw_tl th co q w v = true ↔ ∃ a, a < 3 ∧ (kw_t1 th co q a w v = true ∨ kw_t1 th co q a v w = true) := by
  unfold kw_tl
  rw [kw_ex_iff]
  constructor
  · rintro ⟨a, ha, h⟩
    rw [Bool.or_eq_true] at h
    exact ⟨a, ha, h⟩
  · rintro ⟨a, ha, h⟩
    exact ⟨a, ha, by rw [Bool.or_eq_true]; exact h⟩
theorem kw_R_rf {co : Nat → Int32} {a w : Nat} : kw_R co a w w = true := decide_eq_true rfl
section
variable {th : Int32} {fa co : Nat → Int32}
theorem kw_ap_s (n w v : Nat) : kw_ap th fa co (n + 1) w v = (kw_ap th fa co n w v || kw_tl th co (kw_ap th fa co n) w v) := rfl
theorem kw_ap_mono {n w v : Nat} (h : kw_ap th fa co n w v = true) : kw_ap th fa co (n + 1) w v = true := by rw [kw_ap_s, h]; rfl
theorem kw_ap_mono' {n m w v : Nat} (hnm : n ≤ m) (h : kw_ap th fa co n w v = true) : kw_ap th fa co m w v = true := by
  induction m with
  | zero => have : n = 0 := by omega
            rw [this] at h; exact h
  | succ m ih =>
    by_cases e : n = m + 1
    · rw [← e]; exact h
    · exact kw_ap_mono (ih (by omega))
theorem kw_ap_sym (n : Nat) : ∀ w v, kw_ap th fa co n w v = kw_ap th fa co n v w := by
  induction n with
  | zero =>
    intro w v
    show decide (fa w ≠ fa v) = decide (fa v ≠ fa w)
    by_cases e : fa w = fa v
    · rw [e]
    · have z1 : fa w ≠ fa v := e
      have z2 : fa v ≠ fa w := fun z => e z.symm
      rw [decide_eq_true z1, decide_eq_true z2]
  | succ n ih =>
    intro w v
    rw [kw_ap_s, kw_ap_s, ih w v]
    congr 1
    unfold kw_tl
    apply kw_ex_cg
    intro a _
    rw [Bool.or_comm]
theorem kw_ap_rf (n : Nat) : ∀ w, w < 16 → bt th w = true → kw_ap th fa co n w w = false := by
  induction n with
  | zero => intro w _ _; exact decide_eq_false (fun z => z rfl)
  | succ n ih =>
    intro w hw hb
    rw [kw_ap_s, ih w hw hb, Bool.false_or]
    cases e : kw_tl th co (kw_ap th fa co n) w w
    · rfl
    · obtain ⟨a, ha, h⟩ := kw_tl_iff.mp e
      have h : kw_t1 th co (kw_ap th fa co n) a w w = true := h.elim id id
      obtain ⟨x, hx, h1, h2, h3⟩ := kw_t1_iff.mp h
      have := h3 x hx h1 h2
      rw [ih x hx h1] at this
      exact this.symm
theorem kw_ap_tr1 {q : Nat → Nat → Bool} (ih : ∀ w v u, w < 16 → v < 16 → u < 16 → bt th w = true → bt th v = true → bt th u = true → q w v = false → q v u = false → q w u = false) {a w v u : Nat} (h1 : kw_t1 th co q a w v = false) (h2 : kw_t1 th co q a v u = false) : kw_t1 th co q a w u = false := by
  cases e : kw_t1 th co q a w u
  · rfl
  · obtain ⟨x, hx, e1, e2, e3⟩ := kw_t1_iff.mp e
    have f1 : ∃ y, y < 16 ∧ bt th y = true ∧ kw_R co a v y = true ∧ q x y = false := by
      apply Classical.byContradiction
      intro z
      rw [kw_t1_iff.mpr ⟨x, hx, e1, e2, fun y hy g1 g2 => by
        cases g : q x y
        · exact absurd ⟨y, hy, g1, g2, g⟩ z
        · rfl⟩] at h1
      exact absurd h1 (by decide)
    obtain ⟨y, hy, g1, g2, g3⟩ := f1
    have f2 : ∃ y', y' < 16 ∧ bt th y' = true ∧ kw_R co a u y' = true ∧ q y y' = false := by
      apply Classical.byContradiction
      intro z
      rw [kw_t1_iff.mpr ⟨y, hy, g1, g2, fun y' hy' k1 k2 => by
        cases g : q y y'
        · exact absurd ⟨y', hy', k1, k2, g⟩ z
        · rfl⟩] at h2
      exact absurd h2 (by decide)
    obtain ⟨y', hy', k1, k2, k3⟩ := f2
    have := ih x y y' hx hy hy' e1 g1 k1 g3 k3
    rw [e3 y' hy' k1 k2] at this
    exact this
theorem kw_ap_tr (n : Nat) : ∀ w v u, w < 16 → v < 16 → u < 16 → bt th w = true → bt th v = true → bt th u = true → kw_ap th fa co n w v = false → kw_ap th fa co n v u = false → kw_ap th fa co n w u = false := by
  induction n with
  | zero =>
    intro w v u _ _ _ _ _ _ h1 h2
    have h1 : ¬ fa w ≠ fa v := of_decide_eq_false h1
    have h2 : ¬ fa v ≠ fa u := of_decide_eq_false h2
    refine decide_eq_false (fun z => ?_)
    apply z
    rw [Classical.not_not.mp h1, Classical.not_not.mp h2]
  | succ n ih =>
    intro w v u hw hv hu bw bv bu h1 h2
    rw [kw_ap_s, Bool.or_eq_false_iff] at h1 h2
    rw [kw_ap_s, Bool.or_eq_false_iff]
    refine ⟨ih w v u hw hv hu bw bv bu h1.1 h2.1, ?_⟩
    have t1 := kw_ex_f.mp h1.2
    have t2 := kw_ex_f.mp h2.2
    refine kw_ex_f.mpr fun a ha => ?_
    have t1 := t1 a ha
    have t2 := t2 a ha
    rw [Bool.or_eq_false_iff] at t1 t2
    rw [Bool.or_eq_false_iff]
    exact ⟨kw_ap_tr1 ih t1.1 t2.1, kw_ap_tr1 ih t2.2 t1.2⟩
def kw_stb (th : Int32) (fa co : Nat → Int32) (n : Nat) : Prop := ∀ w v, w < 16 → v < 16 → bt th w = true → bt th v = true → kw_ap th fa co (n + 1) w v = kw_ap th fa co n w v
theorem kw_stb_s {n : Nat} (h : kw_stb th fa co n) : kw_stb th fa co (n + 1) := by
  intro w v hw hv bw bv
  rw [kw_ap_s (n + 1), kw_tl_cg (q' := kw_ap th fa co n) (fun x y hx hy bx bY => h x y hx hy bx bY), kw_ap_s n]
  cases kw_ap th fa co n w v <;> cases kw_tl th co (kw_ap th fa co n) w v <;> rfl
def kw_lw (th : Int32) (fa co : Nat → Int32) (n w : Nat) : Bool := bt th w && kw_al (fun v => !(bt th v && !kw_ap th fa co n w v)) w
theorem kw_lw_iff {n w : Nat} : kw_lw th fa co n w = true ↔ bt th w = true ∧ ∀ v, v < w → bt th v = true → kw_ap th fa co n w v = true := by
  unfold kw_lw
  rw [Bool.and_eq_true, kw_al_iff]
  constructor
  · rintro ⟨h1, h2⟩
    refine ⟨h1, fun v hv bv => ?_⟩
    have := h2 v hv
    rw [bv] at this
    simpa using this
  · rintro ⟨h1, h2⟩
    refine ⟨h1, fun v hv => ?_⟩
    cases e : bt th v
    · rfl
    · rw [h2 v hv e]; rfl
theorem kw_lw_ex (n : Nat) {w : Nat} (hw : w < 16) (bw : bt th w = true) : ∃ m, m < 16 ∧ bt th m = true ∧ kw_ap th fa co n w m = false ∧ kw_lw th fa co n m = true := by
  obtain ⟨m, ⟨hm, bm, am⟩, hl⟩ := pk_least (fun m => m < 16 ∧ bt th m = true ∧ kw_ap th fa co n w m = false) ⟨w, hw, bw, kw_ap_rf n w hw bw⟩
  refine ⟨m, hm, bm, am, kw_lw_iff.mpr ⟨bm, fun v hv bv => ?_⟩⟩
  cases e : kw_ap th fa co n m v
  · exact absurd ⟨by omega, bv, kw_ap_tr n w m v hw hm (by omega) bw bm bv am e⟩ (hl v hv)
  · rfl
theorem kw_stb_of {n : Nat} (h : ∀ w, w < 16 → kw_lw th fa co (n + 1) w = true → kw_lw th fa co n w = true) : kw_stb th fa co n := by
  intro w v hw hv bw bv
  cases e : kw_ap th fa co n w v
  · obtain ⟨m, hm, bm, am, lm⟩ := kw_lw_ex (th := th) (fa := fa) (co := co) (n + 1) hw bw
    obtain ⟨m', hm', bm', am', lm'⟩ := kw_lw_ex (th := th) (fa := fa) (co := co) (n + 1) hv bv
    have nf : ∀ x y, kw_ap th fa co (n + 1) x y = false → kw_ap th fa co n x y = false := fun x y z => by
      rw [kw_ap_s, Bool.or_eq_false_iff] at z; exact z.1
    have q1 := nf _ _ am
    have q2 := nf _ _ am'
    have q3 : kw_ap th fa co n w m' = false := kw_ap_tr n w v m' hw hv hm' bw bv bm' e q2
    have q4 : kw_ap th fa co n m m' = false := kw_ap_tr n m w m' hm hw hm' bm bw bm' (by rw [kw_ap_sym]; exact q1) q3
    have l1 := (kw_lw_iff.mp (h m hm lm)).2
    have l2 := (kw_lw_iff.mp (h m' hm' lm')).2
    have em : m = m' := by
      rcases Nat.lt_trichotomy m m' with z | z | z
      · have := l2 m z bm
        rw [kw_ap_sym, q4] at this
        exact absurd this (by decide)
      · exact z
      · have := l1 m' z bm'
        rw [q4] at this
        exact absurd this (by decide)
    subst em
    exact kw_ap_tr (n + 1) w m v hw hm hv bw bm bv am (by rw [kw_ap_sym]; exact am')
  · exact kw_ap_mono e
theorem kw_stb_or (hne : ∃ w, w < 16 ∧ bt th w = true) (n : Nat) : kw_stb th fa co n ∨ n + 1 ≤ kw_c (kw_lw th fa co n) 16 := by
  induction n with
  | zero =>
    right
    obtain ⟨w, hw, bw⟩ := hne
    obtain ⟨m, hm, bm, am, lm⟩ := kw_lw_ex (th := th) (fa := fa) (co := co) 0 hw bw
    have := kw_c_lt (p := fun _ => false) (q := kw_lw th fa co 0) (n := 16) (fun _ _ z => (nomatch z)) hm rfl lm
    omega
  | succ n ih =>
    rcases ih with h | h
    · exact Or.inl (kw_stb_s h)
    · by_cases z : ∀ w, w < 16 → kw_lw th fa co (n + 1) w = true → kw_lw th fa co n w = true
      · exact Or.inl (kw_stb_s (kw_stb_of z))
      · right
        obtain ⟨w, z⟩ := Classical.not_forall.mp z
        have hw : w < 16 := Classical.byContradiction fun g => z fun h => absurd h g
        have h1 : kw_lw th fa co (n + 1) w = true := by
          cases e : kw_lw th fa co (n + 1) w
          · exact absurd (fun _ h => by rw [e] at h; exact (nomatch h)) z
          · rfl
        have h0 : kw_lw th fa co n w = false := by
          cases e : kw_lw th fa co n w
          · rfl
          · exact absurd (fun _ _ => e) z
        have := kw_c_lt (p := kw_lw th fa co n) (q := kw_lw th fa co (n + 1)) (n := 16) (fun i hi l => by
          rw [kw_lw_iff] at l ⊢
          exact ⟨l.1, fun v hv bv => kw_ap_mono (l.2 v hv bv)⟩) hw h0 h1
        omega
theorem kw_stb15 (hne : ∃ w, w < 16 ∧ bt th w = true) : kw_stb th fa co 15 := by
  rcases kw_stb_or (fa := fa) (co := co) hne 15 with h | h
  · exact h
  · have hl := kw_c_full h
    intro w v hw hv bw bv
    cases e : kw_ap th fa co 15 w v
    · have ewv : w = v := by
        rcases Nat.lt_trichotomy w v with z | z | z
        · have := (kw_lw_iff.mp (hl v hv)).2 w z bw
          rw [kw_ap_sym, e] at this
          exact absurd this (by decide)
        · exact z
        · have := (kw_lw_iff.mp (hl w hw)).2 v z bv
          rw [e] at this
          exact absurd this (by decide)
      rw [ewv]
      exact kw_ap_rf 16 v hv bv
    · exact kw_ap_mono e
theorem kw_ap15 (hne : ∃ w, w < 16 ∧ bt th w = true) {n w v : Nat} (hn : 15 ≤ n) (hw : w < 16) (hv : v < 16) (bw : bt th w = true) (bv : bt th v = true) : kw_ap th fa co n w v = kw_ap th fa co 15 w v := by
  have hs : ∀ k, kw_stb th fa co (15 + k) := by
    intro k
    induction k with
    | zero => exact kw_stb15 hne
    | succ k ih => exact kw_stb_s ih
  obtain ⟨k, rfl⟩ : ∃ k, n = 15 + k := ⟨n - 15, by omega⟩
  clear hn
  induction k with
  | zero => rfl
  | succ k ih => rw [← ih]; exact hs k w v hw hv bw bv
end
