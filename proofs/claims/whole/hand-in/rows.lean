section
theorem pk_us {f : Nat → Int32} {k : Nat} {x : Int32} : upd f k x k = x := if_pos rfl
theorem pk_un {f : Nat → Int32} {k j : Nat} {x : Int32} (h : j ≠ k) : upd f k x j = f j := if_neg h
theorem pk_sub {a b : Nat} (h : b ≤ a) : nI a - nI b = nI (a - b) := by
  obtain ⟨c, rfl⟩ : ∃ c, a = c + b := ⟨a - b, by omega⟩
  rw [← nI_add, Int32.add_sub_cancel, Nat.add_sub_cancel]
theorem pk_m1 (n : Nat) : nI (n + 1) + (-1) = nI n := by
  rw [← nI_1, Int32.add_assoc, show (1 : Int32) + (-1) = 0 from rfl, Int32.add_zero]
theorem pk_mul (a b : Nat) : nI a * nI b = nI (a * b) := (Int32.ofNat_mul a b).symm
theorem pk_div {a d : Nat} (ha : a < 2 ^ 31) (h0 : 0 < d) (hd : d < 2 ^ 31) : nI a / nI d = nI (a / d) := by
  apply Int32.toInt_inj.mp
  rw [lg_idiv_nonneg (by rw [nI_toInt ha]; omega) (by rw [nI_toInt hd]; omega), nI_toInt ha, nI_toInt hd, nI_toInt (Nat.lt_of_le_of_lt (Nat.div_le_self a d) ha)]
  first | rfl | exact (Int.natCast_ediv _ _).symm
theorem pk_rem {a d : Nat} (ha : a < 2 ^ 31) (h0 : 0 < d) (hd : d < 2 ^ 31) : nI a - nI a / nI d * nI d = nI (a % d) := by
  rw [pk_div ha h0 hd, pk_mul, pk_sub (Nat.div_mul_le_self a d)]
  exact congrArg nI (by have := Nat.div_add_mod' a d; omega)
theorem pk_ix (x : Int32) {n : Nat} (hn : n < 2 ^ 31) : x < 0 ∨ nI n ≤ x ∨ ∃ j : Nat, j < n ∧ x = nI j := by
  by_cases h : x < 0
  · exact Or.inl h
  · obtain ⟨j, hj, rfl⟩ := nI_of h
    by_cases h2 : j < n
    · exact Or.inr (Or.inr ⟨j, h2, rfl⟩)
    · exact Or.inr (Or.inl (nI_le (by omega) hj))
theorem pk_le {x y : Int32} {A B : Prop} (a b : Nat) (f : a ≤ b → A) (g : b < a → B) (hx : x = nI a := by rfl) (hy : y = nI b := by rfl) (ha : a < 2 ^ 31 := by omega) (hb : b < 2 ^ 31 := by omega) : (x ≤ y → A) ∧ (¬ x ≤ y → B) := by
  subst hx hy
  rw [nI_leI ha hb]
  exact ⟨f, fun z => g (by omega)⟩
theorem pk_lt {x y : Int32} {A B : Prop} (a b : Nat) (f : a < b → A) (g : b ≤ a → B) (hx : x = nI a := by rfl) (hy : y = nI b := by rfl) (ha : a < 2 ^ 31 := by omega) (hb : b < 2 ^ 31 := by omega) : (x < y → A) ∧ (¬ x < y → B) := by
  subst hx hy
  rw [nI_ltI ha hb]
  exact ⟨f, fun z => g (by omega)⟩
theorem pk_eq {x y : Int32} {A B : Prop} (a b : Nat) (f : a = b → A) (g : a ≠ b → B) (hx : x = nI a := by rfl) (hy : y = nI b := by rfl) (ha : a < 2 ^ 31 := by omega) (hb : b < 2 ^ 31 := by omega) : (x = y → A) ∧ (¬ x = y → B) := by
  subst hx hy
  rw [nI_eq ha hb]
  exact ⟨f, g⟩
theorem pk_in {x : Int32} (n N : Nat) (h : n < N) (hx : x = nI n := by rfl) (hN : N < 2 ^ 31 := by omega) : vp_in x N := by
  subst hx
  exact vp_in_nI h hN
theorem pk_cl {x : Int32} (n : Nat) (hx : x = nI n := by rfl) (h : n < 2 ^ 31 := by omega) : x.toNatClampNeg = n := by
  subst hx
  exact nI_clamp h
theorem pk_tn {n : Nat} (h : n < 2 ^ 32) : (nI n).toBitVec.toNat = n := Nat.mod_eq_of_lt h
theorem pk_loop {σ : Type} (W : Nat → Nat → σ → Prop) (I : Nat → σ → Prop) (e i0 : Nat) (s : σ) (hi : i0 ≤ e) (h0 : I i0 s) (hx : ∀ n s, I e s → W (n + 1) e s)
    (hs : ∀ n i s, i < e → I i s → (∀ s', I (i + 1) s' → W n (i + 1) s') → W (n + 1) i s) : ∃ n, W n i0 s :=
  ⟨e + 1, loop_i W I e hx hs (e + 1) i0 s hi (by omega) h0⟩
theorem pk_least (P : Nat → Prop) (h : ∃ k, P k) : ∃ k, P k ∧ ∀ j, j < k → ¬ P j := by
  obtain ⟨k, hk⟩ := h
  induction k using Nat.strongRecOn with
  | ind k ih =>
    by_cases e : ∃ j, j < k ∧ P j
    · obtain ⟨j, hj, pj⟩ := e
      exact ih j hj pj
    · exact ⟨k, hk, fun j hj pj => e ⟨j, hj, pj⟩⟩
def bt (x : Int32) (i : Nat) : Bool := x.toBitVec.getLsbD i
theorem b_ext {x y : Int32} (h : ∀ i, i < 32 → bt x i = bt y i) : x = y := Int32.toBitVec_inj.mp (BitVec.eq_of_getLsbD_eq (fun i hi => h i hi))
theorem b_or (x y : Int32) (i : Nat) : bt (x ||| y) i = (bt x i || bt y i) := by unfold bt; rw [Int32.toBitVec_or, BitVec.getLsbD_or]
theorem b_and (x y : Int32) (i : Nat) : bt (x &&& y) i = (bt x i && bt y i) := by unfold bt; rw [Int32.toBitVec_and, BitVec.getLsbD_and]
theorem b_xor (x y : Int32) (i : Nat) : bt (x ^^^ y) i = (bt x i ^^ bt y i) := by unfold bt; rw [Int32.toBitVec_xor, BitVec.getLsbD_xor]
theorem b_big {x : Int32} {i : Nat} (h : 32 ≤ i) : bt x i = false := BitVec.getLsbD_of_ge _ _ h
theorem b_65535 (i : Nat) : bt 65535 i = decide (i < 16) := by
  rcases Nat.lt_or_ge i 32 with h | h
  · exact (by decide +kernel : ∀ i, i < 32 → bt 65535 i = decide (i < 16)) i h
  · rw [b_big h, decide_eq_false (by omega)]
theorem b_m1 : ∀ i, i < 32 → bt (-1) i = true := by decide +kernel
theorem b_0 (i : Nat) : bt 0 i = false := BitVec.getLsbD_zero
theorem s_l : ∀ n, n < 32 → ((nI n &&& 31).toBitVec.smod 32).toNat = n := by decide +kernel
theorem s_u : ∀ n, n < 32 → (((nI n).toUInt32 &&& Int32.toUInt32 31).toBitVec % 32).toNat = n := by decide +kernel
theorem b_shl (n : Nat) (hn : n < 32) (x : Int32) {i : Nat} (hi : i < 32) : bt (x <<< (nI n &&& 31)) i = (decide (n ≤ i) && bt x (i - n)) := by
  unfold bt
  rw [Int32.toBitVec_shiftLeft]
  show (x.toBitVec <<< ((nI n &&& 31).toBitVec.smod 32).toNat).getLsbD i = _
  rw [s_l n hn, BitVec.getLsbD_shiftLeft]
  rcases Nat.lt_or_ge i n with h | h
  · simp [h, Nat.not_le.mpr h]
  · simp [hi, h, Nat.not_lt.mpr h]
theorem b_sshr (n : Nat) (hn : n < 32) (x : Int32) {i : Nat} (hi : i < 32) : bt (x >>> (nI n &&& 31)) i = if n + i < 32 then bt x (n + i) else bt x 31 := by
  unfold bt
  rw [Int32.toBitVec_shiftRight]
  show (x.toBitVec.sshiftRight ((nI n &&& 31).toBitVec.smod 32).toNat).getLsbD i = _
  rw [s_l n hn, BitVec.getLsbD_sshiftRight, BitVec.msb_eq_getLsbD_last]
  simp [hi]
/-! ===== bits of a set of worlds ===== -/
def kw_b (b : Bool) : Int32 := if b then 1 else 0
theorem kw_b1 : kw_b true = 1 := rfl
theorem kw_b0 : kw_b false = 0 := rfl
theorem kw_b_inj {a b : Bool} : kw_b a = kw_b b ↔ a = b := by cases a <;> cases b <;> decide
theorem kw_br {A B : Prop} (b : Bool) (f : b = false → A) (g : b = true → B) : (kw_b b = 0 → A) ∧ (¬ kw_b b = 0 → B) := by
  cases b
  · exact ⟨fun _ => f rfl, fun h => absurd rfl h⟩
  · exact ⟨fun h => absurd h (by decide), fun _ => g rfl⟩
theorem kw_br2 {A B : Prop} (a b : Bool) (f : a = b → A) (g : a ≠ b → B) : (kw_b a = kw_b b → A) ∧ (¬ kw_b a = kw_b b → B) := by
  rw [kw_b_inj]
  exact ⟨f, g⟩
theorem kw_nar (b : Bool) : narrow .boolean (.int (kw_b b)) = .int (kw_b b) := by
  cases b
  · have h := lw_bz_n 0
    rw [show lw_bz 0 = kw_b false from by decide] at h
    exact h
  · have h := lw_bz_n 1
    rw [show lw_bz 1 = kw_b true from by decide] at h
    exact h
theorem kw_b_or (b : Bool) : kw_b b = 0 ∨ kw_b b = 1 := by cases b <;> decide
theorem b_1 : ∀ i, i < 32 → bt 1 i = decide (i = 0) := by decide +kernel
theorem kw_bb (b : Bool) {i : Nat} (hi : i < 32) : bt (kw_b b) i = (b && decide (i = 0)) := by
  cases b
  · exact b_0 i
  · exact b_1 i hi
theorem kw_bit (x : Int32) {m : Nat} (hm : m < 32) : (x >>> (nI m &&& 31)) &&& 1 = kw_b (bt x m) := by
  apply b_ext
  intro i hi
  rw [b_and, b_sshr m hm x hi, kw_bb _ hi, b_1 i hi]
  by_cases h : i = 0
  · subst h
    simp [hm]
  · simp [h]
theorem kw_not (x : Int32) {i : Nat} (hi : i < 32) : bt (x ^^^ (-1)) i = !bt x i := by
  rw [b_xor, b_m1 i hi]
  simp
theorem kw_one {m i : Nat} (hm : m < 32) (hi : i < 32) : bt ((1 : Int32) <<< (nI m &&& 31)) i = decide (i = m) := by
  rw [b_shl m hm 1 hi, b_1 _ (by omega)]
  by_cases h : i = m
  · subst h; simp
  · by_cases h2 : m ≤ i
    · simp [h, h2]; omega
    · simp [h, h2]
theorem kw_low : ∀ m, m < 16 → ∀ i, i < 32 → bt (((1 : Int32) <<< (nI m &&& 31)) - 1) i = decide (i < m) := by decide +kernel
theorem kw_zero {x : Int32} : x = 0 ↔ ∀ i, i < 32 → bt x i = false := by
  constructor
  · intro h i _
    rw [h]; exact b_0 i
  · intro h
    apply b_ext
    intro i hi
    rw [h i hi, b_0]
def kw_S (x : Int32) : Prop := ∀ i, 16 ≤ i → bt x i = false
theorem kw_zero16 {x y : Int32} (h : kw_S x) : x &&& y = 0 ↔ ∀ i, i < 16 → bt x i = true → bt y i = false := by
  rw [kw_zero]
  constructor
  · intro g i hi hx
    have := g i (by omega)
    rw [b_and, hx] at this
    simpa using this
  · intro g i hi
    rw [b_and]
    by_cases h2 : i < 16
    · cases hx : bt x i
      · rfl
      · rw [g i h2 hx]; rfl
    · rw [h i (by omega)]; rfl
theorem kw_ext16 {x y : Int32} (hx : kw_S x) (hy : kw_S y) (h : ∀ i, i < 16 → bt x i = bt y i) : x = y := by
  apply b_ext
  intro i _
  by_cases h2 : i < 16
  · exact h i h2
  · rw [hx i (by omega), hy i (by omega)]
theorem kw_S_and {x y : Int32} (h : kw_S x) : kw_S (x &&& y) := fun i hi => by rw [b_and, h i hi]; rfl
theorem kw_S_and' {x y : Int32} (h : kw_S y) : kw_S (x &&& y) := fun i hi => by rw [b_and, h i hi, Bool.and_false]
theorem kw_S_or {x y : Int32} (h : kw_S x) (g : kw_S y) : kw_S (x ||| y) := fun i hi => by rw [b_or, h i hi, g i hi]; rfl
theorem kw_S_0 : kw_S 0 := fun i _ => b_0 i
theorem kw_S_all : kw_S 65535 := fun i hi => by rw [b_65535, decide_eq_false (by omega)]
/-- x is a part of y -/
def kw_sub (x y : Int32) : Prop := ∀ i, bt x i = true → bt y i = true
theorem kw_sub_S {x y : Int32} (h : kw_sub x y) (g : kw_S y) : kw_S x := fun i hi => by
  cases hx : bt x i
  · rfl
  · have := h i hx
    rw [g i hi] at this
    exact this.symm
theorem kw_sub_tr {x y z : Int32} (h : kw_sub x y) (g : kw_sub y z) : kw_sub x z := fun i hi => g i (h i hi)
theorem kw_sub_rf (x : Int32) : kw_sub x x := fun _ h => h
theorem kw_sub_and {x y : Int32} : kw_sub x y ↔ y &&& x = x := by
  constructor
  · intro h
    apply b_ext
    intro i _
    rw [b_and]
    cases hx : bt x i
    · simp
    · simp [h i hx]
  · intro h i hi
    rw [← h, b_and] at hi
    simp at hi
    exact hi.1
/-! ===== all, some, how many, the set of a predicate ===== -/
def kw_al (p : Nat → Bool) : Nat → Bool
  | 0 => true
  | n + 1 => kw_al p n && p n
def kw_ex (p : Nat → Bool) : Nat → Bool
  | 0 => false
  | n + 1 => kw_ex p n || p n
def kw_c (p : Nat → Bool) : Nat → Nat
  | 0 => 0
  | n + 1 => kw_c p n + (if p n then 1 else 0)
def kw_mk (p : Nat → Bool) : Nat → Int32
  | 0 => 0
  | n + 1 => if p n then kw_mk p n ||| ((1 : Int32) <<< (nI n &&& 31)) else kw_mk p n
theorem kw_al_iff {p : Nat → Bool} {n : Nat} : kw_al p n = true ↔ ∀ i, i < n → p i = true := by
  induction n with
  | zero => exact ⟨fun _ i hi => absurd hi (by omega), fun _ => rfl⟩
  | succ n ih =>
    rw [kw_al, Bool.and_eq_true, ih]
    constructor
    · intro h i hi
      by_cases e : i = n
      · rw [e]; exact h.2
      · exact h.1 i (by omega)
    · intro h
      exact ⟨fun i hi => h i (by omega), h n (by omega)⟩
theorem kw_ex_iff {p : Nat → Bool} {n : Nat} : kw_ex p n = true ↔ ∃ i, i < n ∧ p i = true := by
  induction n with
  | zero => exact ⟨fun h => (nomatch h), fun ⟨i, hi, _⟩ => absurd hi (by omega)⟩
  | succ n ih =>
    rw [kw_ex, Bool.or_eq_true, ih]
    constructor
    · rintro (⟨i, hi, h⟩ | h)
      · exact ⟨i, by omega, h⟩
      · exact ⟨n, by omega, h⟩
    · rintro ⟨i, hi, h⟩
      by_cases e : i = n
      · rw [e] at h; exact Or.inr h
      · exact Or.inl ⟨i, by omega, h⟩
theorem kw_ex_f {p : Nat → Bool} {n : Nat} : kw_ex p n = false ↔ ∀ i, i < n → p i = false := by
  constructor
  · intro h i hi
    cases e : p i
    · rfl
    · rw [kw_ex_iff.mpr ⟨i, hi, e⟩] at h
      exact h
  · intro h
    cases e : kw_ex p n
    · rfl
    · obtain ⟨i, hi, g⟩ := kw_ex_iff.mp e
      rw [h i hi] at g
      exact g.symm
theorem kw_al_f {p : Nat → Bool} {n : Nat} : kw_al p n = false ↔ ∃ i, i < n ∧ p i = false := by
  constructor
  · intro h
    refine Classical.byContradiction fun g => ?_
    have : kw_al p n = true := kw_al_iff.mpr fun i hi => by
      cases e : p i
      · exact absurd ⟨i, hi, e⟩ g
      · rfl
    rw [this] at h
    exact nomatch h
  · rintro ⟨i, hi, h⟩
    cases e : kw_al p n
    · rfl
    · rw [kw_al_iff.mp e i hi] at h
      exact nomatch h
theorem kw_al_cg {p q : Nat → Bool} {n : Nat} (h : ∀ i, i < n → p i = q i) : kw_al p n = kw_al q n := by
  induction n with
  | zero => rfl
  | succ n ih => rw [kw_al, kw_al, ih fun i hi => h i (by omega), h n (by omega)]
theorem kw_ex_cg {p q : Nat → Bool} {n : Nat} (h : ∀ i, i < n → p i = q i) : kw_ex p n = kw_ex q n := by
  induction n with
  | zero => rfl
  | succ n ih => rw [kw_ex, kw_ex, ih fun i hi => h i (by omega), h n (by omega)]
theorem kw_c_cg {p q : Nat → Bool} {n : Nat} (h : ∀ i, i < n → p i = q i) : kw_c p n = kw_c q n := by
  induction n with
  | zero => rfl
  | succ n ih => rw [kw_c, kw_c, ih fun i hi => h i (by omega), h n (by omega)]
theorem kw_c_le {p : Nat → Bool} {n : Nat} : kw_c p n ≤ n := by
  induction n with
  | zero => exact Nat.le_refl 0
  | succ n ih =>
    rw [kw_c]
    split <;> omega
theorem kw_c_mono {p q : Nat → Bool} {n : Nat} (h : ∀ i, i < n → p i = true → q i = true) : kw_c p n ≤ kw_c q n := by
  induction n with
  | zero => exact Nat.le_refl 0
  | succ n ih =>
    rw [kw_c, kw_c]
    have := ih fun i hi => h i (by omega)
    cases e : p n
    · simp; omega
    · simp [h n (by omega) e]; exact this
theorem kw_c_lt {p q : Nat → Bool} {n k : Nat} (h : ∀ i, i < n → p i = true → q i = true) (hk : k < n) (hp : p k = false) (hq : q k = true) : kw_c p n < kw_c q n := by
  induction n with
  | zero => exact absurd hk (by omega)
  | succ n ih =>
    rw [kw_c, kw_c]
    by_cases e : k = n
    · subst e
      have := kw_c_mono (p := p) (q := q) (n := k) fun i hi => h i (by omega)
      rw [hp, hq]
      simp; omega
    · have := ih (fun i hi => h i (by omega)) (by omega)
      cases e : p n
      · simp; omega
      · simp [h n (by omega) e]; exact this
theorem kw_c_full {p : Nat → Bool} {n : Nat} (h : n ≤ kw_c p n) : ∀ i, i < n → p i = true := by
  intro i hi
  cases e : p i
  · have := kw_c_lt (p := p) (q := fun _ => true) (n := n) (fun _ _ _ => rfl) hi e rfl
    have := kw_c_le (p := fun _ => true) (n := n)
    omega
  · rfl
theorem kw_c_0 {p : Nat → Bool} {n : Nat} (h : kw_c p n = 0) : ∀ i, i < n → p i = false := by
  intro i hi
  cases e : p i
  · rfl
  · have := kw_c_lt (p := fun _ => false) (q := p) (n := n) (fun _ _ z => (nomatch z)) hi rfl e
    omega
theorem kw_mk_bt {p : Nat → Bool} {n : Nat} (hn : n ≤ 32) {i : Nat} (hi : i < 32) : bt (kw_mk p n) i = (decide (i < n) && p i) := by
  induction n with
  | zero => rw [kw_mk, b_0]; simp
  | succ n ih =>
    have ih := ih (by omega)
    rw [kw_mk]
    by_cases e : i = n
    · subst e
      cases hp : p i
      · simp [ih]
      · simp [b_or, kw_one hi hi]
    · have e2 : decide (i < n + 1) = decide (i < n) := by
        by_cases h : i < n
        · simp [h]; omega
        · simp [h]; omega
      cases hp : p n
      · simp [ih, e2]
      · simp [b_or, kw_one (m := n) (by omega) hi, ih, e2, e]
theorem kw_mk16 {p : Nat → Bool} {i : Nat} (hi : i < 16) : bt (kw_mk p 16) i = p i := by
  rw [kw_mk_bt (by omega) (by omega), decide_eq_true hi]; rfl
theorem kw_mk_S {p : Nat → Bool} : kw_S (kw_mk p 16) := fun i hi => by
  by_cases h : i < 32
  · rw [kw_mk_bt (by omega) h, decide_eq_false (by omega)]; rfl
  · exact b_big (by omega)
theorem kw_mk_cg {p q : Nat → Bool} {n : Nat} (h : ∀ i, i < n → p i = q i) : kw_mk p n = kw_mk q n := by
  induction n with
  | zero => rfl
  | succ n ih => rw [kw_mk, kw_mk, ih fun i hi => h i (by omega), h n (by omega)]
/-! ===== loops ===== -/
theorem kw_lp {σ : Type} (W : Nat → Nat → σ → Prop) (F : Nat → σ) (e i : Nat) (hi : i ≤ e) (hx : ∀ n, W (n + 1) e (F e)) (hs : ∀ n i, i < e → W n (i + 1) (F (i + 1)) → W (n + 1) i (F i)) : ∃ n, W n i (F i) :=
  pk_loop W (fun i s => s = F i) e i (F i) hi rfl (fun n s h => by rw [h]; exact hx n) (fun n i s hi h g => by rw [h]; exact hs n i hi (g _ rfl))
/-- a loop that leaves at the first i with p i -/
theorem kw_le (W : Nat → Nat → Prop) (p : Nat → Bool) (e : Nat) (hx : (∀ j, j < e → p j = false) → ∀ n, W (n + 1) e) (hs : ∀ n i, i < e → (∀ j, j < i → p j = false) → (p i = false → W n (i + 1)) → W (n + 1) i) : ∃ n, W n 0 :=
  pk_loop (σ := Unit) (fun n i _ => W n i) (fun i _ => ∀ j, j < i → p j = false) e 0 () (by omega) (fun j hj => absurd hj (by omega)) (fun n _ h => hx h n)
    (fun n i _ hi h g => hs n i hi h fun hp => g () fun j hj => by
      by_cases e : j = i
      · rw [e]; exact hp
      · exact h j (by omega))
def kw_mx (new old : Nat → Int32) (i : Nat) : Nat → Int32 := fun j => if j < i then new j else old j
theorem kw_mx_upd {new old : Nat → Int32} {i : Nat} : upd (kw_mx new old i) i (new i) = kw_mx new old (i + 1) := by
  funext j
  unfold upd kw_mx
  by_cases h : j = i
  · subst h; simp
  · rw [if_neg h]
    by_cases h2 : j < i
    · rw [if_pos h2, if_pos (by omega)]
    · rw [if_neg h2, if_neg (by omega)]
theorem kw_mx_0 {new old : Nat → Int32} : kw_mx new old 0 = old := by funext j; exact if_neg (by omega)
theorem kw_mx_lo {new old : Nat → Int32} {i j : Nat} (h : j < i) : kw_mx new old i j = new j := if_pos h
theorem kw_mx_hi {new old : Nat → Int32} {i j : Nat} (h : i ≤ j) : kw_mx new old i j = old j := if_neg (by omega)
theorem kw_ixX (a w : Nat) : nI a * 16 + nI w = nI (16 * a + w) := by
  rw [show (16 : Int32) = nI 16 from rfl, pk_mul, nI_add, Nat.mul_comm]
theorem kw_ixY (a w : Nat) : 16 * nI a + nI w = nI (16 * a + w) := by
  rw [show (16 : Int32) = nI 16 from rfl, pk_mul, nI_add]
theorem kw_ixT (a w : Nat) : 24 * nI a + nI w = nI (24 * a + w) := by
  rw [show (24 : Int32) = nI 24 from rfl, pk_mul, nI_add]
theorem kw_bit' (b : Bool) (n : Nat) : nI n + kw_b b = nI (n + (if b then 1 else 0)) := by
  cases b
  · exact Int32.add_zero _
  · exact nI_1 n
/-- p0 names no world that is there -/
def kw_bad (wt p0 : Int32) : Prop := ∀ w, w < 16 → p0 = nI w → bt wt w = false
theorem kw_cs (wt p0 : Int32) : kw_bad wt p0 ∨ ∃ w, w < 16 ∧ p0 = nI w ∧ bt wt w = true := by
  by_cases h : ∃ w, w < 16 ∧ p0 = nI w ∧ bt wt w = true
  · exact Or.inr h
  · refine Or.inl fun w hw e => ?_
    cases hb : bt wt w
    · rfl
    · exact absurd ⟨w, hw, e, hb⟩ h
end
section
section
variable {wt aw tc fc : Int32} {fs ce tk ta fz hs ap na : Nat → Int32}
variable {th ac ht : Int32} {fa co sz kd ag fi tr ia ho ro di : Nat → Int32}
theorem kw_pp {post : Int32 → Prop} {b : Bool} (h : post (kw_b b)) : (kw_b b = 0 → post 0) ∧ (¬ kw_b b = 0 → post 1) := kw_br b (fun e => by rw [e] at h; exact h) (fun e => by rw [e] at h; exact h)
theorem kw_pn {post : Int32 → Prop} {b : Bool} (h : post (kw_b (!b))) : (kw_b b = 0 → post 1) ∧ (¬ kw_b b = 0 → post 0) := kw_br b (fun e => by rw [e] at h; exact h) (fun e => by rw [e] at h; exact h)
theorem kw_no {p0 : Int32} {n : Nat} (h : ∀ a, a < n → p0 ≠ nI a) : p0 < 0 ∨ (¬ p0 < 0 ∧ ∃ j, n ≤ j ∧ j < 2 ^ 31 ∧ p0 = nI j) := by
  by_cases g : p0 < 0
  · exact Or.inl g
  · obtain ⟨j, hj, e⟩ := nI_of g
    refine Or.inr ⟨g, j, ?_, hj, e⟩
    apply Classical.byContradiction
    intro z
    exact h j (by omega) e
theorem kx_isIn {post : Int32 → Prop} {x : Int32} {m : Nat} (hm : m < 32) (h : post (kw_b (bt x m))) : wpX_isIn post x (nI m) := by
  unfold wpX_isIn
  rw [kw_bit x hm]
  cases e : bt x m
  · rw [e] at h
    exact br_f (by decide) h
  · rw [e] at h
    exact br_t rfl h
theorem ky_in {post : Int32 → Prop} {x : Int32} {m : Nat} (hm : m < 32) (h : post (kw_b (bt x m))) : wpY_in post (th, ac, ht, fa, co, sz, kd, ag, fi, tr, ia, ho, ro, di) x (nI m) := by
  unfold wpY_in
  dsimp only
  rw [kw_bit x hm]
  cases e : bt x m
  · rw [e] at h
    exact br_f (by decide) h
  · rw [e] at h
    exact br_t rfl h
theorem kx_there {post : Int32 → Prop} {w : Nat} (hw : w < 16) (h : post (kw_b (bt wt w))) : wpX_isThere post (wt, aw, tc, fc, fs, ce, tk, ta, fz, hs, ap, na) (nI w) := by
  unfold wpX_isThere
  dsimp only
  exact br_f (nI_pos (by omega)) (br_f (nI_ge (b := 16) hw (by decide)) (kx_isIn (by omega) (kw_pp h)))
theorem ky_there {post : Int32 → Prop} {w : Nat} (hw : w < 16) (h : post (kw_b (bt th w))) : wpY_isThere post (th, ac, ht, fa, co, sz, kd, ag, fi, tr, ia, ho, ro, di) (nI w) := by
  unfold wpY_isThere
  dsimp only
  exact br_f (nI_pos (by omega)) (br_f (nI_nlt (a := 15) (b := w) (by omega) (by decide) : ¬ (15 : Int32) < nI w) (ky_in (by omega) (kw_pp h)))
theorem kx_thereN {post : Int32 → Prop} {p0 : Int32} (hb : kw_bad wt p0) (h : post 0) : wpX_isThere post (wt, aw, tc, fc, fs, ce, tk, ta, fz, hs, ap, na) p0 := by
  by_cases g : ∃ w, w < 16 ∧ p0 = nI w
  · obtain ⟨w, hw, rfl⟩ := g
    refine kx_there hw ?_
    rw [hb w hw rfl]
    exact h
  · unfold wpX_isThere
    dsimp only
    rcases kw_no (p0 := p0) (n := 16) fun a ha e => g ⟨a, ha, e⟩ with z | ⟨z, j, hj, h31, rfl⟩
    · exact br_t z h
    · exact br_f z (br_t (nI_le (a := 16) hj h31) h)
theorem ky_thereN {post : Int32 → Prop} {p0 : Int32} (hb : kw_bad th p0) (h : post 0) : wpY_isThere post (th, ac, ht, fa, co, sz, kd, ag, fi, tr, ia, ho, ro, di) p0 := by
  by_cases g : ∃ w, w < 16 ∧ p0 = nI w
  · obtain ⟨w, hw, rfl⟩ := g
    refine ky_there hw ?_
    rw [hb w hw rfl]
    exact h
  · unfold wpY_isThere
    dsimp only
    rcases kw_no (p0 := p0) (n := 16) fun a ha e => g ⟨a, ha, e⟩ with z | ⟨z, j, hj, h31, rfl⟩
    · exact br_t z h
    · exact br_f z (br_t (nI_lt (a := 15) (by omega) h31 : (15 : Int32) < nI j) h)
/-! agents and facts -/
theorem kx_ag {post : Int32 → Prop} {a : Nat} (ha : a < 3) (h : post 1) : wpX_isAgent post (nI a) :=
  br_f (nI_pos (by omega)) (br_f (nI_ge (b := 3) ha (by decide)) h)
theorem ky_ag {post : Int32 → Prop} {a : Nat} (ha : a < 3) (h : post 1) : wpY_isAgent post (th, ac, ht, fa, co, sz, kd, ag, fi, tr, ia, ho, ro, di) (nI a) :=
  br_f (nI_pos (by omega)) (br_f (nI_nlt (a := 2) (b := a) (by omega) (by decide) : ¬ (2 : Int32) < nI a) h)
theorem kx_agN {post : Int32 → Prop} {p0 : Int32} (hn : ∀ a, a < 3 → p0 ≠ nI a) (h : post 0) : wpX_isAgent post p0 := by
  rcases kw_no hn with z | ⟨z, j, hj, h31, rfl⟩
  · exact br_t z h
  · exact br_f z (br_t (nI_le (a := 3) hj h31) h)
theorem ky_agN {post : Int32 → Prop} {p0 : Int32} (hn : ∀ a, a < 3 → p0 ≠ nI a) (h : post 0) : wpY_isAgent post (th, ac, ht, fa, co, sz, kd, ag, fi, tr, ia, ho, ro, di) p0 := by
  rcases kw_no hn with z | ⟨z, j, hj, h31, rfl⟩
  · exact br_t z h
  · exact br_f z (br_t (nI_lt (a := 2) (by omega) h31 : (2 : Int32) < nI j) h)
theorem kx_fa {post : Int32 → Prop} {p : Nat} (hp : p < 4) (h : post 1) : wpX_isFact post (nI p) :=
  br_f (nI_pos (by omega)) (br_f (nI_ge (b := 4) hp (by decide)) h)
theorem kx_faN {post : Int32 → Prop} {p0 : Int32} (hn : ∀ a, a < 4 → p0 ≠ nI a) (h : post 0) : wpX_isFact post p0 := by
  rcases kw_no hn with z | ⟨z, j, hj, h31, rfl⟩
  · exact br_t z h
  · exact br_f z (br_t (nI_le (a := 4) hj h31) h)
theorem ky_fa {A B : Prop} {p : Nat} (hp : p < 4) (h : A) : (nI p < 0 → B) ∧ (¬ nI p < 0 → ((nI p ≤ 3 → A) ∧ (¬ nI p ≤ 3 → B))) :=
  br_f (nI_pos (by omega)) (br_t (nI_le (b := 3) (by omega) (by decide)) h)
theorem ky_faN {A B : Prop} {p0 : Int32} (hn : ∀ a, a < 4 → p0 ≠ nI a) (h : B) : (p0 < 0 → B) ∧ (¬ p0 < 0 → ((p0 ≤ 3 → A) ∧ (¬ p0 ≤ 3 → B))) := by
  rcases kw_no hn with z | ⟨z, j, hj, h31, rfl⟩
  · exact br_t z h
  · exact br_f z (br_f (nI_ge (a := 3) (b := j) (by omega) h31) h)
theorem kw_cs3 (p0 : Int32) (n : Nat) : (∀ a, a < n → p0 ≠ nI a) ∨ ∃ a, a < n ∧ p0 = nI a := by
  by_cases h : ∃ a, a < n ∧ p0 = nI a
  · exact Or.inr h
  · exact Or.inl fun a ha e => h ⟨a, ha, e⟩
/-! counts -/
theorem kx_cnt {post : Int32 → Prop} {x : Int32} (h : post (nI (kw_c (bt x) 16))) : wpX_countDigits post x := by
  obtain ⟨n, hn⟩ := kw_lp (fun n i s => wX_countDigits_4 post x n s (nI i)) (fun i => nI (kw_c (bt x) i)) 16 0 (by omega)
    (fun n => br_t (nI_le (a := 16) (by omega) (by decide)) h)
    (fun n i hi g => br_f (nI_ge (b := 16) hi (by decide)) (nm_r (by rw [kw_bit x (by omega), kw_bit']; rfl) (nm_r (nI_1 i) g)))
  exact ⟨n, hn⟩
theorem ky_cnt {post : Int32 → Prop} {x : Int32} (h : post (nI (kw_c (bt x) 16))) : wpY_count post (th, ac, ht, fa, co, sz, kd, ag, fi, tr, ia, ho, ro, di) x := by
  obtain ⟨n, hn⟩ := kw_lp (fun n i s => wY_count_4 post x th ac ht fa co sz kd ag fi tr ia ho ro di n s (nI i)) (fun i => nI (kw_c (bt x) i)) 16 0 (by omega)
    (fun n => br_t (nI_le (a := 16) (by omega) (by decide)) h)
    (fun n i hi g => br_f (nI_ge (b := 16) hi (by decide)) (nm_r (by rw [kw_bit x (by omega), kw_bit']; rfl) (nm_r (nI_1 i) g)))
  exact ⟨n, hn⟩
/-- the lowest of a set: w is below every world of x -/
def kw_lo (x : Int32) (w : Nat) : Bool := !kw_ex (fun v => bt x v) w
theorem kx_low {post : Int32 → Prop} {x : Int32} {w : Nat} (hw : w < 16) (h : post (kw_b (kw_lo x w))) : wpX_isLowestIn post x (nI w) := by
  unfold wpX_isLowestIn
  have e : (x &&& (((1 : Int32) <<< (nI w &&& 31)) - 1)) = 0 ↔ kw_lo x w = true := by
    rw [kw_zero, kw_lo, Bool.not_eq_true', kw_ex_f]
    constructor
    · intro g v hv
      have := g v (by omega)
      rw [b_and, kw_low w hw v (by omega), decide_eq_true hv, Bool.and_true] at this
      exact this
    · intro g i hi
      rw [b_and, kw_low w hw i hi]
      by_cases z : i < w
      · rw [g i z]; rfl
      · rw [decide_eq_false z, Bool.and_false]
  by_cases z : kw_lo x w = true
  · rw [z] at h
    exact br_t (e.mpr z) h
  · have z' : kw_lo x w = false := by cases hh : kw_lo x w; rfl; exact absurd hh z
    rw [z'] at h
    exact br_f (fun hh => z (e.mp hh)) h
theorem ky_same {post : Int32 → Prop} {a w v : Nat} (ha : a < 3) (hw : w < 16) (hv : v < 16) (h : post (kw_b (decide (co (16 * a + w) = co (16 * a + v))))) : wpY_same post (th, ac, ht, fa, co, sz, kd, ag, fi, tr, ia, ho, ro, di) (nI a) (nI w) (nI v) := by
  unfold wpY_same
  dsimp only
  rw [kw_ixY, kw_ixY]
  refine ⟨vp_in_nI (by omega) (by decide), vp_in_nI (by omega) (by decide), ?_⟩
  rw [nI_clamp (by omega), nI_clamp (by omega)]
  by_cases e : co (16 * a + w) = co (16 * a + v)
  · rw [decide_eq_true e] at h
    exact br_t e h
  · rw [decide_eq_false e] at h
    exact br_f e h
/-! sizes of the topmost formulas -/
theorem kx_szt0 {post : Int32 → Prop} (h : post 0) : wpX_sizeOfTopmost post (wt, aw, tc, fc, fs, ce, tk, ta, fz, hs, ap, na) 0 := ⟨1, br_t (by decide) h⟩
theorem kx_szt1 {post : Int32 → Prop} {t z1 : Nat} (ht : tc = nI t) (h31 : t ≤ 144) (h1 : 1 ≤ t) (hz : fz (t - 1) = nI z1) (h : post (nI z1)) : wpX_sizeOfTopmost post (wt, aw, tc, fc, fs, ce, tk, ta, fz, hs, ap, na) 1 := by
  have e1 : tc - 1 - 0 = nI (t - 1) := by
    rw [ht, show (1 : Int32) = nI 1 from rfl, pk_sub h1, Int32.sub_zero]
  refine ⟨2, br_f (by decide) ⟨?_, ?_⟩⟩
  · rw [e1]; exact vp_in_nI (by omega) (by decide)
  · refine nm_r (e' := nI z1) (by rw [e1, nI_clamp (by omega), hz, Int32.zero_add]) (nm_r (e' := 1) (by decide) (br_t (by decide) h))
theorem kx_szt2 {post : Int32 → Prop} {t z1 z2 : Nat} (ht : tc = nI t) (h31 : t ≤ 144) (h1 : 1 + z1 + 1 ≤ t + 1) (h0 : z1 + 1 ≤ t) (hz : fz (t - 1) = nI z1) (hz2 : fz (t - 1 - z1) = nI z2) (h : post (nI (z1 + z2))) : wpX_sizeOfTopmost post (wt, aw, tc, fc, fs, ce, tk, ta, fz, hs, ap, na) 2 := by
  have e1 : tc - 1 - 0 = nI (t - 1) := by
    rw [ht, show (1 : Int32) = nI 1 from rfl, pk_sub (by omega), Int32.sub_zero]
  have e2 : tc - 1 - nI z1 = nI (t - 1 - z1) := by
    rw [ht, show (1 : Int32) = nI 1 from rfl, pk_sub (by omega), pk_sub (by omega)]
  refine ⟨3, br_f (by decide) ⟨?_, ?_⟩⟩
  · rw [e1]; exact vp_in_nI (by omega) (by decide)
  · refine nm_r (e' := nI z1) (by rw [e1, nI_clamp (by omega), hz, Int32.zero_add]) (nm_r (e' := 1) (by decide) (br_f (by decide) ⟨?_, ?_⟩))
    · rw [e2]; exact vp_in_nI (by omega) (by decide)
    · exact nm_r (e' := nI (z1 + z2)) (by rw [e2, nI_clamp (by omega), hz2, nI_add]) (nm_r (e' := 2) (by decide) (br_t (by decide) h))
end
end
section
section
variable {wt aw tc fc : Int32} {fs ce tk ta fz hs ap na : Nat → Int32}
variable {th ac ht : Int32} {fa co sz kd ag fi tr ia ho ro di : Nat → Int32}
/-- how many formulas a token takes -/
def kw_t (κ : Nat) : Nat := if κ = 0 then 0 else if κ = 2 ∨ κ = 3 ∨ κ = 4 ∨ κ = 9 then 2 else 1
def kw_ok (k a : Int32) : Prop := ∃ κ, κ ≤ 9 ∧ k = nI κ ∧ (κ = 0 → ∃ p, p < 4 ∧ a = nI p) ∧ (κ = 5 → ∃ p, p < 3 ∧ a = nI p) ∧ (6 ≤ κ → κ ≤ 8 → ∃ p, 1 ≤ p ∧ p ≤ 7 ∧ a = nI p)
theorem kw_10 {P : Nat → Prop} (h0 : P 0) (h1 : P 1) (h2 : P 2) (h3 : P 3) (h4 : P 4) (h5 : P 5) (h6 : P 6) (h7 : P 7) (h8 : P 8) (h9 : P 9) : ∀ κ, κ ≤ 9 → P κ := by
  intro κ h
  have : κ = 0 ∨ κ = 1 ∨ κ = 2 ∨ κ = 3 ∨ κ = 4 ∨ κ = 5 ∨ κ = 6 ∨ κ = 7 ∨ κ = 8 ∨ κ = 9 := by omega
  rcases this with rfl | rfl | rfl | rfl | rfl | rfl | rfl | rfl | rfl | rfl <;> assumption
theorem kx_taken {post : Int32 → Prop} : ∀ κ, κ ≤ 9 → post (nI (kw_t κ)) → wpX_takenBy post (nI κ) := by
  refine kw_10 ?_ ?_ ?_ ?_ ?_ ?_ ?_ ?_ ?_ ?_ <;> intro h <;> unfold wpX_takenBy <;> repeat (first | exact h | refine br_t (by decide) ?_ | refine br_f (by decide) ?_)
theorem ky_takes {post : Int32 → Prop} : ∀ κ, κ ≤ 9 → post (nI (kw_t κ)) → wpY_takes post (th, ac, ht, fa, co, sz, kd, ag, fi, tr, ia, ho, ro, di) (nI κ) := by
  refine kw_10 ?_ ?_ ?_ ?_ ?_ ?_ ?_ ?_ ?_ ?_ <;> intro h <;> unfold wpY_takes <;> dsimp only <;> repeat (first | exact h | refine br_t (by decide) ?_ | refine br_f (by decide) ?_)
theorem kw_17 (a : Int32) : (∃ p, 1 ≤ p ∧ p ≤ 7 ∧ a = nI p ∧ ∀ A B : Prop, B → ((a < 1 → A) ∧ (¬ a < 1 → ((7 < a → A) ∧ (¬ 7 < a → B))))) ∨ (∀ A B : Prop, A → ((a < 1 → A) ∧ (¬ a < 1 → ((7 < a → A) ∧ (¬ 7 < a → B))))) := by
  by_cases h : a < 0
  · refine Or.inr fun A B z => br_t (Int32.lt_trans h (by decide)) z
  · obtain ⟨j, hj, rfl⟩ := nI_of h
    by_cases h1 : j < 1
    · exact Or.inr fun A B z => br_t (nI_lt (b := 1) h1 (by decide)) z
    · by_cases h7 : j ≤ 7
      · exact Or.inl ⟨j, by omega, h7, rfl, fun A B z => br_f (nI_nlt (b := 1) (by omega) hj) (br_f (nI_nlt (a := 7) (by omega) (by decide) : ¬ (7 : Int32) < nI j) z)⟩
      · exact Or.inr fun A B z => br_f (nI_nlt (b := 1) (by omega) hj) (br_t (nI_lt (a := 7) (by omega) hj : (7 : Int32) < nI j) z)
theorem kw_tokP (k a : Int32) : (kw_ok k a ∧ (∀ post : Int32 → Prop, post 1 → wpX_isToken post k a) ∧ (∀ post : Int32 → Prop, post 1 → wpY_isToken post (th, ac, ht, fa, co, sz, kd, ag, fi, tr, ia, ho, ro, di) k a)) ∨ ((∀ post : Int32 → Prop, post 0 → wpX_isToken post k a) ∧ (∀ post : Int32 → Prop, post 0 → wpY_isToken post (th, ac, ht, fa, co, sz, kd, ag, fi, tr, ia, ho, ro, di) k a)) := by
  rcases kw_cs3 k 10 with hn | ⟨κ, hκ, rfl⟩
  · right
    rcases kw_no hn with z | ⟨z, j, hj, h31, rfl⟩
    · have z0 : ¬ k = 0 := fun e => by rw [e] at z; exact absurd z (by decide)
      have z5 : ¬ k = 5 := fun e => by rw [e] at z; exact absurd z (by decide)
      have z6 : k < 6 := Int32.lt_trans z (by decide)
      have zl : k ≤ 0 := Int32.le_of_lt z
      exact ⟨fun post h => br_t z h, fun post h => br_f z0 (br_f z5 (br_t z6 (br_t zl h)))⟩
    · have z0 : ¬ nI j = 0 := fun e => by rw [← nI_0, nI_eq h31 (by omega)] at e; omega
      have z5 : ¬ nI j = 5 := fun e => by rw [show (5 : Int32) = nI 5 from rfl, nI_eq h31 (by omega)] at e; omega
      have z6 : ¬ nI j < 6 := nI_nlt (b := 6) (by omega) h31
      have z8 : (8 : Int32) < nI j := nI_lt (a := 8) (by omega) h31
      have z9 : (9 : Int32) < nI j := nI_lt (a := 9) (by omega) h31
      have zl : ¬ nI j ≤ 0 := nI_nle (by omega) h31
      exact ⟨fun post h => br_f z (br_t z9 h), fun post h => br_f z0 (br_f z5 (br_f z6 (br_t z8 (br_f zl (br_t z9 h)))))⟩
  · have hκ9 : κ ≤ 9 := by omega
    clear hκ
    revert κ
    refine kw_10 ?_ ?_ ?_ ?_ ?_ ?_ ?_ ?_ ?_ ?_
    · rcases kw_cs3 a 4 with hn | ⟨p, hp, rfl⟩
      · right
        refine ⟨fun post h => br_f (by decide) (br_f (by decide) (br_t (by decide) (kx_faN hn ⟨kw_nar false, h⟩))), fun post h => br_t (by decide) ?_⟩
        rcases kw_no hn with z | ⟨z, j, hj, h31, rfl⟩
        · exact br_t z h
        · exact br_f z (br_t (nI_lt (a := 3) (by omega) h31 : (3 : Int32) < nI j) h)
      · left
        exact ⟨⟨0, by omega, rfl, fun _ => ⟨p, hp, rfl⟩, fun e => absurd e (by omega), fun e => absurd e (by omega)⟩,
          fun post h => br_f (by decide) (br_f (by decide) (br_t (by decide) (kx_fa hp ⟨kw_nar true, h⟩))),
          fun post h => br_t (by decide) (br_f (nI_pos (by omega)) (br_f (nI_nlt (a := 3) (b := p) (by omega) (by decide) : ¬ (3 : Int32) < nI p) h))⟩
    iterate 4
      · left
        refine ⟨⟨_, ?_, rfl, ?_, ?_, ?_⟩, fun post h => ?_, fun post h => ?_⟩
        · omega
        · omega
        · omega
        · omega
        · unfold wpX_isToken; repeat (first | exact h | refine br_t (by decide) ?_ | refine br_f (by decide) ?_)
        · unfold wpY_isToken; dsimp only; repeat (first | exact h | refine br_t (by decide) ?_ | refine br_f (by decide) ?_)
    · rcases kw_cs3 a 3 with hn | ⟨p, hp, rfl⟩
      · right
        refine ⟨fun post h => ?_, fun post h => br_f (by decide) (br_t (by decide) (ky_agN hn ⟨kw_nar false, h⟩))⟩
        exact br_f (by decide) (br_f (by decide) (br_f (by decide) (br_f (by decide) (br_f (by decide) (br_f (by decide) (br_f (by decide) (br_t (by decide) (kx_agN hn ⟨kw_nar false, h⟩))))))))
      · left
        refine ⟨⟨5, by omega, rfl, fun e => absurd e (by omega), fun _ => ⟨p, hp, rfl⟩, fun e => absurd e (by omega)⟩, fun post h => ?_, fun post h => br_f (by decide) (br_t (by decide) (ky_ag hp ⟨kw_nar true, h⟩))⟩
        exact br_f (by decide) (br_f (by decide) (br_f (by decide) (br_f (by decide) (br_f (by decide) (br_f (by decide) (br_f (by decide) (br_t (by decide) (kx_ag hp ⟨kw_nar true, h⟩))))))))
    iterate 3
      · rcases kw_17 a with ⟨p, h1, h7, rfl, hp⟩ | hp
        · left
          refine ⟨⟨_, ?_, rfl, ?_, ?_, fun _ _ => ⟨p, h1, h7, rfl⟩⟩, fun post h => ?_, fun post h => ?_⟩
          · omega
          · omega
          · omega
          · unfold wpX_isToken; repeat (first | exact hp _ _ h | refine br_t (by decide) ?_ | refine br_f (by decide) ?_)
          · unfold wpY_isToken; dsimp only; repeat (first | exact hp _ _ h | refine br_t (by decide) ?_ | refine br_f (by decide) ?_)
        · right
          refine ⟨fun post h => ?_, fun post h => ?_⟩
          · unfold wpX_isToken; repeat (first | exact hp _ _ h | refine br_t (by decide) ?_ | refine br_f (by decide) ?_)
          · unfold wpY_isToken; dsimp only; repeat (first | exact hp _ _ h | refine br_t (by decide) ?_ | refine br_f (by decide) ?_)
    · left
      refine ⟨⟨_, ?_, rfl, ?_, ?_, ?_⟩, fun post h => ?_, fun post h => ?_⟩
      · omega
      · omega
      · omega
      · omega
      · unfold wpX_isToken; repeat (first | exact h | refine br_t (by decide) ?_ | refine br_f (by decide) ?_)
      · unfold wpY_isToken; dsimp only; repeat (first | exact h | refine br_t (by decide) ?_ | refine br_f (by decide) ?_)
end
end
section
def kw_off (z : Nat → Nat) : Nat → Nat
  | 0 => 0
  | s + 1 => kw_off z s + z s
def kw_wf (K Z : Nat → Nat) (n : Nat) : Prop := 1 ≤ n ∧ Z (n - 1) = n ∧ ∀ i, i < n → (kw_t (K i) = 0 → Z i = 1) ∧ (kw_t (K i) = 1 → 1 ≤ i ∧ Z i = 1 + Z (i - 1)) ∧ (kw_t (K i) = 2 → Z (i - 1) + 1 ≤ i ∧ Z i = 1 + Z (i - 1) + Z (i - 1 - Z (i - 1)))
/-- one formula: n tokens, in the component from o on, in the reference in slot s -/
def kw_fm (tk ta fz kd ag : Nat → Int32) (Z : Nat → Nat) (o s n : Nat) : Prop := n ≤ 24 ∧ (∀ i, i < n → kd (24 * s + i) = tk (o + i) ∧ ag (24 * s + i) = ta (o + i) ∧ fz (o + i) = nI (Z (o + i)) ∧ kw_ok (tk (o + i)) (ta (o + i))) ∧ kw_wf (fun i => (tk (o + i)).toNatClampNeg) (fun i => Z (o + i)) n
def kw_FA (wt : Int32) (fs fa : Nat → Int32) : Prop := ∀ w, w < 16 → bt wt w = true → (∀ p, p < 4 → bt (fs p) w = bt (fa w) p) ∧ (∀ i, 4 ≤ i → bt (fa w) i = false)
def kw_R (co : Nat → Int32) (a w v : Nat) : Bool := decide (co (16 * a + w) = co (16 * a + v))
def kw_CE (wt : Int32) (ce co : Nat → Int32) : Prop := ∀ a, a < 3 → ∀ w v, w < 16 → v < 16 → bt wt w = true → bt wt v = true → bt (ce (16 * a + w)) v = kw_R co a w v
def kw_ST (tc fc ht : Int32) (tk ta fz sz kd ag : Nat → Int32) : Prop := ∃ (h : Nat) (z Z : Nat → Nat), h ≤ 6 ∧ fc = nI h ∧ ht = nI h ∧ tc = nI (kw_off z h) ∧ ∀ s, s < h → sz s = nI (z s) ∧ kw_fm tk ta fz kd ag Z (kw_off z s) s (z s)
def kw_AC (wt aw ac : Int32) : Prop := ∃ n, n < 16 ∧ aw = nI n ∧ ac = nI n ∧ bt wt n = true
def i_Rel (k : Nat) (u : SX) (v : SY) : Prop := match u, v with
  | (wt, aw, tc, fc, fs, ce, tk, ta, fz, hs, ap, na), (th, ac, ht, fa, co, sz, kd, ag, fi, tr, ia, ho, ro, di) => wt = th ∧ kw_S wt ∧ kw_AC wt aw ac ∧ kw_FA wt fs fa ∧ kw_CE wt ce co ∧ kw_ST tc fc ht tk ta fz sz kd ag
theorem i_up {k : Nat} {u : SX} {v : SY} (h : i_Rel k u v) : i_Rel (k + 4) u v := h
/-! the beginning -/
section
variable {wt aw tc fc : Int32} {fs ce tk ta fz hs ap na : Nat → Int32}
variable {th ac ht : Int32} {fa co sz kd ag fi tr ia ho ro di : Nat → Int32}
def kw_bq (p : Nat) : Nat → Bool := fun w => bt (nI w) p
def kw_bf (p : Nat) : Int32 := kw_mk (kw_bq p) 16
theorem kw_updupd {f : Nat → Int32} {k : Nat} {x y : Int32} : upd (upd f k x) k y = upd f k y := by
  funext j
  unfold upd
  by_cases h : j = k
  · simp [h]
  · simp [h]
theorem kx_begin {post : SX → Prop} (h : ∀ fs' ce' : Nat → Int32, (∀ p, p < 4 → fs' p = kw_bf p) → (∀ j, j < 48 → ce' j = 65535) → post (65535, 0, tc, fc, fs', ce', tk, ta, fz, hs, ap, na)) : wpX_setBeginning post (wt, aw, tc, fc, fs, ce, tk, ta, fz, hs, ap, na) := by
  unfold wpX_setBeginning
  dsimp only
  refine kw_lp (fun n i s => wX_setBeginning_13 post 65535 0 tc fc n (nI i) s ce tk ta fz hs ap na) (fun i => kw_mx kw_bf fs i) 4 0 (by omega) (fun n => ?_) (fun n p hp g => ?_)
  · refine br_t (nI_le (a := 4) (by omega) (by decide)) ?_
    refine kw_lp (fun n i s => wX_setBeginning_67 post 65535 0 tc fc n (nI i) (kw_mx kw_bf fs 4) s tk ta fz hs ap na) (fun i => kw_mx (fun _ => 65535) ce i) 48 0 (by omega) (fun n => ?_) (fun n i hi g => ?_)
    · refine br_t (nI_le (a := 48) (by omega) (by decide)) (h _ _ (fun p hp => kw_mx_lo hp) (fun j hj => kw_mx_lo hj))
    · refine br_f (nI_ge (b := 48) hi (by decide)) ⟨vp_in_nI hi (by decide), nm_r ?_ (nm_r (nI_1 i) g)⟩
      rw [nI_clamp (by omega)]
      exact kw_mx_upd (new := fun _ => 65535)
  · refine br_f (nI_ge (b := 4) hp (by decide)) ⟨vp_in_nI hp (by decide), nm_r (e' := upd (kw_mx kw_bf fs p) p (kw_mk (kw_bq p) 0)) (by rw [nI_clamp (by omega)]; rfl) ?_⟩
    refine kw_lp (fun m i s => wX_setBeginning_27 post (wX_setBeginning_13 post 65535 0 tc fc n) (nI p) 65535 0 tc fc m (nI i) s ce tk ta fz hs ap na) (fun i => upd (kw_mx kw_bf fs p) p (kw_mk (kw_bq p) i)) 16 0 (by omega) (fun n => ?_) (fun n i hi g => ?_)
    · refine br_t (nI_le (a := 16) (by omega) (by decide)) (nm_r (nI_1 p) ?_)
      have e : upd (kw_mx kw_bf fs p) p (kw_mk (kw_bq p) 16) = kw_mx kw_bf fs (p + 1) := kw_mx_upd (new := kw_bf)
      rw [e]
      exact g
    · refine br_f (nI_ge (b := 16) hi (by decide)) (kx_isIn (by omega) (kw_br _ (fun e => nm_r (nI_1 i) ?_) (fun e => ⟨vp_in_nI hp (by decide), vp_in_nI hp (by decide), nm_r (e' := upd (kw_mx kw_bf fs p) p (kw_mk (kw_bq p) (i + 1))) ?_ (nm_r (nI_1 i) g)⟩)))
      · have e2 : kw_mk (kw_bq p) (i + 1) = kw_mk (kw_bq p) i := by
          rw [kw_mk, if_neg]
          rw [kw_bq, e]
          decide
        rw [← e2]
        exact g
      · rw [nI_clamp (by omega), pk_us, kw_updupd]
        have e2 : kw_mk (kw_bq p) (i + 1) = kw_mk (kw_bq p) i ||| ((1 : Int32) <<< (nI i &&& 31)) := by
          rw [kw_mk, if_pos]
          exact e
        rw [e2]
def kw_co0 (co : Nat → Int32) (i : Nat) : Nat → Int32 := fun j => if j < 48 ∧ j % 16 < i then 0 else co j
theorem kw_co0_s (i : Nat) (hi : i < 16) : upd (upd (upd (kw_co0 co i) i 0) (16 + i) 0) (32 + i) 0 = kw_co0 co (i + 1) := by
  funext j
  unfold upd kw_co0
  by_cases h1 : j = 32 + i
  · rw [if_pos h1, if_pos (by omega)]
  · by_cases h2 : j = 16 + i
    · rw [if_neg h1, if_pos h2, if_pos (by omega)]
    · by_cases h3 : j = i
      · rw [if_neg h1, if_neg h2, if_pos h3, if_pos (by omega)]
      · rw [if_neg h1, if_neg h2, if_neg h3]
        by_cases h4 : j < 48 ∧ j % 16 < i
        · rw [if_pos h4, if_pos (by omega)]
        · rw [if_neg h4, if_neg (by omega)]
theorem ky_restart {post : SY → Prop} (h : ∀ fa' co' : Nat → Int32, (∀ w, w < 16 → fa' w = nI w) → (∀ j, j < 48 → co' j = 0) → post (65535, 0, ht, fa', co', sz, kd, ag, fi, tr, ia, ho, ro, di)) : wpY_restart post (th, ac, ht, fa, co, sz, kd, ag, fi, tr, ia, ho, ro, di) := by
  unfold wpY_restart
  dsimp only
  obtain ⟨n, hn⟩ := kw_lp (fun n i (s : (Nat → Int32) × (Nat → Int32)) => wY_restart_13 post 65535 0 ht n (nI i) s.1 s.2 sz kd ag fi tr ia ho ro di) (fun i => (kw_mx nI fa i, kw_co0 co i)) 16 0 (by omega)
    (fun n => br_t (nI_le (a := 16) (by omega) (by decide)) (h _ _ (fun w hw => kw_mx_lo hw) (fun j hj => if_pos ⟨hj, by omega⟩)))
    (fun n i hi g => by
      refine br_f (nI_ge (b := 16) hi (by decide)) ⟨vp_in_nI hi (by decide), nm_r (e' := kw_mx nI fa (i + 1)) ?_ ⟨vp_in_nI (by omega) (by decide), nm_e ⟨?_, nm_e ⟨?_, nm_r (e' := kw_co0 co (i + 1)) ?_ (nm_r (nI_1 i) g)⟩⟩⟩⟩
      · rw [nI_clamp (by omega)]; exact kw_mx_upd
      · rw [show (16 : Int32) = nI 16 from rfl, nI_add]; exact vp_in_nI (by omega) (by decide)
      · rw [show (32 : Int32) = nI 32 from rfl, nI_add]; exact vp_in_nI (by omega) (by decide)
      · rw [show (32 : Int32) = nI 32 from rfl, show (16 : Int32) = nI 16 from rfl, nI_add, nI_add, nI_clamp (by omega), nI_clamp (by omega), nI_clamp (by omega)]
        exact kw_co0_s i hi)
  refine ⟨n, ?_⟩
  have e1 : kw_co0 co 0 = co := by funext j; exact if_neg (by omega)
  have e2 : kw_mx nI fa 0 = fa := kw_mx_0
  dsimp only at hn
  rw [e1, e2] at hn
  exact hn
theorem kw_hi4 : ∀ w, w < 16 → ∀ i, i < 32 → 4 ≤ i → bt (nI w) i = false := by decide +kernel
theorem kw_FA0 {fs' fa' : Nat → Int32} (h1 : ∀ p, p < 4 → fs' p = kw_bf p) (h2 : ∀ w, w < 16 → fa' w = nI w) : kw_FA 65535 fs' fa' := by
  intro w hw _
  refine ⟨fun p hp => ?_, fun i hi => ?_⟩
  · rw [h1 p hp, h2 w hw, kw_bf, kw_mk16 hw, kw_bq]
  · rw [h2 w hw]
    by_cases z : i < 32
    · exact kw_hi4 w hw i z hi
    · exact b_big (by omega)
theorem kw_CE0 {ce' co' : Nat → Int32} (h1 : ∀ j, j < 48 → ce' j = 65535) (h2 : ∀ j, j < 48 → co' j = 0) : kw_CE 65535 ce' co' := by
  intro a ha w v hw hv _ _
  rw [h1 _ (by omega), b_65535, decide_eq_true hv, kw_R, h2 _ (by omega), h2 _ (by omega)]
  rfl
theorem kw_AC0 : kw_AC 65535 0 0 := ⟨0, by omega, rfl, rfl, by decide +kernel⟩
end
theorem i_vc0 : wpX_init (fun u => wpY_init (fun v => i_Rel 0 u v)) := by
  unfold wpX_init
  refine kx_begin fun fs' ce' hf hc => ?_
  dsimp only
  unfold wpY_init
  refine ky_restart fun fa' co' hf' hc' => ?_
  dsimp only
  exact ⟨rfl, kw_S_all, kw_AC0, kw_FA0 hf hf', kw_CE0 hc hc', 0, fun _ => 0, fun _ => 0, by omega, rfl, rfl, rfl, fun s hs => absurd hs (by omega)⟩
theorem i_vc_restart {k : Nat} {u : SX} {v : SY} (I : i_Rel k u v) (hk : k + 4 ≤ 2048) : wpX_restart (fun u' => wpY_restart (fun v' => i_Rel (k + 4) u' v') v) u := by
  obtain ⟨wt, aw, tc, fc, fs, ce, tk, ta, fz, hs, ap, na⟩ := u
  obtain ⟨th, ac, ht, fa, co, sz, kd, ag, fi, tr, ia, ho, ro, di⟩ := v
  obtain ⟨rfl, hS, hA, hF, hC, hT⟩ := I
  unfold wpX_restart
  dsimp only
  refine kx_begin fun fs' ce' hf hc => ?_
  dsimp only
  refine ky_restart fun fa' co' hf' hc' => ?_
  exact ⟨rfl, kw_S_all, kw_AC0, kw_FA0 hf hf', kw_CE0 hc hc', hT⟩
end
section
section
variable {wt aw tc fc : Int32} {fs ce tk ta fz hs ap na : Nat → Int32}
variable {th ac ht : Int32} {fa co sz kd ag fi tr ia ho ro di : Nat → Int32}
theorem kw_off_le {z : Nat → Nat} {h : Nat} (hz : ∀ s, s < h → z s ≤ 24) : ∀ s, s ≤ h → kw_off z s ≤ 24 * s := by
  intro s
  induction s with
  | zero => intro _; exact Nat.le_refl 0
  | succ s ih =>
    intro hs
    have := ih (by omega)
    have := hz s (by omega)
    rw [kw_off]
    omega
/-- the top formula -/
theorem kw_top {h : Nat} {z Z : Nat → Nat} (h6 : h + 1 ≤ 6) (hf : ∀ s, s < h + 1 → sz s = nI (z s) ∧ kw_fm tk ta fz kd ag Z (kw_off z s) s (z s)) : 1 ≤ z h ∧ z h ≤ 24 ∧ kw_off z h + z h ≤ 144 ∧ fz (kw_off z h + z h - 1) = nI (z h) ∧ kw_off z h ≤ 24 * h := by
  have hle : ∀ s, s ≤ h + 1 → kw_off z s ≤ 24 * s := kw_off_le fun s hs => (hf s hs).2.1
  have h0 := hle h (by omega)
  obtain ⟨e, h24, hi, hn, hZ, hw⟩ := hf h (by omega)
  refine ⟨hn, h24, by omega, ?_, h0⟩
  have := (hi (z h - 1) (by omega)).2.2.1
  rw [show kw_off z h + z h - 1 = kw_off z h + (z h - 1) from by omega, this]
  exact congrArg nI hZ
/-! facts of a world -/
theorem kx_factsOf {post : Int32 → Prop} {w : Nat} (hw : w < 16) (h : post (kw_mk (fun p => bt (fs p) w) 4)) : wpX_factsOf post (wt, aw, tc, fc, fs, ce, tk, ta, fz, hs, ap, na) (nI w) := by
  refine kw_lp (fun n i s => wX_factsOf_4 post (nI w) wt aw tc fc fs ce tk ta fz hs ap na n s (nI i)) (fun i => kw_mk (fun p => bt (fs p) w) i) 4 0 (by omega)
    (fun n => br_t (nI_le (a := 4) (by omega) (by decide)) h)
    (fun n i hi g => br_f (nI_ge (b := 4) hi (by decide)) ⟨vp_in_nI hi (by decide), nm_r ?_ (nm_r (nI_1 i) g)⟩)
  rw [nI_clamp (by omega), kw_bit _ (by omega), kw_mk]
  cases e : bt (fs i) w
  · rw [kw_b0, if_neg (by decide)]
    apply b_ext
    intro j hj
    rw [b_or, b_shl i (by omega) 0 hj, b_0]
    simp
  · rw [kw_b1, if_pos rfl]
theorem kw_facts_eq (hF : kw_FA wt fs fa) {w : Nat} (hw : w < 16) (hb : bt wt w = true) : kw_mk (fun p => bt (fs p) w) 4 = fa w := by
  apply b_ext
  intro i hi
  rw [kw_mk_bt (by omega) hi]
  by_cases z : i < 4
  · rw [decide_eq_true z, (hF w hw hb).1 i z]; rfl
  · rw [decide_eq_false z, (hF w hw hb).2 i (by omega)]; rfl
/-! classes -/
def kw_clX (wt : Int32) (ce : Nat → Int32) (a w : Nat) : Bool := bt wt w && kw_lo (ce (16 * a + w) &&& wt) w
def kw_clY (th : Int32) (co : Nat → Int32) (a w : Nat) : Bool := bt th w && kw_al (fun v => !(bt th v && kw_R co a w v)) w
theorem kw_ex_al {p : Nat → Bool} {n : Nat} : (!kw_ex p n) = kw_al (fun i => !p i) n := by
  induction n with
  | zero => rfl
  | succ n ih => rw [kw_ex, kw_al, ← ih, Bool.not_or]
theorem kw_cls_eq (hC : kw_CE wt ce co) {a : Nat} (ha : a < 3) : kw_c (kw_clX wt ce a) 16 = kw_c (kw_clY wt co a) 16 := by
  apply kw_c_cg
  intro w hw
  unfold kw_clX kw_clY
  cases hb : bt wt w
  · rfl
  · rw [kw_lo, kw_ex_al]
    congr 1
    apply kw_al_cg
    intro v hv
    rw [b_and]
    cases hv2 : bt wt v
    · rw [Bool.and_false, Bool.false_and]
    · rw [hC a ha w v hw (by omega) hb hv2, Bool.and_true, Bool.true_and]
theorem kx_classes {post : Int32 → Prop} {a : Nat} (ha : a < 3) (h : post (nI (kw_c (kw_clX wt ce a) 16))) : wpX_countClasses post (wt, aw, tc, fc, fs, ce, tk, ta, fz, hs, ap, na) (nI a) := by
  refine kw_lp (fun n i s => wX_countClasses_4 post (nI a) wt aw tc fc fs ce tk ta fz hs ap na n s (nI i)) (fun i => nI (kw_c (kw_clX wt ce a) i)) 16 0 (by omega)
    (fun n => br_t (nI_le (a := 16) (by omega) (by decide)) h)
    (fun n i hi g => br_f (nI_ge (b := 16) hi (by decide)) (kx_there hi (kw_br _ (fun e => nm_r (nI_1 i) ?_) (fun e => ⟨?_, ?_⟩))))
  · have e2 : kw_c (kw_clX wt ce a) (i + 1) = kw_c (kw_clX wt ce a) i := by
      rw [kw_c, kw_clX, e]; rfl
    rw [← e2]; exact g
  · rw [kw_ixX]; exact vp_in_nI (by omega) (by decide)
  · rw [kw_ixX, nI_clamp (by omega)]
    refine kx_low hi (kw_br _ (fun e3 => nm_r (nI_1 i) ?_) (fun e3 => nm_r ?_ (nm_r (nI_1 i) g)))
    · have e2 : kw_c (kw_clX wt ce a) (i + 1) = kw_c (kw_clX wt ce a) i := by
        rw [kw_c, kw_clX, e, e3]; rfl
      rw [← e2]; exact g
    · have e2 : kw_c (kw_clX wt ce a) (i + 1) = kw_c (kw_clX wt ce a) i + 1 := by
        rw [kw_c, kw_clX, e, e3]; rfl
      rw [e2, nI_1]
theorem ky_classes {post : Int32 → Prop} {a : Nat} (ha : a < 3) (h : post (nI (kw_c (kw_clY th co a) 16))) : wpY_classes post (th, ac, ht, fa, co, sz, kd, ag, fi, tr, ia, ho, ro, di) (nI a) := by
  unfold wpY_classes
  dsimp only
  refine ky_ag ha (br_f (by decide) ?_)
  refine kw_lp (fun n i s => wY_classes_14 post (nI a) th ac ht fa co sz kd ag fi tr ia ho ro di n s (nI i)) (fun i => nI (kw_c (kw_clY th co a) i)) 16 0 (by omega)
    (fun n => br_t (nI_le (a := 16) (by omega) (by decide)) h)
    (fun n w hw g => br_f (nI_ge (b := 16) hw (by decide)) (ky_there hw ?_))
  have hin := kw_lp (fun m i s => wY_classes_30 post (wY_classes_14 post (nI a) th ac ht fa co sz kd ag fi tr ia ho ro di n) (nI a) (nI (kw_c (kw_clY th co a) w)) (nI w) th ac ht fa co sz kd ag fi tr ia ho ro di m s (nI i)) (fun i => kw_b (bt th w && kw_al (fun v => !(bt th v && kw_R co a w v)) i)) w 0 (by omega)
    (fun m => br_t (nI_le (by omega) (by omega)) (kw_br _ (fun e => nm_r (nI_1 w) (by
        have e2 : kw_c (kw_clY th co a) (w + 1) = kw_c (kw_clY th co a) w := by
          rw [kw_c, kw_clY, e]; rfl
        rw [← e2]; exact g)) (fun e => nm_r (by
        have e2 : kw_c (kw_clY th co a) (w + 1) = kw_c (kw_clY th co a) w + 1 := by
          rw [kw_c, kw_clY, e]; rfl
        rw [e2, nI_1]) (nm_r (nI_1 w) g))))
    (fun m i hi g' => br_f (nI_ge hi (by omega)) (kw_br _ (fun e => nm_r (nI_1 i) (by
        have e2 : (bt th w && kw_al (fun v => !(bt th v && kw_R co a w v)) (i + 1)) = false := by
          rw [kw_al, ← Bool.and_assoc, e]; rfl
        rw [e2] at g'; exact g')) (fun e => ky_there (by omega) (kw_br _ (fun e3 => nm_r (nI_1 i) (by
        have e2 : (bt th w && kw_al (fun v => !(bt th v && kw_R co a w v)) (i + 1)) = true := by
          rw [kw_al, ← Bool.and_assoc, e, e3]; rfl
        rw [e2] at g'; exact g')) (fun e3 => ky_same ha hw (by omega) (kw_br _ (fun e4 => nm_r (nI_1 i) (by
        have e2 : (bt th w && kw_al (fun v => !(bt th v && kw_R co a w v)) (i + 1)) = true := by
          rw [kw_al, ← Bool.and_assoc, e, e3, kw_R, e4]; rfl
        rw [e2] at g'; exact g')) (fun e4 => nm_r (nI_1 i) (by
        have e2 : (bt th w && kw_al (fun v => !(bt th v && kw_R co a w v)) (i + 1)) = false := by
          rw [kw_al, ← Bool.and_assoc, e, e3, kw_R, e4]; rfl
        rw [e2] at g'; exact g'))))))))
  simp only [kw_al, Bool.and_true] at hin
  exact hin
end
/-! the first owed statements -/
theorem i_vc_actual {k : Nat} {u : SX} {v : SY} (I : i_Rel k u v) (hk : k + 4 ≤ 2048) (v1 : Int32) : wpX_actual (fun r u' => wpY_actual (fun r' v' => r' = r ∧ i_Rel (k + 4) u' v') v v1) u v1 := by
  obtain ⟨wt, aw, tc, fc, fs, ce, tk, ta, fz, hs, ap, na⟩ := u
  obtain ⟨th, ac, ht, fa, co, sz, kd, ag, fi, tr, ia, ho, ro, di⟩ := v
  obtain ⟨rfl, hS, hA, hF, hC, hT⟩ := I
  unfold wpX_actual wpY_actual
  dsimp only
  rcases kw_cs wt v1 with hb | ⟨w, hw, rfl, hb⟩
  · exact kx_thereN hb (br_t rfl (ky_thereN hb (br_t rfl ⟨rfl, rfl, hS, hA, hF, hC, hT⟩)))
  · refine kx_there hw (kw_br _ (fun e => absurd (e.symm.trans hb) (by decide)) fun _ => ky_there hw (kw_br _ (fun e => absurd (e.symm.trans hb) (by decide)) fun _ => ?_))
    obtain ⟨n, hn, rfl, rfl, hbn⟩ := hA
    exact ⟨rfl, rfl, hS, ⟨w, hw, rfl, rfl, hb⟩, hF, hC, hT⟩
theorem i_vc_worlds {k : Nat} {u : SX} {v : SY} (I : i_Rel k u v) (hk : k + 4 ≤ 2048) : wpX_worlds (fun r => wpY_worlds (fun r' => r' = r ∧ i_Rel (k + 4) u v) v) u := by
  have J := I
  obtain ⟨wt, aw, tc, fc, fs, ce, tk, ta, fz, hs, ap, na⟩ := u
  obtain ⟨th, ac, ht, fa, co, sz, kd, ag, fi, tr, ia, ho, ro, di⟩ := v
  obtain ⟨rfl, hS, hA, hF, hC, hT⟩ := I
  unfold wpX_worlds wpY_worlds
  dsimp only
  exact kx_cnt (ky_cnt ⟨rfl, J⟩)
theorem i_vc_facts {k : Nat} {u : SX} {v : SY} (I : i_Rel k u v) (hk : k + 4 ≤ 2048) (v1 : Int32) : wpX_facts (fun r => wpY_facts (fun r' => r' = r ∧ i_Rel (k + 4) u v) v v1) u v1 := by
  have J := I
  obtain ⟨wt, aw, tc, fc, fs, ce, tk, ta, fz, hs, ap, na⟩ := u
  obtain ⟨th, ac, ht, fa, co, sz, kd, ag, fi, tr, ia, ho, ro, di⟩ := v
  obtain ⟨rfl, hS, hA, hF, hC, hT⟩ := I
  unfold wpX_facts wpY_facts
  dsimp only
  rcases kw_cs wt v1 with hb | ⟨w, hw, rfl, hb⟩
  · exact kx_thereN hb (br_t rfl (ky_thereN hb (br_t rfl ⟨rfl, J⟩)))
  · refine kx_there hw (kw_br _ (fun e => absurd (e.symm.trans hb) (by decide)) fun _ => kx_factsOf hw (ky_there hw (kw_br _ (fun e => absurd (e.symm.trans hb) (by decide)) fun _ => ⟨vp_in_nI hw (by decide), ?_, J⟩)))
    rw [nI_clamp (by omega), kw_facts_eq hF hw hb]
theorem i_vc_classes {k : Nat} {u : SX} {v : SY} (I : i_Rel k u v) (hk : k + 4 ≤ 2048) (v1 : Int32) : wpX_classes (fun r => wpY_classes (fun r' => r' = r ∧ i_Rel (k + 4) u v) v v1) u v1 := by
  have J := I
  obtain ⟨wt, aw, tc, fc, fs, ce, tk, ta, fz, hs, ap, na⟩ := u
  obtain ⟨th, ac, ht, fa, co, sz, kd, ag, fi, tr, ia, ho, ro, di⟩ := v
  obtain ⟨rfl, hS, hA, hF, hC, hT⟩ := I
  unfold wpX_classes
  dsimp only
  rcases kw_cs3 v1 3 with hn | ⟨a, ha, rfl⟩
  · refine kx_agN hn (br_t rfl ?_)
    unfold wpY_classes
    dsimp only
    exact ky_agN hn (br_t rfl ⟨rfl, J⟩)
  · refine kx_ag ha (br_f (by decide) (kx_classes ha (ky_classes ha ⟨?_, J⟩)))
    rw [kw_cls_eq hC ha]
theorem i_vc_together {k : Nat} {u : SX} {v : SY} (I : i_Rel k u v) (hk : k + 4 ≤ 2048) (v1 : Int32) (v2 : Int32) (v3 : Int32) : wpX_together (fun r => wpY_together (fun r' => r' = r ∧ i_Rel (k + 4) u v) v v1 v2 v3) u v1 v2 v3 := by
  have J := I
  obtain ⟨wt, aw, tc, fc, fs, ce, tk, ta, fz, hs, ap, na⟩ := u
  obtain ⟨th, ac, ht, fa, co, sz, kd, ag, fi, tr, ia, ho, ro, di⟩ := v
  obtain ⟨rfl, hS, hA, hF, hC, hT⟩ := I
  unfold wpX_together wpY_together
  dsimp only
  rcases kw_cs3 v1 3 with hn | ⟨a, ha, rfl⟩
  · exact kx_agN hn (br_t rfl (ky_agN hn (br_t rfl ⟨rfl, J⟩)))
  · refine kx_ag ha (br_f (by decide) ?_)
    rcases kw_cs wt v2 with hb | ⟨w, hw, rfl, hb⟩
    · exact kx_thereN hb (br_t rfl (ky_ag ha (br_f (by decide) (ky_thereN hb (br_t rfl ⟨rfl, J⟩)))))
    · refine kx_there hw (kw_br _ (fun e => absurd (e.symm.trans hb) (by decide)) fun _ => ?_)
      rcases kw_cs wt v3 with hb3 | ⟨v, hv, rfl, hb3⟩
      · exact kx_thereN hb3 (br_t rfl (ky_ag ha (br_f (by decide) (ky_there hw (kw_br _ (fun e => absurd (e.symm.trans hb) (by decide)) fun _ => ky_thereN hb3 (br_t rfl ⟨rfl, J⟩))))))
      · refine kx_there hv (kw_br _ (fun e => absurd (e.symm.trans hb3) (by decide)) fun _ => ?_)
        rw [kw_ixX]
        refine ⟨vp_in_nI (by omega) (by decide), ?_⟩
        rw [nI_clamp (by omega)]
        refine kx_isIn (by omega) ?_
        rw [hC a ha w v hw hv hb hb3]
        refine kw_br _ (fun e => ky_ag ha (br_f (by decide) (ky_there hw (kw_br _ (fun e => absurd (e.symm.trans hb) (by decide)) fun _ => ky_there hv (kw_br _ (fun e => absurd (e.symm.trans hb3) (by decide)) fun _ => ky_same ha hw hv (kw_br _ (fun _ => ⟨rfl, J⟩) fun e2 => absurd (e.symm.trans e2) (by decide)))))))
          (fun e => ky_ag ha (br_f (by decide) (ky_there hw (kw_br _ (fun e => absurd (e.symm.trans hb) (by decide)) fun _ => ky_there hv (kw_br _ (fun e => absurd (e.symm.trans hb3) (by decide)) fun _ => ky_same ha hw hv (kw_br _ (fun e2 => absurd (e.symm.trans e2) (by decide)) fun _ => ⟨rfl, J⟩))))))
theorem i_vc_drop {k : Nat} {u : SX} {v : SY} (I : i_Rel k u v) (hk : k + 4 ≤ 2048) : wpX_drop (fun r u' => wpY_drop (fun r' v' => r' = r ∧ i_Rel (k + 4) u' v') v) u := by
  obtain ⟨wt, aw, tc, fc, fs, ce, tk, ta, fz, hs, ap, na⟩ := u
  obtain ⟨th, ac, ht, fa, co, sz, kd, ag, fi, tr, ia, ho, ro, di⟩ := v
  obtain ⟨rfl, hS, hA, hF, hC, h, z, Z, h6, rfl, rfl, rfl, hf⟩ := I
  unfold wpX_drop wpY_drop
  dsimp only
  cases h with
  | zero => exact br_t rfl (br_t rfl ⟨rfl, rfl, hS, hA, hF, hC, 0, z, Z, h6, rfl, rfl, rfl, hf⟩)
  | succ h =>
    obtain ⟨h1, h24, h144, hz, _⟩ := kw_top h6 hf
    have hne : ¬ nI (h + 1) = 0 := nI_ne0 (by omega) (by omega)
    refine br_f hne (kx_szt1 (t := kw_off z h + z h) rfl h144 (by omega) hz (nm_r (e' := nI (kw_off z h)) ?_ (nm_r (nI_pred h) (br_f hne (nm_r (nI_pred h) ⟨rfl, rfl, hS, hA, hF, hC, h, z, Z, by omega, rfl, rfl, rfl, fun s hs => hf s (by omega)⟩)))))
    rw [kw_off, pk_sub (by omega), Nat.add_sub_cancel]
end
section
theorem kw_wf_cg {K K' Z Z' : Nat → Nat} {n : Nat} (hK : ∀ i, i < n → K i = K' i) (hZ : ∀ i, i < n → Z i = Z' i) (h : kw_wf K Z n) : kw_wf K' Z' n := by
  obtain ⟨h1, h2, h3⟩ := h
  refine ⟨h1, by rw [← hZ _ (by omega)]; exact h2, fun i hi => ?_⟩
  have := h3 i hi
  rw [← hK i hi, ← hZ i hi, ← hZ (i - 1) (by omega), ← hZ (i - 1 - Z (i - 1)) (by omega)]
  exact this
theorem kw_off_cg {z z' : Nat → Nat} {h : Nat} (e : ∀ s, s < h → z s = z' s) : ∀ s, s ≤ h → kw_off z s = kw_off z' s := by
  intro s
  induction s with
  | zero => intro _; rfl
  | succ s ih => intro hs; rw [kw_off, kw_off, ih (by omega), e s (by omega)]
theorem kw_off_mono {z : Nat → Nat} {s t : Nat} (h : s ≤ t) : kw_off z s ≤ kw_off z t := by
  induction t with
  | zero => have : s = 0 := by omega
            rw [this]; exact Nat.le_refl _
  | succ t ih =>
    by_cases e : s = t + 1
    · rw [e]; exact Nat.le_refl _
    · have := ih (by omega)
      rw [kw_off]; omega
section
variable {wt aw tc fc : Int32} {fs ce tk ta fz hs ap na : Nat → Int32}
variable {th ac ht : Int32} {fa co sz kd ag fi tr ia ho ro di : Nat → Int32}
theorem kw_ST_new {h n : Nat} {z Z : Nat → Nat} {k a : Int32} {sz' kd' ag' : Nat → Int32} (h6 : h + 1 ≤ 6) (hn : n + 1 ≤ 24)
    (hf : ∀ s, s < h → sz s = nI (z s) ∧ kw_fm tk ta fz kd ag Z (kw_off z s) s (z s))
    (hc : ∀ i, i < n → kd' (24 * h + i) = tk (kw_off z h + i) ∧ ag' (24 * h + i) = ta (kw_off z h + i) ∧ fz (kw_off z h + i) = nI (Z (kw_off z h + i)) ∧ kw_ok (tk (kw_off z h + i)) (ta (kw_off z h + i)))
    (hk : kd' (24 * h + n) = k) (ha : ag' (24 * h + n) = a) (hok : kw_ok k a)
    (hfr : ∀ j, j < 24 * h → kd' j = kd j ∧ ag' j = ag j) (hsz : ∀ s, s < h → sz' s = sz s) (hsz2 : sz' h = nI (n + 1))
    (hw : kw_wf (fun i => if i < n then (tk (kw_off z h + i)).toNatClampNeg else k.toNatClampNeg) (fun i => if i < n then Z (kw_off z h + i) else n + 1) (n + 1)) :
    kw_ST (nI (kw_off z h + n + 1)) (nI (h + 1)) (nI (h + 1)) (upd tk (kw_off z h + n) k) (upd ta (kw_off z h + n) a) (upd fz (kw_off z h + n) (nI (n + 1))) sz' kd' ag' := by
  obtain ⟨z', z1, z2⟩ : ∃ z' : Nat → Nat, z' h = n + 1 ∧ ∀ s, s < h → z s = z' s := ⟨fun s => if s = h then n + 1 else z s, if_pos rfl, fun s hs => (if_neg (by omega)).symm⟩
  obtain ⟨Z', Z1, Z2⟩ : ∃ Z' : Nat → Nat, Z' (kw_off z h + n) = n + 1 ∧ ∀ j, j < kw_off z h + n → Z' j = Z j := ⟨fun j => if j = kw_off z h + n then n + 1 else Z j, if_pos rfl, fun s hs => if_neg (by omega)⟩
  have eo : ∀ s, s ≤ h → kw_off z s = kw_off z' s := kw_off_cg z2
  refine ⟨h + 1, z', Z', h6, rfl, rfl, ?_, fun s hs => ?_⟩
  · rw [kw_off, ← eo h (by omega), z1]; rfl
  · by_cases e : s = h
    · subst e
      refine ⟨by rw [z1]; exact hsz2, ?_⟩
      rw [← eo s (by omega), z1]
      refine ⟨hn, fun i hi => ?_, ?_⟩
      · by_cases e : i = n
        · subst e
          rw [pk_us, pk_us, pk_us, Z1]
          exact ⟨hk, ha, rfl, hok⟩
        · rw [pk_un (by omega), pk_un (by omega), pk_un (by omega), Z2 _ (by omega)]
          exact hc i (by omega)
      · refine kw_wf_cg (fun i hi => ?_) (fun i hi => ?_) hw
        · by_cases e : i < n
          · rw [if_pos e, pk_un (by omega)]
          · have : i = n := by omega
            subst this
            rw [if_neg e, pk_us]
        · by_cases e : i < n
          · rw [if_pos e, Z2 _ (by omega)]
          · have : i = n := by omega
            subst this
            rw [if_neg e, Z1]
    · have hs' : s < h := by omega
      obtain ⟨hz, h24, hi, hwf⟩ := hf s hs'
      have hm : kw_off z s + z s ≤ kw_off z h := kw_off_mono (s := s + 1) (z := z) hs'
      rw [← eo s (by omega), ← z2 s hs']
      refine ⟨by rw [hsz s hs']; exact hz, h24, fun i hi' => ?_, ?_⟩
      · rw [pk_un (by omega), pk_un (by omega), pk_un (by omega), Z2 _ (by omega), (hfr _ (by omega)).1, (hfr _ (by omega)).2]
        exact hi i hi'
      · refine kw_wf_cg (fun i hi => ?_) (fun i hi => ?_) hwf
        · rw [pk_un (by omega)]
        · rw [Z2 _ (by omega)]
theorem kw_wf_0 {K Z : Nat → Nat} (hk : kw_t (K 0) = 0) (hZ : Z 0 = 1) : kw_wf K Z 1 :=
  ⟨by omega, hZ, fun i hi => by
    have : i = 0 := by omega
    subst this
    exact ⟨fun _ => hZ, fun h => by rw [hk] at h; omega, fun h => by rw [hk] at h; omega⟩⟩
theorem kw_wf_1 {K Z : Nat → Nat} {n : Nat} (h : kw_wf K Z n) (hk : kw_t (K n) = 1) (hZ : Z n = n + 1) : kw_wf K Z (n + 1) := by
  obtain ⟨h1, h2, h3⟩ := h
  refine ⟨by omega, hZ, fun i hi => ?_⟩
  by_cases e : i = n
  · subst e
    refine ⟨fun h => by rw [hk] at h; omega, fun _ => ⟨h1, by rw [hZ, h2]; omega⟩, fun h => by rw [hk] at h; omega⟩
  · exact h3 i (by omega)
theorem kw_wf_2 {K Z : Nat → Nat} {n m : Nat} (h : kw_wf K Z n) (g : kw_wf (fun i => K (n + i)) (fun i => Z (n + i)) m) (hk : kw_t (K (n + m)) = 2) (hZ : Z (n + m) = n + m + 1) : kw_wf K Z (n + m + 1) := by
  obtain ⟨h1, h2, h3⟩ := h
  obtain ⟨g1, g2, g3⟩ := g
  refine ⟨by omega, hZ, fun i hi => ?_⟩
  by_cases e : i = n + m
  · subst e
    have e1 : Z (n + m - 1) = m := by rw [show n + m - 1 = n + (m - 1) from by omega]; exact g2
    refine ⟨fun h => by rw [hk] at h; omega, fun h => by rw [hk] at h; omega, fun _ => ?_⟩
    rw [e1, show n + m - 1 - m = n - 1 from by omega, h2, hZ]
    omega
  · by_cases e2 : i < n
    · exact h3 i e2
    · obtain ⟨j, rfl⟩ : ∃ j, i = n + j := ⟨i - n, by omega⟩
      obtain ⟨q0, q1, q2⟩ := g3 j (by omega)
      dsimp only at q0 q1 q2
      refine ⟨q0, fun hh => ?_, fun hh => ?_⟩
      · have := q1 hh
        rw [show n + j - 1 = n + (j - 1) from by omega]
        exact ⟨by omega, this.2⟩
      · have := q2 hh
        rw [show n + j - 1 = n + (j - 1) from by omega, show n + (j - 1) - Z (n + (j - 1)) = n + (j - 1 - Z (n + (j - 1))) from by omega]
        exact ⟨by omega, this.2⟩
theorem ky_append {post : SY → Prop} {s m : Nat} {k a : Int32} (hs : s < 6) (hm : sz s = nI m) (hb : 24 * s + m < 144) (h : post (th, ac, ht, fa, co, upd sz s (nI (m + 1)), upd kd (24 * s + m) k, upd ag (24 * s + m) a, fi, tr, ia, ho, ro, di)) : wpY_append post (th, ac, ht, fa, co, sz, kd, ag, fi, tr, ia, ho, ro, di) (nI s) k a := by
  unfold wpY_append
  dsimp only
  rw [nI_clamp (by omega), hm, kw_ixT, nI_clamp (by omega)]
  exact ⟨vp_in_nI hs (by decide), vp_in_nI hb (by decide), nm_e ⟨vp_in_nI hs (by decide), vp_in_nI hb (by decide), nm_e ⟨vp_in_nI hs (by decide), vp_in_nI hs (by decide), nm_r (by rw [nI_1]) h⟩⟩⟩
theorem ky_tok178 {post : Int32 → SY → Prop} {s m : Nat} {k a : Int32} (hs : s < 6) (hm : sz s = nI m) (hb : 24 * s + m < 144) (h : post (nI (s + 1)) (th, ac, nI (s + 1), fa, co, upd sz s (nI (m + 1)), upd kd (24 * s + m) k, upd ag (24 * s + m) a, fi, tr, ia, ho, ro, di)) : wY_token_178 post k a (nI s) th ac ht fa co sz kd ag fi tr ia ho ro di := by
  unfold wY_token_178
  refine ky_append hs hm hb ?_
  dsimp only
  exact nm_r (nI_1 s) h
/-- the copy of the second formula behind the first -/
def kw_cp (f : Nat → Int32) (b m : Nat) (s i : Nat) : Nat → Int32 := fun j => if b ≤ j ∧ j < b + i then f (24 * s + 24 + (j - b)) else f j
theorem kw_cp_upd {f : Nat → Int32} {b m s i : Nat} (hb : b = 24 * s + m) : upd (kw_cp f b m s i) (b + i) (f (24 * s + 24 + i)) = kw_cp f b m s (i + 1) := by
  funext j
  unfold upd kw_cp
  by_cases e : j = b + i
  · rw [if_pos e, if_pos (by omega), show j - b = i from by omega]
  · rw [if_neg e]
    by_cases e2 : b ≤ j ∧ j < b + i
    · rw [if_pos e2, if_pos (by omega)]
    · rw [if_neg e2, if_neg (by omega)]
theorem kw_cp_0 {f : Nat → Int32} {b m s : Nat} : kw_cp f b m s 0 = f := by
  funext j
  exact if_neg (by omega)
theorem ky_tok115 {post : Int32 → SY → Prop} {s m l : Nat} {k a : Int32} (hs : s + 1 < 6) (hm : sz s = nI m) (hl : sz (s + 1) = nI l) (h24 : m + l + 1 ≤ 24) (h : post (nI (s + 1)) (th, ac, nI (s + 1), fa, co, upd (upd sz s (nI (m + l))) s (nI (m + l + 1)), upd (kw_cp kd (24 * s + m) m s l) (24 * s + (m + l)) k, upd (kw_cp ag (24 * s + m) m s l) (24 * s + (m + l)) a, fi, tr, ia, ho, ro, di)) : ∃ n, wY_token_115 post k a 2 (nI s) n 0 th ac ht fa co sz kd ag fi tr ia ho ro di := by
  have hin := kw_lp (fun n i (q : (Nat → Int32) × (Nat → Int32) × (Nat → Int32)) => wY_token_115 post k a 2 (nI s) n (nI i) th ac ht fa co q.1 q.2.1 q.2.2 fi tr ia ho ro di) (fun i => (upd sz s (nI (m + i)), kw_cp kd (24 * s + m) m s i, kw_cp ag (24 * s + m) m s i)) l 0 (by omega)
    (fun n => br_t rfl ⟨by rw [nI_1]; exact vp_in_nI hs (by decide), br_t (by
        dsimp only
        rw [nI_1, nI_clamp (by omega), pk_un (by omega), hl]
        exact nI_le (by omega) (by omega)) (ky_tok178 (by omega) pk_us (by omega) h)⟩)
    (fun n i hi g => br_t rfl ⟨by rw [nI_1]; exact vp_in_nI hs (by decide), br_f (by
        dsimp only
        rw [nI_1, nI_clamp (by omega), pk_un (by omega), hl]
        exact nI_ge hi (by omega)) (by
        have e : 24 * nI s + 24 + nI i = nI (24 * s + 24 + i) := by
          rw [show (24 : Int32) = nI 24 from rfl, pk_mul, nI_add, nI_add]
        rw [e]
        refine ⟨vp_in_nI (by omega) (by decide), vp_in_nI (by omega) (by decide), ?_⟩
        rw [nI_clamp (by omega)]
        refine ky_append (m := m + i) (by omega) pk_us (by omega) ?_
        dsimp only
        refine nm_r (nI_1 i) ?_
        have e1 : upd (upd sz s (nI (m + i))) s (nI (m + i + 1)) = upd sz s (nI (m + (i + 1))) := kw_updupd
        have e2 : kw_cp kd (24 * s + m) m s i (24 * s + 24 + i) = kd (24 * s + 24 + i) := if_neg (by omega)
        have e3 : kw_cp ag (24 * s + m) m s i (24 * s + 24 + i) = ag (24 * s + 24 + i) := if_neg (by omega)
        rw [e1, e2, e3, show 24 * s + (m + i) = 24 * s + m + i from by omega, kw_cp_upd (m := m) rfl, kw_cp_upd (m := m) rfl]
        exact g)⟩)
  obtain ⟨n, hn⟩ := hin
  dsimp only at hn
  have e0 : upd sz s (nI (m + 0)) = sz := by
    funext j
    unfold upd
    by_cases e : j = s
    · rw [if_pos e, e, hm]; rfl
    · rw [if_neg e]
  rw [e0, kw_cp_0, kw_cp_0] at hn
  exact ⟨n, hn⟩
end
end
section
section
variable {wt aw tc fc : Int32} {fs ce tk ta fz hs ap na : Nat → Int32}
variable {th ac ht : Int32} {fa co sz kd ag fi tr ia ho ro di : Nat → Int32}
theorem kx_tok42 {post : Int32 → SX → Prop} {T q : Nat} {k a x3 : Int32} (f' : Int32) (ht : tc = nI T) (hT : q + 1 ≤ 24 → T < 144) (hq : q < 1000) (hf : fc + (1 - x3) = f') (H : ∀ post' : Int32 → Prop, post' (nI q) → wpX_sizeOfTopmost post' (wt, aw, tc, fc, fs, ce, tk, ta, fz, hs, ap, na) x3)
    (h : q + 1 ≤ 24 → post f' (wt, aw, nI (T + 1), f', fs, ce, upd tk T k, upd ta T a, upd fz T (nI (q + 1)), hs, ap, na)) (h4 : ¬ q + 1 ≤ 24 → post (-4) (wt, aw, tc, fc, fs, ce, tk, ta, fz, hs, ap, na)) : wX_token_42 post k a x3 wt aw tc fc fs ce tk ta fz hs ap na := by
  unfold wX_token_42
  refine H _ (nm_r (e' := nI (q + 1)) (by rw [Int32.add_comm, nI_1]) (pk_le (q + 1) 24 (fun z => ?_) (fun z => h4 (by omega))))
  subst ht
  have hT := hT z
  rw [nI_clamp (by omega)]
  exact ⟨vp_in_nI hT (by decide), nm_e ⟨vp_in_nI hT (by decide), nm_e ⟨vp_in_nI hT (by decide), nm_e (nm_r (nI_1 T) (nm_r hf (h z)))⟩⟩⟩
theorem kw_t_012 (κ : Nat) : kw_t κ = 0 ∨ kw_t κ = 1 ∨ kw_t κ = 2 := by
  unfold kw_t
  by_cases h : κ = 0
  · rw [if_pos h]; omega
  · rw [if_neg h]
    by_cases h2 : κ = 2 ∨ κ = 3 ∨ κ = 4 ∨ κ = 9
    · rw [if_pos h2]; omega
    · rw [if_neg h2]; omega
/-- the reference's sum of sizes, by how many are taken -/
theorem ky_sum0 {post : Int32 → SY → Prop} {h : Nat} {k a : Int32} (hh : ht = nI h) (h6 : h < 6) (H : post (nI (h + 1)) (th, ac, nI (h + 1), fa, co, upd (upd sz h 0) h (nI 1), upd kd (24 * h + 0) k, upd ag (24 * h + 0) a, fi, tr, ia, ho, ro, di)) : ∀ x5, x5 = ht - nI 0 → ∃ n, wY_token_55 post k a (nI 0) th ac ht fa co sz kd ag fi tr ia ho ro di n 1 x5 := by
  have e0 : ht - nI 0 = nI h := by rw [hh, pk_sub (by omega)]; rfl
  intro x5 e5
  rw [e0] at e5
  subst e5
  refine ⟨1, br_t (by rw [hh]; exact nI_le (by omega) (by omega)) (br_t (by decide) (nm_r e0 (br_t rfl ⟨vp_in_nI h6 (by decide), nm_r (e' := upd sz h 0) (by rw [nI_clamp (by omega)]) ?_⟩)))⟩
  exact ⟨1, br_f (by decide) (ky_tok178 (m := 0) h6 pk_us (by omega) H)⟩
theorem ky_sum1 {post : Int32 → SY → Prop} {h m : Nat} {k a : Int32} (hh : ht = nI (h + 1)) (h6 : h < 6) (hm : sz h = nI m) (h100 : m < 100) (H : m + 1 ≤ 24 → post (nI (h + 1)) (th, ac, nI (h + 1), fa, co, upd sz h (nI (m + 1)), upd kd (24 * h + m) k, upd ag (24 * h + m) a, fi, tr, ia, ho, ro, di)) (H4 : ¬ m + 1 ≤ 24 → post (-4) (th, ac, ht, fa, co, sz, kd, ag, fi, tr, ia, ho, ro, di)) : ∀ x5, x5 = ht - nI 1 → ∃ n, wY_token_55 post k a (nI 1) th ac ht fa co sz kd ag fi tr ia ho ro di n 1 x5 := by
  have e0 : ht - nI 1 = nI h := by rw [hh, pk_sub (by omega)]; rfl
  intro x5 e5
  rw [e0] at e5
  subst e5
  refine ⟨2, br_f (by rw [hh]; exact nI_ge (by omega) (by omega)) ⟨vp_in_nI h6 (by decide), nm_r (e' := nI (m + 1)) (by rw [nI_clamp (by omega), hm, Int32.add_comm, nI_1]) (nm_r (nI_1 h) (br_t (by rw [hh]; exact nI_le (by omega) (by omega)) (pk_le (m + 1) 24 (fun z => nm_r e0 (br_f (by decide) ?_)) (fun z => H4 (by omega)))))⟩⟩
  exact ⟨1, br_f (by decide) (ky_tok178 h6 hm (by omega) (H z))⟩
theorem ky_sum2 {post : Int32 → SY → Prop} {h m l : Nat} {k a : Int32} (hh : ht = nI (h + 2)) (h6 : h + 1 < 6) (hm : sz h = nI m) (hl : sz (h + 1) = nI l) (h100 : m < 100) (h101 : l < 100) (H : m + l + 1 ≤ 24 → post (nI (h + 1)) (th, ac, nI (h + 1), fa, co, upd (upd sz h (nI (m + l))) h (nI (m + l + 1)), upd (kw_cp kd (24 * h + m) m h l) (24 * h + (m + l)) k, upd (kw_cp ag (24 * h + m) m h l) (24 * h + (m + l)) a, fi, tr, ia, ho, ro, di)) (H4 : ¬ m + l + 1 ≤ 24 → post (-4) (th, ac, ht, fa, co, sz, kd, ag, fi, tr, ia, ho, ro, di)) : ∀ x5, x5 = ht - nI 2 → ∃ n, wY_token_55 post k a (nI 2) th ac ht fa co sz kd ag fi tr ia ho ro di n 1 x5 := by
  have e0 : ht - nI 2 = nI h := by rw [hh, pk_sub (by omega)]; rfl
  intro x5 e5
  rw [e0] at e5
  subst e5
  refine ⟨3, br_f (by rw [hh]; exact nI_ge (by omega) (by omega)) ⟨vp_in_nI (by omega) (by decide), nm_r (e' := nI (m + 1)) (by rw [nI_clamp (by omega), hm, Int32.add_comm, nI_1]) (nm_r (nI_1 h) (br_f (by rw [hh]; exact nI_ge (by omega) (by omega)) ⟨vp_in_nI h6 (by decide), nm_r (e' := nI (m + l + 1)) (by rw [nI_clamp (by omega), hl, nI_add]; exact congrArg nI (by omega)) (nm_r (nI_1 (h + 1)) (br_t (by rw [hh]; exact nI_le (by omega) (by omega)) (pk_le (m + l + 1) 24 (fun z => nm_r e0 (br_f (by decide) ?_)) (fun z => H4 (by omega)))))⟩))⟩⟩
  exact ky_tok115 h6 hm hl z (H z)
end
theorem i_vc_token {k : Nat} {u : SX} {v : SY} (I : i_Rel k u v) (hk : k + 4 ≤ 2048) (v1 : Int32) (v2 : Int32) : wpX_token (fun r u' => wpY_token (fun r' v' => r' = r ∧ i_Rel (k + 4) u' v') v v1 v2) u v1 v2 := by
  have J := I
  obtain ⟨wt, aw, tc, fc, fs, ce, tk, ta, fz, hs, ap, na⟩ := u
  obtain ⟨th, ac, ht, fa, co, sz, kd, ag, fi, tr, ia, ho, ro, di⟩ := v
  obtain ⟨rfl, hS, hA, hF, hC, h, z, Z, h6, rfl, rfl, rfl, hf⟩ := I
  unfold wpX_token wpY_token
  dsimp only
  rcases kw_tokP (th := wt) (ac := ac) (ht := nI h) (fa := fa) (co := co) (sz := sz) (kd := kd) (ag := ag) (fi := fi) (tr := tr) (ia := ia) (ho := ho) (ro := ro) (di := di) v1 v2 with ⟨hok, hX, hY⟩ | ⟨hX, hY⟩
  · have hok2 := hok
    obtain ⟨κ, hκ, rfl, _⟩ := hok
    have hcl : (nI κ).toNatClampNeg = κ := nI_clamp (by omega)
    refine hX _ (br_f (by decide) (kx_taken κ hκ ?_))
    rcases kw_t_012 κ with ht | ht | ht
    · rw [ht]
      refine br_t (nI_le (by omega) (by omega)) (br_t rfl (pk_eq h 6 (fun e => ?_) (fun e => ?_)))
      · exact hY _ (br_f (by decide) (ky_takes κ hκ (by rw [ht]; exact br_t (nI_le (by omega) (by omega)) (br_t rfl (br_t (by rw [e]; rfl) ⟨rfl, J⟩)))))
      · have hle := kw_off_le (z := z) (h := h) (fun s hs => (hf s hs).2.1) h (by omega)
        refine kx_tok42 (T := kw_off z h) (q := 0) (nI (h + 1)) rfl (by omega) (by omega) (nI_1 h) (fun post' hp => kx_szt0 hp) (fun _ => ?_) (fun z => absurd (by omega) z)
        refine hY _ (br_f (by decide) (ky_takes κ hκ ?_))
        rw [ht]
        refine br_t (nI_le (by omega) (by omega)) (br_t rfl (br_f (fun z => e ((nI_eq (b := 6) (by omega) (by omega)).mp z)) (ky_sum0 rfl (by omega) ⟨rfl, rfl, hS, hA, hF, hC, ?_⟩)))
        refine kw_ST_new (n := 0) (by omega) (by omega) hf (fun i hi => absurd hi (by omega)) pk_us pk_us hok2 (fun j hj => ⟨pk_un (by omega), pk_un (by omega)⟩) (fun s hs => ?_) pk_us ?_
        · rw [pk_un (by omega), pk_un (by omega)]
        · refine kw_wf_0 ?_ rfl
          show kw_t (nI κ).toNatClampNeg = 0
          rw [hcl, ht]
    · rw [ht]
      cases h with
      | zero => exact br_f (by decide) (hY _ (br_f (by decide) (ky_takes κ hκ (by rw [ht]; exact br_f (by decide) ⟨rfl, J⟩))))
      | succ h =>
        have hle := kw_off_le (z := z) (h := h + 1) (fun s hs => (hf s hs).2.1) (h + 1) (by omega)
        obtain ⟨h1, h24, h144, hz, hoh⟩ := kw_top h6 hf
        obtain ⟨es, _, hc, hw⟩ := hf h (by omega)
        refine br_t (nI_le (a := 1) (by omega) (by omega)) (br_f (by decide) (kx_tok42 (T := kw_off z h + z h) (q := z h) (nI (h + 1)) rfl (by omega) (by omega) (by rw [show (1 : Int32) - nI 1 = 0 from by decide, Int32.add_zero]) (fun post' hp => kx_szt1 (t := kw_off z h + z h) rfl (by omega) (by omega) hz hp) (fun z24 => ?_) (fun z24 => ?_)))
        · refine hY _ (br_f (by decide) (ky_takes κ hκ ?_))
          rw [ht]
          refine br_t (nI_le (a := 1) (by omega) (by omega)) (br_f (by decide) (ky_sum1 rfl (by omega) es (by omega) (fun _ => ⟨rfl, rfl, hS, hA, hF, hC, ?_⟩) (fun q => absurd z24 q)))
          refine kw_ST_new (n := z h) (by omega) z24 (fun s hs => hf s (by omega)) (fun i hi => ?_) pk_us pk_us hok2 (fun j hj => ⟨pk_un (by omega), pk_un (by omega)⟩) (fun s hs => pk_un (by omega)) pk_us ?_
          · rw [pk_un (by omega), pk_un (by omega)]
            exact hc i hi
          · refine kw_wf_1 (kw_wf_cg (fun i hi => (if_pos hi).symm) (fun i hi => (if_pos hi).symm) hw) ?_ (if_neg (by omega))
            rw [if_neg (by omega), hcl, ht]
        · refine hY _ (br_f (by decide) (ky_takes κ hκ ?_))
          rw [ht]
          exact br_t (nI_le (a := 1) (by omega) (by omega)) (br_f (by decide) (ky_sum1 rfl (by omega) es (by omega) (fun q => absurd q z24) (fun _ => ⟨rfl, J⟩)))
    · rw [ht]
      rcases (by omega : h = 0 ∨ h = 1 ∨ 2 ≤ h) with rfl | rfl | h2
      · exact br_f (by decide) (hY _ (br_f (by decide) (ky_takes κ hκ (by rw [ht]; exact br_f (by decide) ⟨rfl, J⟩))))
      · exact br_f (by decide) (hY _ (br_f (by decide) (ky_takes κ hκ (by rw [ht]; exact br_f (by decide) ⟨rfl, J⟩))))
      · obtain ⟨h, rfl⟩ : ∃ g, h = g + 2 := ⟨h - 2, by omega⟩
        have hle := kw_off_le (z := z) (h := h + 2) (fun s hs => (hf s hs).2.1) (h + 2) (by omega)
        obtain ⟨h1, h24, h144, hz, hoh⟩ := kw_top (h := h + 1) h6 hf
        obtain ⟨g1, g24, g144, gz, goh⟩ := kw_top (h := h) (z := z) (Z := Z) (by omega) (fun s hs => hf s (by omega))
        obtain ⟨es, _, hc, hw⟩ := hf h (by omega)
        obtain ⟨es1, _, hc1, hw1⟩ := hf (h + 1) (by omega)
        have eo : kw_off z (h + 1) = kw_off z h + z h := rfl
        rw [eo] at h144 hz hoh hc1 hw1
        have goh1 : kw_off z (h + 1) ≤ 24 * h + 24 := by rw [eo]; omega
        have eT : kw_off z (h + 2) = kw_off z h + (z h + z (h + 1)) := by
          show kw_off z h + z h + z (h + 1) = _
          omega
        refine br_t (nI_le (a := 2) (by omega) (by omega)) (br_f (by decide) (kx_tok42 (T := kw_off z h + (z h + z (h + 1))) (q := z h + z (h + 1)) (nI (h + 1)) (by rw [eT]) (by omega) (by omega) ?_ (fun post' hp => kx_szt2 (t := kw_off z h + (z h + z (h + 1))) (z1 := z (h + 1)) (z2 := z h) (by rw [eT]) (by omega) (by omega) (by omega) (by rw [← hz]; exact congrArg fz (by omega)) (by rw [← gz]; exact congrArg fz (by omega)) (by rw [Nat.add_comm]; exact hp)) (fun z24 => ?_) (fun z24 => ?_)))
        · rw [show (1 : Int32) - nI 2 = -1 from by decide]
          exact pk_m1 (h + 1)
        · refine hY _ (br_f (by decide) (ky_takes κ hκ ?_))
          rw [ht]
          refine br_t (nI_le (a := 2) (by omega) (by omega)) (br_f (by decide) (ky_sum2 rfl (by omega) es es1 (by omega) (by omega) (fun _ => ⟨rfl, rfl, hS, hA, hF, hC, ?_⟩) (fun q => absurd z24 q)))
          refine kw_ST_new (n := z h + z (h + 1)) (by omega) z24 (fun s hs => hf s (by omega)) (fun i hi => ?_) pk_us pk_us hok2 (fun j hj => ⟨?_, ?_⟩) (fun s hs => ?_) pk_us ?_
          · rw [pk_un (by omega), pk_un (by omega)]
            by_cases e : i < z h
            · have e1 : kw_cp kd (24 * h + z h) (z h) h (z (h + 1)) (24 * h + i) = kd (24 * h + i) := if_neg (by omega)
              have e2 : kw_cp ag (24 * h + z h) (z h) h (z (h + 1)) (24 * h + i) = ag (24 * h + i) := if_neg (by omega)
              rw [e1, e2]
              exact hc i e
            · obtain ⟨j, rfl⟩ : ∃ j, i = z h + j := ⟨i - z h, by omega⟩
              have e1 : kw_cp kd (24 * h + z h) (z h) h (z (h + 1)) (24 * h + (z h + j)) = kd (24 * h + 24 + (24 * h + (z h + j) - (24 * h + z h))) := if_pos (by omega)
              have e2 : kw_cp ag (24 * h + z h) (z h) h (z (h + 1)) (24 * h + (z h + j)) = ag (24 * h + 24 + (24 * h + (z h + j) - (24 * h + z h))) := if_pos (by omega)
              rw [e1, e2, show 24 * h + 24 + (24 * h + (z h + j) - (24 * h + z h)) = 24 * (h + 1) + j from by omega, ← Nat.add_assoc]
              exact hc1 j (by omega)
          · rw [pk_un (by omega)]; exact if_neg (by omega)
          · rw [pk_un (by omega)]; exact if_neg (by omega)
          · rw [pk_un (by omega), pk_un (by omega)]
          · refine kw_wf_2 (n := z h) (m := z (h + 1)) (kw_wf_cg (fun i hi => (if_pos (by omega)).symm) (fun i hi => (if_pos (by omega)).symm) hw) (kw_wf_cg (fun i hi => ?_) (fun i hi => ?_) hw1) ?_ (if_neg (by omega))
            · rw [if_pos (by omega), Nat.add_assoc]
            · rw [if_pos (by omega), Nat.add_assoc]
            · rw [if_neg (by omega), hcl, ht]
        · refine hY _ (br_f (by decide) (ky_takes κ hκ ?_))
          rw [ht]
          exact br_t (nI_le (a := 2) (by omega) (by omega)) (br_f (by decide) (ky_sum2 rfl (by omega) es es1 (by omega) (by omega) (fun q => absurd q z24) (fun _ => ⟨rfl, J⟩)))
  · exact hX _ (br_t rfl (hY _ (br_t rfl ⟨rfl, J⟩)))
end
section
section
variable {wt aw tc fc : Int32} {fs ce tk ta fz hs ap na : Nat → Int32}
variable {th ac ht : Int32} {fa co sz kd ag fi tr ia ho ro di : Nat → Int32}
def kw_ps (fs : Nat → Int32) (n m : Nat) (c0 : Int32) : Nat → Int32
  | 0 => c0
  | q + 1 => if bt (nI m) q then (if bt (fs q) n then kw_ps fs n m c0 q &&& fs q else kw_ps fs n m c0 q &&& (fs q ^^^ (-1))) else kw_ps fs n m c0 q
def kw_stX (fs : Nat → Int32) (p : Nat) (c : Int32) : Bool := decide (c &&& fs p = 0 ∨ c &&& fs p = c)
theorem kx_settled {post : Int32 → Prop} {n a p m : Nat} (haw : aw = nI n) (hn : n < 16) (ha : a < 3) (hp : p < 4) (hm : m < 16) (h : post (kw_b (kw_stX fs p (kw_ps fs n m (ce (16 * a + n) &&& wt) 4)))) : wpX_isSettledBy post (wt, aw, tc, fc, fs, ce, tk, ta, fz, hs, ap, na) (nI m) (nI a) (nI p) := by
  unfold wpX_isSettledBy
  dsimp only
  rw [haw, kw_ixX]
  refine ⟨vp_in_nI (by omega) (by decide), ?_⟩
  rw [nI_clamp (by omega)]
  refine nm_e ?_
  refine kw_lp (fun k i s => wX_isSettledBy_24 post (nI m) (nI p) wt (nI n) tc fc fs ce tk ta fz hs ap na k s (nI i)) (fun i => kw_ps fs n m (ce (16 * a + n) &&& wt) i) 4 0 (by omega) (fun k => ?_) (fun k i hi g => ?_)
  · refine br_t (nI_le (a := 4) (by omega) (by decide)) ⟨vp_in_nI hp (by decide), ?_⟩
    rw [nI_clamp (by omega)]
    refine nm_e ?_
    generalize kw_ps fs n m (ce (16 * a + n) &&& wt) 4 = c at h
    by_cases e1 : c &&& fs p = 0
    · rw [kw_stX, decide_eq_true (Or.inl e1)] at h
      exact br_t e1 h
    · refine br_f e1 ?_
      by_cases e2 : c &&& fs p = c
      · rw [kw_stX, decide_eq_true (Or.inr e2)] at h
        exact br_t e2 h
      · rw [kw_stX, decide_eq_false (fun z => z.elim e1 e2)] at h
        exact br_f e2 h
  · refine br_f (nI_ge (b := 4) hi (by decide)) (kx_isIn (by omega) (kw_br _ (fun e => nm_r (nI_1 i) ?_) (fun e => ⟨vp_in_nI hi (by decide), ?_⟩)))
    · rw [kw_ps, if_neg (by rw [e]; decide)] at g
      exact g
    · rw [nI_clamp (by omega)]
      refine kx_isIn (by omega) (kw_br _ (fun e2 => ⟨vp_in_nI hi (by decide), nm_r ?_ (nm_r (nI_1 i) g)⟩) (fun e2 => ⟨vp_in_nI hi (by decide), nm_r ?_ (nm_r (nI_1 i) g)⟩))
      · rw [kw_ps, if_pos e, if_neg (by rw [e2]; decide)]
      · rw [kw_ps, if_pos e, if_pos e2]
def kw_lf (th : Int32) (fa co : Nat → Int32) (n a p m w : Nat) : Bool := !(bt th w && kw_R co a n w && decide ((fa w ^^^ fa n) &&& nI m = 0)) || (bt (fa w) p == bt (fa n) p)
theorem ky_knows63 {post : Int32 → Prop} {J : Int32 → Int32 → Prop} {n p w : Nat} {x1 x3 : Int32} {b l : Bool} (hac : ac = nI n) (hn : n < 16) (hp : p < 4) (hw : w < 16) (h : J (kw_b (b && (!l || (bt (fa w) p == bt (fa n) p)))) (nI (w + 1))) : wY_knows_63 post J x1 (nI p) x3 (kw_b b) (nI w) (kw_b l) th ac ht fa co sz kd ag fi tr ia ho ro di := by
  unfold wY_knows_63
  refine kw_br _ (fun e => nm_r (nI_1 w) (by rw [e] at h; exact h)) (fun e => kw_br _ (fun e2 => nm_r (nI_1 w) (by rw [e, e2] at h; exact h)) (fun e2 => ⟨vp_in_nI hw (by decide), ?_⟩))
  rw [nI_clamp (by omega)]
  refine ky_in (by omega) ⟨by rw [hac]; exact vp_in_nI hn (by decide), ?_⟩
  rw [hac, nI_clamp (by omega)]
  refine ky_in (by omega) (kw_br2 _ _ (fun e3 => nm_r (nI_1 w) ?_) (fun e3 => nm_r (nI_1 w) ?_))
  · rw [e, e2, e3] at h
    have e4 : (true && (!true || (bt (fa n) p == bt (fa n) p))) = true := by simp
    rw [e4] at h
    exact h
  · rw [e, e2] at h
    have : (bt (fa w) p == bt (fa n) p) = false := by simpa using e3
    rw [this] at h
    exact h
theorem ky_knows {post : Int32 → Prop} {n a p m : Nat} (hac : ac = nI n) (hn : n < 16) (ha : a < 3) (hp : p < 4) (hm : m < 16) (h : post (kw_b (kw_al (kw_lf th fa co n a p m) 16))) : wpY_knows post (th, ac, ht, fa, co, sz, kd, ag, fi, tr, ia, ho, ro, di) (nI a) (nI p) (nI m) := by
  subst hac
  unfold wpY_knows
  dsimp only
  refine kw_lp (fun k i s => wY_knows_6 post (nI a) (nI p) (nI m) th (nI n) ht fa co sz kd ag fi tr ia ho ro di k s (nI i)) (fun i => kw_b (kw_al (kw_lf th fa co n a p m) i)) 16 0 (by omega) (fun k => ?_) (fun k i hi g => ?_)
  · exact br_t (nI_le (a := 16) (by omega) (by decide)) ⟨kw_nar _, h⟩
  · refine br_f (nI_ge (b := 16) hi (by decide)) (ky_there hi (kw_br _ (fun e => ?_) (fun e => ?_)))
    · refine ky_knows63 (l := false) rfl hn hp hi ?_
      rw [kw_al, kw_lf, e] at g
      exact g
    · refine ky_same ha hn hi (kw_br _ (fun e2 => ?_) (fun e2 => ⟨vp_in_nI hi (by decide), vp_in_nI hn (by decide), ?_⟩))
      · refine ky_knows63 (l := false) rfl hn hp hi ?_
        rw [kw_al, kw_lf, e, kw_R, e2] at g
        exact g
      · rw [nI_clamp (by omega), nI_clamp (by omega)]
        by_cases e3 : (fa i ^^^ fa n) &&& nI m = 0
        · refine br_t e3 (ky_knows63 (l := true) rfl hn hp hi ?_)
          rw [kw_al, kw_lf, e, kw_R, e2, decide_eq_true e3] at g
          exact g
        · refine br_f e3 (ky_knows63 (l := false) rfl hn hp hi ?_)
          rw [kw_al, kw_lf, e, kw_R, e2, decide_eq_false e3] at g
          exact g
theorem kw_ps_bt {c0 : Int32} {n m : Nat} : ∀ q v, v < 32 → (bt (kw_ps fs n m c0 q) v = true ↔ bt c0 v = true ∧ ∀ i, i < q → bt (nI m) i = true → bt (fs i) v = bt (fs i) n) := by
  intro q v hv
  induction q with
  | zero => exact ⟨fun h => ⟨h, fun i hi => absurd hi (by omega)⟩, fun h => h.1⟩
  | succ q ih =>
    have key : bt (kw_ps fs n m c0 (q + 1)) v = true ↔ bt (kw_ps fs n m c0 q) v = true ∧ (bt (nI m) q = true → bt (fs q) v = bt (fs q) n) := by
      rw [kw_ps]
      cases e : bt (nI m) q
      · simp
      · cases e2 : bt (fs q) n
        · rw [if_pos rfl, if_neg (by decide), b_and, kw_not _ hv]
          simp
        · simp [b_and]
    rw [key, ih]
    constructor
    · rintro ⟨⟨h1, h2⟩, h3⟩
      refine ⟨h1, fun i hi => ?_⟩
      by_cases e : i = q
      · rw [e]; exact h3
      · exact h2 i (by omega)
    · rintro ⟨h1, h2⟩
      exact ⟨⟨h1, fun i hi => h2 i (by omega)⟩, h2 q (by omega)⟩
theorem kw_st_eq (hS : kw_S wt) (hF : kw_FA wt fs fa) (hC : kw_CE wt ce co) {n a p m : Nat} (hn : n < 16) (hb : bt wt n = true) (ha : a < 3) (hp : p < 4) (hm : m < 16) : kw_stX fs p (kw_ps fs n m (ce (16 * a + n) &&& wt) 4) = kw_al (kw_lf wt fa co n a p m) 16 := by
  have hps : ∀ v, v < 32 → (bt (kw_ps fs n m (ce (16 * a + n) &&& wt) 4) v = true ↔ v < 16 ∧ bt wt v = true ∧ kw_R co a n v = true ∧ (fa v ^^^ fa n) &&& nI m = 0) := by
    intro v hv
    rw [kw_ps_bt 4 v hv, b_and]
    constructor
    · rintro ⟨h1, h2⟩
      simp only [Bool.and_eq_true] at h1
      have hv16 : v < 16 := by
        apply Classical.byContradiction
        intro z
        rw [hS v (by omega)] at h1
        exact absurd h1.2 (by decide)
      refine ⟨hv16, h1.2, by rw [← hC a ha n v hn hv16 hb h1.2]; exact h1.1, ?_⟩
      rw [kw_zero]
      intro i hi
      rw [b_and, b_xor]
      by_cases z : i < 4
      · cases e : bt (nI m) i
        · simp
        · have := h2 i z e
          rw [(hF v hv16 h1.2).1 i z, (hF n hn hb).1 i z] at this
          rw [this]; simp
      · rw [kw_hi4 m hm i hi (by omega)]; simp
    · rintro ⟨hv16, h1, h2, h3⟩
      refine ⟨by rw [hC a ha n v hn hv16 hb h1, h2, h1]; rfl, fun i hi e => ?_⟩
      rw [kw_zero] at h3
      have := h3 i (by omega)
      rw [b_and, b_xor, e] at this
      rw [(hF v hv16 h1).1 i hi, (hF n hn hb).1 i hi]
      simpa using this
  generalize kw_ps fs n m (ce (16 * a + n) &&& wt) 4 = c at hps
  have hcn : bt c n = true := (hps n (by omega)).mpr ⟨hn, hb, by unfold kw_R; exact decide_eq_true rfl, by
    rw [kw_zero]; intro i _; rw [b_and, b_xor]; simp⟩
  have key : (c &&& fs p = 0 ∨ c &&& fs p = c) ↔ ∀ v, v < 16 → bt c v = true → bt (fa v) p = bt (fa n) p := by
    constructor
    · rintro (h | h) v hv hc
      · rw [kw_zero] at h
        have h1 := h v (by omega)
        have h2 := h n (by omega)
        rw [b_and, hc] at h1
        rw [b_and, hcn] at h2
        rw [← (hF v hv ((hps v (by omega)).mp hc).2.1).1 p hp, ← (hF n hn hb).1 p hp]
        simp only [Bool.true_and] at h1 h2
        rw [h1, h2]
      · have h1 : bt (c &&& fs p) v = bt c v := by rw [h]
        have h2 : bt (c &&& fs p) n = bt c n := by rw [h]
        rw [b_and, hc] at h1
        rw [b_and, hcn] at h2
        rw [← (hF v hv ((hps v (by omega)).mp hc).2.1).1 p hp, ← (hF n hn hb).1 p hp]
        simp only [Bool.true_and] at h1 h2
        rw [h1, h2]
    · intro h
      cases e : bt (fa n) p
      · left
        rw [kw_zero]
        intro v hv
        rw [b_and]
        cases e2 : bt c v
        · rfl
        · have z := (hps v hv).mp e2
          rw [(hF v z.1 z.2.1).1 p hp, h v z.1 e2, e]; rfl
      · right
        apply b_ext
        intro v hv
        rw [b_and]
        cases e2 : bt c v
        · rfl
        · have z := (hps v hv).mp e2
          rw [(hF v z.1 z.2.1).1 p hp, h v z.1 e2, e]; rfl
  have key2 : kw_al (kw_lf wt fa co n a p m) 16 = true ↔ ∀ v, v < 16 → bt c v = true → bt (fa v) p = bt (fa n) p := by
    rw [kw_al_iff]
    constructor
    · intro h v hv hc
      have := h v hv
      obtain ⟨_, z1, z2, z3⟩ := (hps v (by omega)).mp hc
      rw [kw_lf, z1, z2, decide_eq_true z3] at this
      simpa using this
    · intro h v hv
      rw [kw_lf]
      by_cases hc : bt c v = true
      · have := h v hv hc
        rw [this]; simp
      · have : ¬ (bt wt v = true ∧ kw_R co a n v = true ∧ (fa v ^^^ fa n) &&& nI m = 0) := fun z => hc ((hps v (by omega)).mpr ⟨hv, z⟩)
        cases e1 : bt wt v
        · rfl
        · cases e2 : kw_R co a n v
          · rfl
          · rw [decide_eq_false (fun z => this ⟨e1, e2, z⟩)]; rfl
  rw [kw_stX]
  by_cases z : c &&& fs p = 0 ∨ c &&& fs p = c
  · rw [decide_eq_true z, key2.mpr (key.mp z)]
  · rw [decide_eq_false z]
    cases e : kw_al (kw_lf wt fa co n a p m) 16
    · rfl
    · exact absurd (key.mpr (key2.mp e)) z
def kw_nd (g : Nat → Bool) : Nat → Int32
  | 0 => -2
  | i + 1 => if g i then (if kw_nd g i < 0 then nI (kw_c (bt (nI i)) 16) else if kw_nd g i ≤ nI (kw_c (bt (nI i)) 16) then kw_nd g i else nI (kw_c (bt (nI i)) 16)) else kw_nd g i
theorem kw_nd_cg {g g' : Nat → Bool} {n : Nat} (h : ∀ i, i < n → g i = g' i) : kw_nd g n = kw_nd g' n := by
  induction n with
  | zero => rfl
  | succ n ih => rw [kw_nd, kw_nd, ih fun i hi => h i (by omega), h n (by omega)]
theorem kx_needed {post : Int32 → Prop} {n a p : Nat} {g : Nat → Bool} (haw : aw = nI n) (hn : n < 16) (ha : a < 3) (hp : p < 4) (hg : ∀ m, m < 16 → g m = (!bt (nI m) p && kw_stX fs p (kw_ps fs n m (ce (16 * a + n) &&& wt) 4))) (h : post (kw_nd g 16)) : ∃ k, wX_needed_22 post (nI a) (nI p) wt aw tc fc fs ce tk ta fz hs ap na k (-2) 0 := by
  refine kw_lp (fun k i s => wX_needed_22 post (nI a) (nI p) wt aw tc fc fs ce tk ta fz hs ap na k s (nI i)) (fun i => kw_nd g i) 16 0 (by omega) (fun k => ?_) (fun k i hi G => ?_)
  · exact br_t (nI_le (a := 16) (by omega) (by decide)) h
  · rw [kw_nd, hg i hi] at G
    refine br_f (nI_ge (b := 16) hi (by decide)) (kx_isIn (by omega) (kw_br _ (fun e => ?_) (fun e => ?_)))
    · refine kx_settled haw hn ha hp hi (kw_br _ (fun e2 => nm_r (nI_1 i) ?_) (fun e2 => kx_cnt ?_))
      · rw [e, e2] at G
        exact G
      · rw [e, e2] at G
        rw [if_pos (by decide)] at G
        by_cases z : kw_nd g i < 0
        · rw [if_pos z] at G
          exact br_t z (nm_r (nI_1 i) G)
        · rw [if_neg z] at G
          refine br_f z ?_
          by_cases z2 : kw_nd g i ≤ nI (kw_c (bt (nI i)) 16)
          · rw [if_pos z2] at G
            exact br_t z2 (nm_r (nI_1 i) G)
          · rw [if_neg z2] at G
            exact br_f z2 (nm_r (nI_1 i) G)
    · rw [e] at G
      exact nm_r (nI_1 i) G
theorem ky_needed {post : Int32 → Prop} {n a p : Nat} {g : Nat → Bool} (hac : ac = nI n) (hn : n < 16) (ha : a < 3) (hp : p < 4) (hg : ∀ m, m < 16 → g m = (!bt (nI m) p && kw_al (kw_lf th fa co n a p m) 16)) (h : post (kw_nd g 16)) : ∃ k, wY_needed_25 post (nI a) (nI p) th ac ht fa co sz kd ag fi tr ia ho ro di k (-2) 0 := by
  refine kw_lp (fun k i s => wY_needed_25 post (nI a) (nI p) th ac ht fa co sz kd ag fi tr ia ho ro di k s (nI i)) (fun i => kw_nd g i) 16 0 (by omega) (fun k => ?_) (fun k i hi G => ?_)
  · exact br_t (nI_le (a := 16) (by omega) (by decide)) h
  · rw [kw_nd, hg i hi] at G
    refine br_f (nI_ge (b := 16) hi (by decide)) (ky_in (by omega) (kw_br _ (fun e => ?_) (fun e => ?_)))
    · refine ky_knows hac hn ha hp hi (kw_br _ (fun e2 => nm_r (nI_1 i) ?_) (fun e2 => ky_cnt ?_))
      · rw [e, e2] at G
        exact G
      · rw [e, e2] at G
        rw [if_pos (by decide)] at G
        by_cases z : kw_nd g i < 0
        · rw [if_pos z] at G
          exact br_t z (nm_r (nI_1 i) G)
        · rw [if_neg z] at G
          refine br_f z ?_
          by_cases z2 : kw_nd g i ≤ nI (kw_c (bt (nI i)) 16)
          · rw [if_pos z2] at G
            exact br_t z2 (nm_r (nI_1 i) G)
          · rw [if_neg z2] at G
            exact br_f z2 (nm_r (nI_1 i) G)
    · rw [e] at G
      exact nm_r (nI_1 i) G
end
theorem i_vc_needed {k : Nat} {u : SX} {v : SY} (I : i_Rel k u v) (hk : k + 4 ≤ 2048) (v1 : Int32) (v2 : Int32) : wpX_needed (fun r => wpY_needed (fun r' => r' = r ∧ i_Rel (k + 4) u v) v v1 v2) u v1 v2 := by
  have J := I
  obtain ⟨wt, aw, tc, fc, fs, ce, tk, ta, fz, hs, ap, na⟩ := u
  obtain ⟨th, ac, ht, fa, co, sz, kd, ag, fi, tr, ia, ho, ro, di⟩ := v
  obtain ⟨rfl, hS, hA, hF, hC, hT⟩ := I
  unfold wpX_needed wpY_needed
  dsimp only
  rcases kw_cs3 v1 3 with hn | ⟨a, ha, rfl⟩
  · exact kx_agN hn (br_t rfl (ky_agN hn (br_t rfl ⟨rfl, J⟩)))
  · refine kx_ag ha (br_f (by decide) ?_)
    rcases kw_cs3 v2 4 with hn | ⟨p, hp, rfl⟩
    · exact kx_faN hn (br_t rfl (ky_ag ha (br_f (by decide) (ky_faN hn ⟨rfl, J⟩))))
    · refine kx_fa hp (br_f (by decide) ?_)
      obtain ⟨n, hn, haw, hac, hb⟩ := hA
      refine kx_needed haw hn ha hp (fun m hm => rfl) (ky_ag ha (br_f (by decide) (ky_fa hp (ky_needed hac hn ha hp (fun m hm => ?_) ⟨rfl, J⟩))))
      rw [kw_st_eq hS hF hC hn hb ha hp hm]
end
section
def kw_t1 (th : Int32) (co : Nat → Int32) (q : Nat → Nat → Bool) (a w v : Nat) : Bool := kw_ex (fun x => bt th x && kw_R co a w x && kw_al (fun y => !bt th y || !kw_R co a v y || q x y) 16) 16
def kw_tl (th : Int32) (co : Nat → Int32) (q : Nat → Nat → Bool) (w v : Nat) : Bool := kw_ex (fun a => kw_t1 th co q a w v || kw_t1 th co q a v w) 3
def kw_ap (th : Int32) (fa co : Nat → Int32) : Nat → Nat → Nat → Bool
  | 0 => fun w v => decide (fa w ≠ fa v)
  | n + 1 => fun w v => kw_ap th fa co n w v || kw_tl th co (kw_ap th fa co n) w v
theorem kw_t1_cg {th : Int32} {co : Nat → Int32} {q q' : Nat → Nat → Bool} (h : ∀ x y, x < 16 → y < 16 → bt th x = true → bt th y = true → q x y = q' x y) (a w v : Nat) : kw_t1 th co q a w v = kw_t1 th co q' a w v := by
  unfold kw_t1
  apply kw_ex_cg
  intro x hx
  cases e : bt th x
  · rfl
  · congr 1
    apply kw_al_cg
    intro y hy
    cases e2 : bt th y
    · rfl
    · rw [h x y hx hy e e2]
theorem kw_tl_cg {th : Int32} {co : Nat → Int32} {q q' : Nat → Nat → Bool} (h : ∀ x y, x < 16 → y < 16 → bt th x = true → bt th y = true → q x y = q' x y) (w v : Nat) : kw_tl th co q w v = kw_tl th co q' w v := by
  unfold kw_tl
  apply kw_ex_cg
  intro a _
  rw [kw_t1_cg h, kw_t1_cg h]
theorem kw_t1_iff {th : Int32} {co : Nat → Int32} {q : Nat → Nat → Bool} {a w v : Nat} : kw_t1 th co q a w v = true ↔ ∃ x, x < 16 ∧ bt th x = true ∧ kw_R co a w x = true ∧ ∀ y, y < 16 → bt th y = true → kw_R co a v y = true → q x y = true := by
  unfold kw_t1
  rw [kw_ex_iff]
  constructor
  · rintro ⟨x, hx, h⟩
    simp only [Bool.and_eq_true] at h
    refine ⟨x, hx, h.1.1, h.1.2, fun y hy h1 h2 => ?_⟩
    have := kw_al_iff.mp h.2 y hy
    rw [h1, h2] at this
    simpa using this
  · rintro ⟨x, hx, h1, h2, h3⟩
    refine ⟨x, hx, ?_⟩
    rw [h1, h2]
    simp only [Bool.true_and]
    rw [kw_al_iff]
    intro y hy
    cases e1 : bt th y
    · rfl
    · cases e2 : kw_R co a v y
      · rfl
      · rw [h3 y hy e1 e2]; rfl
theorem kw_tl_iff {th : Int32} {co : Nat → Int32} {q : Nat → Nat → Bool} {w v : Nat} : kw_tl th co q w v = true ↔ ∃ a, a < 3 ∧ (kw_t1 th co q a w v = true ∨ kw_t1 th co q a v w = true) := by
  unfold kw_tl
  rw [kw_ex_iff]
  constructor
  · rintro ⟨a, ha, h⟩
    rw [Bool.or_eq_true] at h
    exact ⟨a, ha, h⟩
  · rintro ⟨a, ha, h⟩
    exact ⟨a, ha, by rw [Bool.or_eq_true]; exact h⟩
theorem kw_R_rf {co : Nat → Int32} {a w : Nat} : kw_R co a w w = true := decide_eq_true rfl
section
variable {th : Int32} {fa co : Nat → Int32}
theorem kw_ap_s (n w v : Nat) : kw_ap th fa co (n + 1) w v = (kw_ap th fa co n w v || kw_tl th co (kw_ap th fa co n) w v) := rfl
theorem kw_ap_mono {n w v : Nat} (h : kw_ap th fa co n w v = true) : kw_ap th fa co (n + 1) w v = true := by rw [kw_ap_s, h]; rfl
theorem kw_ap_mono' {n m w v : Nat} (hnm : n ≤ m) (h : kw_ap th fa co n w v = true) : kw_ap th fa co m w v = true := by
  induction m with
  | zero => have : n = 0 := by omega
            rw [this] at h; exact h
  | succ m ih =>
    by_cases e : n = m + 1
    · rw [← e]; exact h
    · exact kw_ap_mono (ih (by omega))
theorem kw_ap_sym (n : Nat) : ∀ w v, kw_ap th fa co n w v = kw_ap th fa co n v w := by
  induction n with
  | zero =>
    intro w v
    show decide (fa w ≠ fa v) = decide (fa v ≠ fa w)
    by_cases e : fa w = fa v
    · rw [e]
    · have z1 : fa w ≠ fa v := e
      have z2 : fa v ≠ fa w := fun z => e z.symm
      rw [decide_eq_true z1, decide_eq_true z2]
  | succ n ih =>
    intro w v
    rw [kw_ap_s, kw_ap_s, ih w v]
    congr 1
    unfold kw_tl
    apply kw_ex_cg
    intro a _
    rw [Bool.or_comm]
theorem kw_ap_rf (n : Nat) : ∀ w, w < 16 → bt th w = true → kw_ap th fa co n w w = false := by
  induction n with
  | zero => intro w _ _; exact decide_eq_false (fun z => z rfl)
  | succ n ih =>
    intro w hw hb
    rw [kw_ap_s, ih w hw hb, Bool.false_or]
    cases e : kw_tl th co (kw_ap th fa co n) w w
    · rfl
    · obtain ⟨a, ha, h⟩ := kw_tl_iff.mp e
      have h : kw_t1 th co (kw_ap th fa co n) a w w = true := h.elim id id
      obtain ⟨x, hx, h1, h2, h3⟩ := kw_t1_iff.mp h
      have := h3 x hx h1 h2
      rw [ih x hx h1] at this
      exact this.symm
theorem kw_ap_tr1 {q : Nat → Nat → Bool} (ih : ∀ w v u, w < 16 → v < 16 → u < 16 → bt th w = true → bt th v = true → bt th u = true → q w v = false → q v u = false → q w u = false) {a w v u : Nat} (h1 : kw_t1 th co q a w v = false) (h2 : kw_t1 th co q a v u = false) : kw_t1 th co q a w u = false := by
  cases e : kw_t1 th co q a w u
  · rfl
  · obtain ⟨x, hx, e1, e2, e3⟩ := kw_t1_iff.mp e
    have f1 : ∃ y, y < 16 ∧ bt th y = true ∧ kw_R co a v y = true ∧ q x y = false := by
      apply Classical.byContradiction
      intro z
      rw [kw_t1_iff.mpr ⟨x, hx, e1, e2, fun y hy g1 g2 => by
        cases g : q x y
        · exact absurd ⟨y, hy, g1, g2, g⟩ z
        · rfl⟩] at h1
      exact absurd h1 (by decide)
    obtain ⟨y, hy, g1, g2, g3⟩ := f1
    have f2 : ∃ y', y' < 16 ∧ bt th y' = true ∧ kw_R co a u y' = true ∧ q y y' = false := by
      apply Classical.byContradiction
      intro z
      rw [kw_t1_iff.mpr ⟨y, hy, g1, g2, fun y' hy' k1 k2 => by
        cases g : q y y'
        · exact absurd ⟨y', hy', k1, k2, g⟩ z
        · rfl⟩] at h2
      exact absurd h2 (by decide)
    obtain ⟨y', hy', k1, k2, k3⟩ := f2
    have := ih x y y' hx hy hy' e1 g1 k1 g3 k3
    rw [e3 y' hy' k1 k2] at this
    exact this
theorem kw_ap_tr (n : Nat) : ∀ w v u, w < 16 → v < 16 → u < 16 → bt th w = true → bt th v = true → bt th u = true → kw_ap th fa co n w v = false → kw_ap th fa co n v u = false → kw_ap th fa co n w u = false := by
  induction n with
  | zero =>
    intro w v u _ _ _ _ _ _ h1 h2
    have h1 : ¬ fa w ≠ fa v := of_decide_eq_false h1
    have h2 : ¬ fa v ≠ fa u := of_decide_eq_false h2
    refine decide_eq_false (fun z => ?_)
    apply z
    rw [Classical.not_not.mp h1, Classical.not_not.mp h2]
  | succ n ih =>
    intro w v u hw hv hu bw bv bu h1 h2
    rw [kw_ap_s, Bool.or_eq_false_iff] at h1 h2
    rw [kw_ap_s, Bool.or_eq_false_iff]
    refine ⟨ih w v u hw hv hu bw bv bu h1.1 h2.1, ?_⟩
    have t1 := kw_ex_f.mp h1.2
    have t2 := kw_ex_f.mp h2.2
    refine kw_ex_f.mpr fun a ha => ?_
    have t1 := t1 a ha
    have t2 := t2 a ha
    rw [Bool.or_eq_false_iff] at t1 t2
    rw [Bool.or_eq_false_iff]
    exact ⟨kw_ap_tr1 ih t1.1 t2.1, kw_ap_tr1 ih t2.2 t1.2⟩
def kw_stb (th : Int32) (fa co : Nat → Int32) (n : Nat) : Prop := ∀ w v, w < 16 → v < 16 → bt th w = true → bt th v = true → kw_ap th fa co (n + 1) w v = kw_ap th fa co n w v
theorem kw_stb_s {n : Nat} (h : kw_stb th fa co n) : kw_stb th fa co (n + 1) := by
  intro w v hw hv bw bv
  rw [kw_ap_s (n + 1), kw_tl_cg (q' := kw_ap th fa co n) (fun x y hx hy bx bY => h x y hx hy bx bY), kw_ap_s n]
  cases kw_ap th fa co n w v <;> cases kw_tl th co (kw_ap th fa co n) w v <;> rfl
def kw_lw (th : Int32) (fa co : Nat → Int32) (n w : Nat) : Bool := bt th w && kw_al (fun v => !(bt th v && !kw_ap th fa co n w v)) w
theorem kw_lw_iff {n w : Nat} : kw_lw th fa co n w = true ↔ bt th w = true ∧ ∀ v, v < w → bt th v = true → kw_ap th fa co n w v = true := by
  unfold kw_lw
  rw [Bool.and_eq_true, kw_al_iff]
  constructor
  · rintro ⟨h1, h2⟩
    refine ⟨h1, fun v hv bv => ?_⟩
    have := h2 v hv
    rw [bv] at this
    simpa using this
  · rintro ⟨h1, h2⟩
    refine ⟨h1, fun v hv => ?_⟩
    cases e : bt th v
    · rfl
    · rw [h2 v hv e]; rfl
theorem kw_lw_ex (n : Nat) {w : Nat} (hw : w < 16) (bw : bt th w = true) : ∃ m, m < 16 ∧ bt th m = true ∧ kw_ap th fa co n w m = false ∧ kw_lw th fa co n m = true := by
  obtain ⟨m, ⟨hm, bm, am⟩, hl⟩ := pk_least (fun m => m < 16 ∧ bt th m = true ∧ kw_ap th fa co n w m = false) ⟨w, hw, bw, kw_ap_rf n w hw bw⟩
  refine ⟨m, hm, bm, am, kw_lw_iff.mpr ⟨bm, fun v hv bv => ?_⟩⟩
  cases e : kw_ap th fa co n m v
  · exact absurd ⟨by omega, bv, kw_ap_tr n w m v hw hm (by omega) bw bm bv am e⟩ (hl v hv)
  · rfl
theorem kw_stb_of {n : Nat} (h : ∀ w, w < 16 → kw_lw th fa co (n + 1) w = true → kw_lw th fa co n w = true) : kw_stb th fa co n := by
  intro w v hw hv bw bv
  cases e : kw_ap th fa co n w v
  · obtain ⟨m, hm, bm, am, lm⟩ := kw_lw_ex (th := th) (fa := fa) (co := co) (n + 1) hw bw
    obtain ⟨m', hm', bm', am', lm'⟩ := kw_lw_ex (th := th) (fa := fa) (co := co) (n + 1) hv bv
    have nf : ∀ x y, kw_ap th fa co (n + 1) x y = false → kw_ap th fa co n x y = false := fun x y z => by
      rw [kw_ap_s, Bool.or_eq_false_iff] at z; exact z.1
    have q1 := nf _ _ am
    have q2 := nf _ _ am'
    have q3 : kw_ap th fa co n w m' = false := kw_ap_tr n w v m' hw hv hm' bw bv bm' e q2
    have q4 : kw_ap th fa co n m m' = false := kw_ap_tr n m w m' hm hw hm' bm bw bm' (by rw [kw_ap_sym]; exact q1) q3
    have l1 := (kw_lw_iff.mp (h m hm lm)).2
    have l2 := (kw_lw_iff.mp (h m' hm' lm')).2
    have em : m = m' := by
      rcases Nat.lt_trichotomy m m' with z | z | z
      · have := l2 m z bm
        rw [kw_ap_sym, q4] at this
        exact absurd this (by decide)
      · exact z
      · have := l1 m' z bm'
        rw [q4] at this
        exact absurd this (by decide)
    subst em
    exact kw_ap_tr (n + 1) w m v hw hm hv bw bm bv am (by rw [kw_ap_sym]; exact am')
  · exact kw_ap_mono e
theorem kw_stb_or (hne : ∃ w, w < 16 ∧ bt th w = true) (n : Nat) : kw_stb th fa co n ∨ n + 1 ≤ kw_c (kw_lw th fa co n) 16 := by
  induction n with
  | zero =>
    right
    obtain ⟨w, hw, bw⟩ := hne
    obtain ⟨m, hm, bm, am, lm⟩ := kw_lw_ex (th := th) (fa := fa) (co := co) 0 hw bw
    have := kw_c_lt (p := fun _ => false) (q := kw_lw th fa co 0) (n := 16) (fun _ _ z => (nomatch z)) hm rfl lm
    omega
  | succ n ih =>
    rcases ih with h | h
    · exact Or.inl (kw_stb_s h)
    · by_cases z : ∀ w, w < 16 → kw_lw th fa co (n + 1) w = true → kw_lw th fa co n w = true
      · exact Or.inl (kw_stb_s (kw_stb_of z))
      · right
        obtain ⟨w, z⟩ := Classical.not_forall.mp z
        have hw : w < 16 := Classical.byContradiction fun g => z fun h => absurd h g
        have h1 : kw_lw th fa co (n + 1) w = true := by
          cases e : kw_lw th fa co (n + 1) w
          · exact absurd (fun _ h => by rw [e] at h; exact (nomatch h)) z
          · rfl
        have h0 : kw_lw th fa co n w = false := by
          cases e : kw_lw th fa co n w
          · rfl
          · exact absurd (fun _ _ => e) z
        have := kw_c_lt (p := kw_lw th fa co n) (q := kw_lw th fa co (n + 1)) (n := 16) (fun i hi l => by
          rw [kw_lw_iff] at l ⊢
          exact ⟨l.1, fun v hv bv => kw_ap_mono (l.2 v hv bv)⟩) hw h0 h1
        omega
theorem kw_stb15 (hne : ∃ w, w < 16 ∧ bt th w = true) : kw_stb th fa co 15 := by
  rcases kw_stb_or (fa := fa) (co := co) hne 15 with h | h
  · exact h
  · have hl := kw_c_full h
    intro w v hw hv bw bv
    cases e : kw_ap th fa co 15 w v
    · have ewv : w = v := by
        rcases Nat.lt_trichotomy w v with z | z | z
        · have := (kw_lw_iff.mp (hl v hv)).2 w z bw
          rw [kw_ap_sym, e] at this
          exact absurd this (by decide)
        · exact z
        · have := (kw_lw_iff.mp (hl w hw)).2 v z bv
          rw [e] at this
          exact absurd this (by decide)
      rw [ewv]
      exact kw_ap_rf 16 v hv bv
    · exact kw_ap_mono e
theorem kw_ap15 (hne : ∃ w, w < 16 ∧ bt th w = true) {n w v : Nat} (hn : 15 ≤ n) (hw : w < 16) (hv : v < 16) (bw : bt th w = true) (bv : bt th v = true) : kw_ap th fa co n w v = kw_ap th fa co 15 w v := by
  have hs : ∀ k, kw_stb th fa co (15 + k) := by
    intro k
    induction k with
    | zero => exact kw_stb15 hne
    | succ k ih => exact kw_stb_s ih
  obtain ⟨k, rfl⟩ : ∃ k, n = 15 + k := ⟨n - 15, by omega⟩
  clear hn
  induction k with
  | zero => rfl
  | succ k ih => rw [← ih]; exact hs k w v hw hv bw bv
end
end
section
section
variable {wt aw tc fc : Int32} {fs ce tk ta fz hs ap na : Nat → Int32}
variable {fa co : Nat → Int32}
def kw_or (fs : Nat → Int32) (w : Nat) : Nat → Int32
  | 0 => 0
  | p + 1 => if bt (fs p) w then kw_or fs w p ||| (fs p ^^^ (-1)) else kw_or fs w p ||| fs p
theorem kw_or_bt (w : Nat) {v : Nat} (hv : v < 32) : ∀ n, (bt (kw_or fs w n) v = true ↔ ∃ p, p < n ∧ bt (fs p) w ≠ bt (fs p) v) := by
  intro n
  induction n with
  | zero =>
    rw [kw_or, b_0]
    exact ⟨fun h => (nomatch h), fun ⟨p, hp, _⟩ => absurd hp (by omega)⟩
  | succ n ih =>
    have key : bt (kw_or fs w (n + 1)) v = true ↔ bt (kw_or fs w n) v = true ∨ bt (fs n) w ≠ bt (fs n) v := by
      rw [kw_or]
      cases e : bt (fs n) w
      · rw [if_neg (by decide), b_or]
        cases bt (fs n) v <;> simp
      · rw [if_pos rfl, b_or, kw_not _ hv]
        cases bt (fs n) v <;> simp
    rw [key, ih]
    constructor
    · rintro (⟨p, hp, h⟩ | h)
      · exact ⟨p, by omega, h⟩
      · exact ⟨n, by omega, h⟩
    · rintro ⟨p, hp, h⟩
      by_cases e : p = n
      · rw [e] at h; exact Or.inr h
      · exact Or.inl ⟨p, by omega, h⟩
def kw_x0 (wt : Int32) (fs : Nat → Int32) (w : Nat) : Int32 := kw_or fs w 4 &&& wt
theorem kx_byFacts0 {post : SX → Prop} (h : post (wt, aw, tc, fc, fs, ce, tk, ta, fz, hs, kw_mx (kw_x0 wt fs) ap 16, na)) : wpX_partByFacts post (wt, aw, tc, fc, fs, ce, tk, ta, fz, hs, ap, na) := by
  unfold wpX_partByFacts
  dsimp only
  refine kw_lp (fun n i s => wX_partByFacts_2 post wt aw tc fc n (nI i) fs ce tk ta fz hs s na) (fun i => kw_mx (kw_x0 wt fs) ap i) 16 0 (by omega) (fun n => ?_) (fun n w hw g => ?_)
  · exact br_t (nI_le (a := 16) (by omega) (by decide)) h
  · refine br_f (nI_ge (b := 16) hw (by decide)) ⟨vp_in_nI hw (by decide), nm_r (e' := upd (kw_mx (kw_x0 wt fs) ap w) w (kw_or fs w 0)) (by rw [nI_clamp (by omega)]; rfl) ?_⟩
    refine kw_lp (fun m i s => wX_partByFacts_17 post (wX_partByFacts_2 post wt aw tc fc n) (nI w) wt aw tc fc m (nI i) fs ce tk ta fz hs s na) (fun i => upd (kw_mx (kw_x0 wt fs) ap w) w (kw_or fs w i)) 4 0 (by omega) (fun m => ?_) (fun m p hp G => ?_)
    · refine br_t (nI_le (a := 4) (by omega) (by decide)) ⟨vp_in_nI hw (by decide), vp_in_nI hw (by decide), nm_r (e' := kw_mx (kw_x0 wt fs) ap (w + 1)) ?_ (nm_r (nI_1 w) g)⟩
      rw [nI_clamp (by omega), pk_us, kw_updupd]
      exact kw_mx_upd (new := kw_x0 wt fs)
    · rw [kw_or] at G
      refine br_f (nI_ge (b := 4) hp (by decide)) ⟨vp_in_nI hw (by decide), vp_in_nI hp (by decide), ?_⟩
      rw [nI_clamp (by omega), nI_clamp (by omega)]
      refine kx_isIn (by omega) (kw_br _ (fun e => ⟨vp_in_nI hp (by decide), vp_in_nI hw (by decide), nm_e (nm_r (nI_1 p) ?_)⟩) (fun e => ⟨vp_in_nI hp (by decide), vp_in_nI hw (by decide), nm_e (nm_r (nI_1 p) ?_)⟩))
      · rw [e, if_neg (by decide)] at G
        rw [pk_us, kw_updupd]
        exact G
      · rw [e, if_pos rfl] at G
        rw [pk_us, kw_updupd]
        exact G
def kw_A (wt : Int32) (fa co : Nat → Int32) (n : Nat) (A : Nat → Int32) : Prop := ∀ w v, w < 16 → v < 16 → bt wt w = true → bt wt v = true → bt (A w) v = kw_ap wt fa co n w v
theorem kw_A0 (hF : kw_FA wt fs fa) : kw_A wt fa co 0 (kw_mx (kw_x0 wt fs) ap 16) := by
  intro w v hw hv bw bv
  rw [kw_mx_lo hw, kw_x0, b_and, bv, Bool.and_true]
  show _ = decide (fa w ≠ fa v)
  have key : bt (kw_or fs w 4) v = true ↔ fa w ≠ fa v := by
    rw [kw_or_bt w (by omega)]
    constructor
    · rintro ⟨p, hp, h⟩ z
      rw [(hF w hw bw).1 p hp, (hF v hv bv).1 p hp, z] at h
      exact h rfl
    · intro h
      apply Classical.byContradiction
      intro z
      apply h
      apply b_ext
      intro i hi
      by_cases hi4 : i < 4
      · rw [← (hF w hw bw).1 i hi4, ← (hF v hv bv).1 i hi4]
        exact Classical.byContradiction fun q => z ⟨i, hi4, q⟩
      · rw [(hF w hw bw).2 i (by omega), (hF v hv bv).2 i (by omega)]
  by_cases e : fa w ≠ fa v
  · rw [decide_eq_true e]; exact key.mpr e
  · rw [decide_eq_false e]
    cases g : bt (kw_or fs w 4) v
    · rfl
    · exact absurd (key.mp g) e
/-! one step more -/
def kw_hs (A : Nat → Int32) (s o : Int32) : Bool := kw_ex (fun x => bt s x && decide (o &&& (A x ^^^ (-1)) = 0)) 16
theorem kx_has {post : Int32 → Prop} {s o : Int32} (h : post (kw_b (kw_hs ap s o))) : wpX_hasWorldApartFromAll post (wt, aw, tc, fc, fs, ce, tk, ta, fz, hs, ap, na) s o := by
  unfold wpX_hasWorldApartFromAll
  dsimp only
  refine kw_le (fun n i => wX_hasWorldApartFromAll_2 post s o wt aw tc fc fs ce tk ta fz hs ap na n (nI i)) (fun x => bt s x && decide (o &&& (ap x ^^^ (-1)) = 0)) 16 (fun hf n => ?_) (fun n i hi hf g => ?_)
  · rw [kw_hs, kw_ex_f.mpr hf] at h
    exact br_t (nI_le (a := 16) (by omega) (by decide)) h
  · refine br_f (nI_ge (b := 16) hi (by decide)) (kx_isIn (by omega) (kw_br _ (fun e => nm_r (nI_1 i) (g (by rw [e]; rfl))) (fun e => ⟨vp_in_nI hi (by decide), ?_⟩)))
    rw [nI_clamp (by omega)]
    by_cases z : o &&& (ap i ^^^ (-1)) = 0
    · refine br_t z ?_
      rw [kw_hs, kw_ex_iff.mpr ⟨i, hi, by rw [e, decide_eq_true z]; rfl⟩] at h
      exact h
    · exact br_f z (nm_r (nI_1 i) (g (by rw [decide_eq_false z, Bool.and_false])))
def kw_pt (wt : Int32) (ce A : Nat → Int32) (w v : Nat) : Bool := kw_ex (fun a => kw_hs A (ce (16 * a + w) &&& wt) (ce (16 * a + v) &&& wt) || kw_hs A (ce (16 * a + v) &&& wt) (ce (16 * a + w) &&& wt)) 3
theorem kx_parted {post : Int32 → Prop} {w v : Nat} (hw : w < 16) (hv : v < 16) (h : post (kw_b (kw_pt wt ce ap w v))) : wpX_isPartedByAgent post (wt, aw, tc, fc, fs, ce, tk, ta, fz, hs, ap, na) (nI w) (nI v) := by
  unfold wpX_isPartedByAgent
  dsimp only
  refine kw_le (fun n i => wX_isPartedByAgent_2 post (nI w) (nI v) wt aw tc fc fs ce tk ta fz hs ap na n (nI i)) (fun a => kw_hs ap (ce (16 * a + w) &&& wt) (ce (16 * a + v) &&& wt) || kw_hs ap (ce (16 * a + v) &&& wt) (ce (16 * a + w) &&& wt)) 3 (fun hf n => ?_) (fun n i hi hf g => ?_)
  · rw [kw_pt, kw_ex_f.mpr hf] at h
    exact br_t (nI_le (a := 3) (by omega) (by decide)) h
  · refine br_f (nI_ge (b := 3) hi (by decide)) ?_
    rw [kw_ixX, kw_ixX, nI_clamp (by omega), nI_clamp (by omega)]
    refine ⟨vp_in_nI (by omega) (by decide), nm_e ⟨vp_in_nI (by omega) (by decide), nm_e (kx_has (kw_br _ (fun e => kx_has (kw_br _ (fun e2 => nm_r (nI_1 i) (g (by rw [e, e2]; rfl))) (fun e2 => ?_))) (fun e => ?_)))⟩⟩
    · rw [kw_pt, kw_ex_iff.mpr ⟨i, hi, by rw [e2, Bool.or_true]⟩] at h
      exact h
    · rw [kw_pt, kw_ex_iff.mpr ⟨i, hi, by rw [e]; rfl⟩] at h
      exact h
def kw_os (c : Int32) (q : Nat → Bool) : Nat → Int32
  | 0 => c
  | i + 1 => if q i then kw_os c q i ||| ((1 : Int32) <<< (nI i &&& 31)) else kw_os c q i
theorem kw_os_bt {c : Int32} {q : Nat → Bool} {n : Nat} (hn : n ≤ 32) {i : Nat} (hi : i < 32) : bt (kw_os c q n) i = (bt c i || (decide (i < n) && q i)) := by
  induction n with
  | zero => rw [kw_os]; simp
  | succ n ih =>
    have ih := ih (by omega)
    rw [kw_os]
    by_cases e : i = n
    · subst e
      cases hp : q i
      · simp [ih]
      · simp [b_or, kw_one hi hi]
    · have e2 : decide (i < n + 1) = decide (i < n) := by
        by_cases h : i < n
        · simp [h]; omega
        · simp [h]; omega
      cases hp : q n
      · simp [ih, e2]
      · simp [b_or, kw_one (m := n) (by omega) hi, ih, e2, e]
def kw_mq (wt : Int32) (ce A : Nat → Int32) (w v : Nat) : Bool := bt wt w && bt wt v && kw_pt wt ce A w v
def kw_x1 (wt : Int32) (ce A : Nat → Int32) (w : Nat) : Int32 := kw_os (A w) (kw_mq wt ce A w) 16
theorem kx_more0 {post : SX → Prop} (h : post (wt, aw, tc, fc, fs, ce, tk, ta, fz, hs, kw_mx (kw_mx (kw_x1 wt ce ap) na 16) ap 16, kw_mx (kw_x1 wt ce ap) na 16)) : wpX_partOneStepMore post (wt, aw, tc, fc, fs, ce, tk, ta, fz, hs, ap, na) := by
  unfold wpX_partOneStepMore
  dsimp only
  refine kw_lp (fun n i s => wX_partOneStepMore_2 post wt aw tc fc n (nI i) fs ce tk ta fz hs ap s) (fun i => kw_mx (kw_x1 wt ce ap) na i) 16 0 (by omega) (fun n => ?_) (fun n w hw g => ?_)
  · refine br_t (nI_le (a := 16) (by omega) (by decide)) ?_
    refine kw_lp (fun n i s => wX_partOneStepMore_79 post wt aw tc fc n (nI i) fs ce tk ta fz hs s (kw_mx (kw_x1 wt ce ap) na 16)) (fun i => kw_mx (kw_mx (kw_x1 wt ce ap) na 16) ap i) 16 0 (by omega) (fun n => ?_) (fun n i hi g => ?_)
    · exact br_t (nI_le (a := 16) (by omega) (by decide)) h
    · refine br_f (nI_ge (b := 16) hi (by decide)) ⟨vp_in_nI hi (by decide), vp_in_nI hi (by decide), nm_r ?_ (nm_r (nI_1 i) g)⟩
      rw [nI_clamp (by omega)]
      exact kw_mx_upd (new := kw_mx (kw_x1 wt ce ap) na 16)
  · refine br_f (nI_ge (b := 16) hw (by decide)) ⟨vp_in_nI hw (by decide), vp_in_nI hw (by decide), nm_r (e' := upd (kw_mx (kw_x1 wt ce ap) na w) w (kw_os (ap w) (kw_mq wt ce ap w) 0)) (by rw [nI_clamp (by omega)]; rfl) ?_⟩
    refine kw_lp (fun m i s => wX_partOneStepMore_22 post (wX_partOneStepMore_2 post wt aw tc fc n) (nI w) wt aw tc fc m (nI i) fs ce tk ta fz hs ap s) (fun i => upd (kw_mx (kw_x1 wt ce ap) na w) w (kw_os (ap w) (kw_mq wt ce ap w) i)) 16 0 (by omega) (fun m => ?_) (fun m v hv G => ?_)
    · refine br_t (nI_le (a := 16) (by omega) (by decide)) (nm_r (nI_1 w) ?_)
      have e : upd (kw_mx (kw_x1 wt ce ap) na w) w (kw_os (ap w) (kw_mq wt ce ap w) 16) = kw_mx (kw_x1 wt ce ap) na (w + 1) := kw_mx_upd (new := kw_x1 wt ce ap)
      rw [e]
      exact g
    · rw [kw_os] at G
      refine br_f (nI_ge (b := 16) hv (by decide)) (kx_there hw (kw_br _ (fun e => nm_r (nI_1 v) ?_) (fun e => kx_there hv (kw_br _ (fun e2 => nm_r (nI_1 v) ?_) (fun e2 => kx_parted hw hv (kw_br _ (fun e3 => nm_r (nI_1 v) ?_) (fun e3 => ⟨vp_in_nI hw (by decide), vp_in_nI hw (by decide), nm_e (nm_r (nI_1 v) ?_)⟩)))))))
      · rw [kw_mq, e, if_neg (fun z => nomatch z)] at G
        exact G
      · rw [kw_mq, e, e2, if_neg (fun z => nomatch z)] at G
        exact G
      · rw [kw_mq, e, e2, e3, if_neg (by decide)] at G
        exact G
      · rw [kw_mq, e, e2, e3, if_pos (by decide)] at G
        rw [nI_clamp (by omega), pk_us, kw_updupd]
        exact G
theorem kw_hs_eq (hS : kw_S wt) (hC : kw_CE wt ce co) {q : Nat → Nat → Bool} {A : Nat → Int32} (hq : ∀ x y, x < 16 → y < 16 → bt wt x = true → bt wt y = true → bt (A x) y = q x y) {a w v : Nat} (ha : a < 3) (hw : w < 16) (hv : v < 16) (bw : bt wt w = true) (bv : bt wt v = true) : kw_hs A (ce (16 * a + w) &&& wt) (ce (16 * a + v) &&& wt) = kw_t1 wt co q a w v := by
  unfold kw_hs kw_t1
  apply kw_ex_cg
  intro x hx
  rw [b_and]
  cases bx : bt wt x
  · rw [Bool.and_false]; rfl
  · rw [hC a ha w x hw hx bw bx, Bool.and_true, Bool.true_and]
    congr 1
    have key : (ce (16 * a + v) &&& wt) &&& (A x ^^^ (-1)) = 0 ↔ kw_al (fun y => !bt wt y || !kw_R co a v y || q x y) 16 = true := by
      rw [kw_zero16 (kw_S_and' hS), kw_al_iff]
      constructor
      · intro h y hy
        cases e1 : bt wt y
        · rfl
        · cases e2 : kw_R co a v y
          · rfl
          · have := h y hy (by rw [b_and, hC a ha v y hv hy bv e1, e2, e1]; rfl)
            rw [kw_not _ (by omega), hq x y hx hy bx e1] at this
            simpa using this
      · intro h y hy hb
        rw [b_and, Bool.and_eq_true] at hb
        have := h y hy
        rw [hb.2, ← hC a ha v y hv hy bv hb.2, hb.1, ← hq x y hx hy bx hb.2] at this
        rw [kw_not _ (by omega)]
        simpa using this
    by_cases z : (ce (16 * a + v) &&& wt) &&& (A x ^^^ (-1)) = 0
    · rw [decide_eq_true z, key.mp z]
    · rw [decide_eq_false z]
      cases e : kw_al (fun y => !bt wt y || !kw_R co a v y || q x y) 16
      · rfl
      · exact absurd (key.mpr e) z
theorem kw_A1 (hS : kw_S wt) (hC : kw_CE wt ce co) {n : Nat} {B C : Nat → Int32} (hA : kw_A wt fa co n ap) : kw_A wt fa co (n + 1) (kw_mx (kw_mx (kw_x1 wt ce ap) B 16) C 16) := by
  intro w v hw hv bw bv
  rw [kw_mx_lo hw, kw_mx_lo hw, kw_x1, kw_os_bt (by omega) (by omega), decide_eq_true hv, Bool.true_and, hA w v hw hv bw bv, kw_ap_s, kw_mq, bw, bv]
  congr 1
  show kw_pt wt ce ap w v = _
  unfold kw_pt kw_tl
  apply kw_ex_cg
  intro a ha
  rw [kw_hs_eq hS hC hA ha hw hv bw bv, kw_hs_eq hS hC hA ha hv hw bv bw]
theorem kx_byFacts {post : SX → Prop} (hF : kw_FA wt fs fa) (h : ∀ ap', kw_A wt fa co 0 ap' → post (wt, aw, tc, fc, fs, ce, tk, ta, fz, hs, ap', na)) : wpX_partByFacts post (wt, aw, tc, fc, fs, ce, tk, ta, fz, hs, ap, na) := kx_byFacts0 (h _ (kw_A0 hF))
theorem kx_more {post : SX → Prop} {n : Nat} (hS : kw_S wt) (hC : kw_CE wt ce co) (hA : kw_A wt fa co n ap) (h : ∀ ap' na', kw_A wt fa co (n + 1) ap' → post (wt, aw, tc, fc, fs, ce, tk, ta, fz, hs, ap', na')) : wpX_partOneStepMore post (wt, aw, tc, fc, fs, ce, tk, ta, fz, hs, ap, na) := kx_more0 (h _ _ (kw_A1 hS hC hA))
theorem kx_apart {post : Int32 → SX → Prop} {w v : Nat} (hS : kw_S wt) (hF : kw_FA wt fs fa) (hC : kw_CE wt ce co) (hw : w < 16) (hv : v < 16) (bw : bt wt w = true) (bv : bt wt v = true)
    (h : ∀ i, i < 16 → kw_ap wt fa co i w v = true → (∀ j, j < i → kw_ap wt fa co j w v = false) → ∀ ap' na', post (nI i) (wt, aw, tc, fc, fs, ce, tk, ta, fz, hs, ap', na'))
    (h2 : (∀ j, j < 16 → kw_ap wt fa co j w v = false) → ∀ ap' na', post (-2) (wt, aw, tc, fc, fs, ce, tk, ta, fz, hs, ap', na')) : wpX_apart post (wt, aw, tc, fc, fs, ce, tk, ta, fz, hs, ap, na) (nI w) (nI v) := by
  unfold wpX_apart
  dsimp only
  refine kx_there hw (kw_br _ (fun e => absurd (e.symm.trans bw) (by decide)) fun _ => kx_there hv (kw_br _ (fun e => absurd (e.symm.trans bv) (by decide)) fun _ => kx_byFacts (fa := fa) (co := co) hF fun ap' hA => ?_))
  dsimp only
  refine pk_loop (fun n i (s : (Nat → Int32) × (Nat → Int32)) => wX_apart_24 post (nI w) (nI v) n (nI i) wt aw tc fc fs ce tk ta fz hs s.1 s.2) (fun i s => kw_A wt fa co i s.1 ∧ ∀ j, j < i → kw_ap wt fa co j w v = false) 16 0 (ap', na) (by omega) ⟨hA, fun j hj => absurd hj (by omega)⟩ (fun n s hI => ?_) (fun n i s hi hI g => ?_)
  · exact br_t (nI_le (a := 16) (by omega) (by decide)) (h2 hI.2 _ _)
  · refine br_f (nI_ge (b := 16) hi (by decide)) ⟨vp_in_nI hw (by decide), ?_⟩
    rw [nI_clamp (by omega)]
    refine kx_isIn (by omega) (kw_br _ (fun e => kx_more hS hC hI.1 fun ap2 na2 hA2 => ?_) (fun e => ?_))
    · dsimp only
      refine nm_r (nI_1 i) (g (ap2, na2) ⟨hA2, fun j hj => ?_⟩)
      by_cases z : j = i
      · rw [z, ← hI.1 w v hw hv bw bv]; exact e
      · exact hI.2 j (by omega)
    · exact h i hi (by rw [← hI.1 w v hw hv bw bv]; exact e) hI.2 _ _
theorem kx_kinds {post : Int32 → SX → Prop} (hS : kw_S wt) (hF : kw_FA wt fs fa) (hC : kw_CE wt ce co)
    (h : ∀ ap' na', post (nI (kw_c (kw_lw wt fa co 15) 16)) (wt, aw, tc, fc, fs, ce, tk, ta, fz, hs, ap', na')) : wpX_kinds post (wt, aw, tc, fc, fs, ce, tk, ta, fz, hs, ap, na) := by
  unfold wpX_kinds
  dsimp only
  refine kx_byFacts (fa := fa) (co := co) hF fun ap' hA => ?_
  dsimp only
  refine pk_loop (fun n i (s : (Nat → Int32) × (Nat → Int32)) => wX_kinds_6 post n (nI (i + 1)) wt aw tc fc fs ce tk ta fz hs s.1 s.2) (fun i s => kw_A wt fa co i s.1) 15 0 (ap', na) (by omega) hA (fun n s hI => ?_) (fun n i s hi hI g => ?_)
  · refine br_t (nI_le (a := 16) (by omega) (by decide)) ?_
    refine kw_lp (fun m i c => wX_kinds_26 post wt aw tc fc fs ce tk ta fz hs s.1 s.2 m c (nI i)) (fun i => nI (kw_c (kw_lw wt fa co 15) i)) 16 0 (by omega) (fun m => ?_) (fun m w hw g => ?_)
    · exact br_t (nI_le (a := 16) (by omega) (by decide)) (h _ _)
    · refine br_f (nI_ge (b := 16) hw (by decide)) (kx_there hw (kw_br _ (fun e => nm_r (nI_1 w) ?_) (fun e => ⟨vp_in_nI hw (by decide), ?_⟩)))
      · rw [kw_c, kw_lw, e] at g
        exact g
      · rw [nI_clamp (by omega)]
        have el : kw_lo (wt &&& (s.1 w ^^^ (-1))) w = kw_lw wt fa co 15 w := by
          rw [kw_lo, kw_ex_al, kw_lw, e, Bool.true_and]
          apply kw_al_cg
          intro v hv
          rw [b_and, kw_not _ (by omega)]
          cases bv : bt wt v
          · rfl
          · rw [hI w v hw (by omega) e bv]
        refine kx_low hw (kw_br _ (fun e3 => nm_r (nI_1 w) ?_) (fun e3 => nm_r ?_ (nm_r (nI_1 w) g)))
        · rw [el] at e3
          rw [kw_c, e3] at g
          exact g
        · rw [el] at e3
          rw [kw_c, e3, nI_1]; rfl
  · refine br_f (nI_ge (b := 16) (by omega) (by decide)) (kx_more hS hC hI fun ap2 na2 hA2 => ?_)
    dsimp only
    exact nm_r (nI_1 (i + 1)) (g (ap2, na2) hA2)
end
end
section
section
variable {th ac ht : Int32} {fa co sz kd ag fi tr ia ho ro di : Nat → Int32}
def kw_q (d : Nat → Int32) (k x y : Nat) : Bool := decide (0 ≤ d (16 * x + y) ∧ d (16 * x + y) ≤ nI k)
theorem kw_q_f1 {d : Nat → Int32} {k x y : Nat} (h : d (16 * x + y) < 0) : kw_q d k x y = false := decide_eq_false fun z => Int32.not_lt.mpr z.1 h
theorem kw_q_f2 {d : Nat → Int32} {k x y : Nat} (h : nI k < d (16 * x + y)) : kw_q d k x y = false := decide_eq_false fun z => Int32.not_lt.mpr z.2 h
theorem kw_q_t {d : Nat → Int32} {k x y : Nat} (h1 : ¬ d (16 * x + y) < 0) (h2 : ¬ nI k < d (16 * x + y)) : kw_q d k x y = true := decide_eq_true ⟨Int32.not_lt.mp h1, Int32.not_lt.mp h2⟩
def kw_in (th : Int32) (co d : Nat → Int32) (k a v x y : Nat) : Bool := !bt th y || !kw_R co a v y || kw_q d k x y
theorem kw_al_le {p : Nat → Bool} {i n : Nat} (h : i ≤ n) (e : kw_al p i = false) : kw_al p n = false := by
  obtain ⟨j, hj, hp⟩ := kw_al_f.mp e
  exact kw_al_f.mpr ⟨j, by omega, hp⟩
theorem ky_tells40 {post : Int32 → Prop} {J : Int32 → Prop} {a w v k x : Nat} {b : Bool} (ha : a < 3) (hv : v < 16) (hx : x < 16)
    (hT : (kw_al (kw_in th co di k a v x) 16 && b) = true → post 1) (hF : (kw_al (kw_in th co di k a v x) 16 && b) = false → J (nI (x + 1))) : ∃ n, wY_tells_40 post J (nI a) (nI w) (nI v) (nI k) (nI x) th ac ht fa co sz kd ag fi tr ia ho ro di n (kw_b b) 0 := by
  refine kw_lp (fun n i s => wY_tells_40 post J (nI a) (nI w) (nI v) (nI k) (nI x) th ac ht fa co sz kd ag fi tr ia ho ro di n s (nI i)) (fun i => kw_b (kw_al (kw_in th co di k a v x) i && b)) 16 0 (by omega) (fun n => ?_) (fun n y hy g => ?_)
  · exact br_t (nI_le (a := 16) (by omega) (by decide)) (kw_br _ (fun e => nm_r (nI_1 x) (hF e)) (fun e => hT e))
  · refine br_f (nI_ge (b := 16) hy (by decide)) (kw_br _ (fun e => ?_) (fun e => ?_))
    · have e2 : (kw_al (kw_in th co di k a v x) 16 && b) = false := by
        cases hb : b
        · rw [Bool.and_false]
        · rw [hb, Bool.and_true] at e
          rw [kw_al_le (by omega) e]; rfl
      rw [e]
      exact br_t rfl (nm_r (nI_1 x) (hF e2))
    · rw [Bool.and_eq_true] at e
      rw [kw_ixY, nI_clamp (by omega)]
      refine ⟨vp_in_nI (by omega) (by decide), nm_e (ky_there hy (kw_br _ (fun e1 => nm_r (nI_1 y) ?_) (fun e1 => ky_same ha hv hy (kw_br _ (fun e2 => nm_r (nI_1 y) ?_) (fun e2 => ?_)))))⟩
      · rw [kw_al, e.1, e.2, kw_in, e1] at g
        exact g
      · rw [kw_al, e.1, e.2, kw_in, e1, kw_R, e2] at g
        exact g
      · rw [kw_al, e.1, e.2, kw_in, e1, kw_R, e2] at g
        by_cases z1 : di (16 * x + y) < 0
        · rw [kw_q_f1 z1] at g
          exact br_t z1 (nm_r (nI_1 y) g)
        · refine br_f z1 ?_
          by_cases z2 : nI k < di (16 * x + y)
          · rw [kw_q_f2 z2] at g
            exact br_t z2 (nm_r (nI_1 y) g)
          · rw [kw_q_t z1 z2] at g
            exact br_f z2 (nm_r (nI_1 y) g)
theorem ky_tells {post : Int32 → Prop} {a w v k : Nat} (ha : a < 3) (hw : w < 16) (hv : v < 16) (h : post (kw_b (kw_t1 th co (kw_q di k) a w v))) : wpY_tells post (th, ac, ht, fa, co, sz, kd, ag, fi, tr, ia, ho, ro, di) (nI a) (nI w) (nI v) (nI k) := by
  unfold wpY_tells
  dsimp only
  refine kw_le (fun n i => wY_tells_3 post (nI a) (nI w) (nI v) (nI k) th ac ht fa co sz kd ag fi tr ia ho ro di n (nI i)) (fun x => bt th x && kw_R co a w x && kw_al (kw_in th co di k a v x) 16) 16 (fun hf n => ?_) (fun n x hx hf g => ?_)
  · have e : kw_t1 th co (kw_q di k) a w v = false := kw_ex_f.mpr hf
    rw [e] at h
    exact br_t (nI_le (a := 16) (by omega) (by decide)) h
  · refine br_f (nI_ge (b := 16) hx (by decide)) (ky_there hx (kw_br _ (fun e => ?_) (fun e => ky_same ha hw hx (kw_br _ (fun e2 => ?_) (fun e2 => ?_)))))
    · exact ky_tells40 (b := false) ha hv hx (fun z => by rw [Bool.and_false] at z; exact nomatch z) (fun _ => g (by rw [e]; rfl))
    · exact ky_tells40 (b := false) ha hv hx (fun z => by rw [Bool.and_false] at z; exact nomatch z) (fun _ => g (by rw [e, kw_R, e2]; rfl))
    · refine ky_tells40 (b := true) ha hv hx (fun z => ?_) (fun z => g ?_)
      · rw [Bool.and_true] at z
        have e3 : kw_t1 th co (kw_q di k) a w v = true := kw_ex_iff.mpr ⟨x, hx, by
          show (bt th x && kw_R co a w x && kw_al (kw_in th co di k a v x) 16) = true
          rw [e, kw_R, e2, z]; rfl⟩
        rw [e3] at h
        exact h
      · rw [Bool.and_true] at z
        rw [z, Bool.and_false]
theorem ky_telling {post : Int32 → Prop} {w v k : Nat} (hw : w < 16) (hv : v < 16) (h : post (kw_b (kw_tl th co (kw_q di k) w v))) : wpY_telling post (th, ac, ht, fa, co, sz, kd, ag, fi, tr, ia, ho, ro, di) (nI w) (nI v) (nI k) := by
  unfold wpY_telling
  dsimp only
  refine kw_lp (fun n i s => wY_telling_6 post (nI w) (nI v) (nI k) th ac ht fa co sz kd ag fi tr ia ho ro di n s (nI i)) (fun i => kw_b (kw_ex (fun a => kw_t1 th co (kw_q di k) a w v || kw_t1 th co (kw_q di k) a v w) i)) 3 0 (by omega) (fun n => ?_) (fun n a ha g => ?_)
  · exact br_t (nI_le (a := 3) (by omega) (by decide)) ⟨kw_nar _, h⟩
  · rw [kw_ex] at g
    refine br_f (nI_ge (b := 3) ha (by decide)) (kw_br _ (fun e => ky_tells ha hw hv (kw_br _ (fun e2 => ky_tells ha hv hw (kw_br _ (fun e3 => nm_r (nI_1 a) ?_) (fun e3 => nm_r (nI_1 a) ?_))) (fun e2 => nm_r (nI_1 a) ?_))) (fun e => nm_r (nI_1 a) ?_))
    · rw [e, e2, e3] at g
      exact g
    · rw [e, e2, e3] at g
      exact g
    · rw [e, e2] at g
      exact g
    · rw [e] at g
      exact g
theorem kw_d16 {p : Nat} (hp : p < 256) : nI p / 16 = nI (p / 16) := pk_div (d := 16) (by omega) (by omega) (by omega)
theorem kw_r16 {p : Nat} (hp : p < 256) : nI p - nI (p / 16) * 16 = nI (p % 16) := by
  have := pk_rem (a := p) (d := 16) (by omega) (by omega) (by omega)
  rw [pk_div (d := 16) (by omega) (by omega) (by omega)] at this
  exact this
theorem kw_n16 : ¬ (16 : Int32) = 0 := by decide
def kw_stp (th : Int32) (co : Nat → Int32) (k : Nat) (d : Nat → Int32) (p : Nat) : Int32 := if (bt th (p / 16) && bt th (p % 16) && !decide (0 ≤ d p) && kw_tl th co (kw_q d k) (p / 16) (p % 16)) = true then nI (k + 1) else d p
theorem kw_q_mx {k i : Nat} (hk : k < 1000) {d : Nat → Int32} : kw_q (kw_mx (kw_stp th co k d) d i) k = kw_q d k := by
  funext x y
  by_cases h : 16 * x + y < i
  · unfold kw_q
    rw [kw_mx_lo h, kw_stp]
    by_cases e : (bt th ((16 * x + y) / 16) && bt th ((16 * x + y) % 16) && !decide (0 ≤ d (16 * x + y)) && kw_tl th co (kw_q d k) ((16 * x + y) / 16) ((16 * x + y) % 16)) = true
    · rw [if_pos e]
      simp only [Bool.and_eq_true, Bool.not_eq_true', decide_eq_false_iff_not] at e
      rw [decide_eq_false (fun z => nI_ge (a := k) (b := k + 1) (by omega) (by omega) z.2), decide_eq_false (fun z => e.1.2 z.1)]
    · rw [if_neg e]
  · unfold kw_q
    rw [kw_mx_hi (by omega)]
theorem kw_mx_same {new old : Nat → Int32} {i : Nat} (h : new i = old i) : kw_mx new old (i + 1) = kw_mx new old i := by
  rw [← kw_mx_upd]
  funext j
  unfold upd kw_mx
  by_cases e : j = i
  · subst e
    rw [if_pos rfl, if_neg (by omega)]; exact h
  · rw [if_neg e]
theorem ky_round {post : SY → Prop} {J : Int32 → (Nat → Int32) → (Nat → Int32) → (Nat → Int32) → (Nat → Int32) → (Nat → Int32) → (Nat → Int32) → (Nat → Int32) → (Nat → Int32) → (Nat → Int32) → (Nat → Int32) → (Nat → Int32) → Prop} {k : Nat} (hk : k < 20) (h : J (nI (k + 2)) fa co sz kd ag fi tr ia ho ro (kw_mx (kw_stp th co k di) di 256)) : ∃ n, wY_findDistances_58 post J (nI (k + 1)) th ac ht n 0 fa co sz kd ag fi tr ia ho ro di := by
  refine kw_lp (fun n i s => wY_findDistances_58 post J (nI (k + 1)) th ac ht n (nI i) fa co sz kd ag fi tr ia ho ro s) (fun i => kw_mx (kw_stp th co k di) di i) 256 0 (by omega) (fun n => ?_) (fun n p hp g => ?_)
  · exact br_t (nI_le (a := 256) (by omega) (by decide)) (nm_r (nI_1 (k + 1)) h)
  · have hno : (bt th (p / 16) && bt th (p % 16) && !decide (0 ≤ di p) && kw_tl th co (kw_q di k) (p / 16) (p % 16)) = false → wY_findDistances_58 post J (nI (k + 1)) th ac ht n (nI (p + 1)) fa co sz kd ag fi tr ia ho ro (kw_mx (kw_stp th co k di) di p) := by
      intro z
      have e : kw_stp th co k di p = di p := by
        rw [kw_stp, if_neg (by rw [z]; decide)]
      rw [kw_mx_same e] at g
      exact g
    refine br_f (nI_ge (b := 256) hp (by decide)) ⟨kw_n16, ?_⟩
    rw [kw_d16 hp, kw_r16 hp]
    refine ky_there (by omega) (kw_br _ (fun e => br_t rfl (nm_r (nI_1 p) (hno (by rw [e]; rfl)))) (fun e => ⟨kw_n16, ky_there (by omega) (kw_br _ (fun e2 => br_t rfl (nm_r (nI_1 p) (hno (by rw [e, e2]; rfl)))) (fun e2 => ⟨vp_in_nI hp (by decide), ?_⟩))⟩))
    rw [nI_clamp (by omega), kw_mx_hi (Nat.le_refl p)]
    by_cases z : 0 ≤ di p
    · exact br_t z (br_t rfl (nm_r (nI_1 p) (hno (by rw [decide_eq_true z]; simp))))
    · refine br_f z (br_f (by decide) ⟨kw_n16, kw_n16, ?_⟩)
      rw [kw_d16 hp, kw_r16 hp, nI_pred]
      refine ky_telling (by omega) (by omega) ?_
      rw [kw_q_mx (by omega)]
      refine kw_br _ (fun e3 => nm_r (nI_1 p) (hno (by rw [e3, Bool.and_false]))) (fun e3 => ⟨vp_in_nI hp (by decide), nm_r ?_ (nm_r (nI_1 p) g)⟩)
      rw [nI_clamp (by omega), ← kw_mx_upd, kw_stp, e, e2, e3, decide_eq_false z]
      rfl
def kw_d0 (fa : Nat → Int32) (p : Nat) : Int32 := if fa (p / 16) = fa (p % 16) then -2 else 0
def kw_D (th : Int32) (fa co di : Nat → Int32) : Nat → Nat → Int32
  | 0 => kw_mx (kw_d0 fa) di 256
  | k + 1 => kw_mx (kw_stp th co k (kw_D th fa co di k)) (kw_D th fa co di k) 256
theorem ky_dist {post : SY → Prop} (h : post (th, ac, ht, fa, co, sz, kd, ag, fi, tr, ia, ho, ro, kw_D th fa co di 17)) : wpY_findDistances post (th, ac, ht, fa, co, sz, kd, ag, fi, tr, ia, ho, ro, di) := by
  unfold wpY_findDistances
  dsimp only
  refine kw_lp (fun n i s => wY_findDistances_2 post th ac ht n (nI i) fa co sz kd ag fi tr ia ho ro s) (fun i => kw_mx (kw_d0 fa) di i) 256 0 (by omega) (fun n => ?_) (fun n p hp g => ?_)
  · refine br_t (nI_le (a := 256) (by omega) (by decide)) ?_
    refine kw_lp (fun n i s => wY_findDistances_50 post th ac ht n (nI (i + 1)) fa co sz kd ag fi tr ia ho ro s) (fun i => kw_D th fa co di i) 17 0 (by omega) (fun n => ?_) (fun n k hk g => ?_)
    · exact br_t (nI_le (a := 18) (by omega) (by decide)) h
    · exact br_f (nI_ge (b := 18) (by omega) (by decide)) (ky_round (di := kw_D th fa co di k) (by omega) g)
  · refine br_f (nI_ge (b := 256) hp (by decide)) ⟨kw_n16, ?_⟩
    rw [kw_d16 hp, kw_r16 hp]
    refine ⟨vp_in_nI (by omega) (by decide), kw_n16, vp_in_nI (by omega) (by decide), ?_⟩
    rw [nI_clamp (by omega), nI_clamp (by omega)]
    have e : upd (kw_mx (kw_d0 fa) di p) p (kw_d0 fa p) = kw_mx (kw_d0 fa) di (p + 1) := kw_mx_upd
    by_cases z : fa (p / 16) = fa (p % 16)
    · rw [kw_d0, if_pos z] at e
      exact br_t z ⟨vp_in_nI hp (by decide), nm_r (by rw [nI_clamp (by omega)]; exact e) (nm_r (nI_1 p) g)⟩
    · rw [kw_d0, if_neg z] at e
      exact br_f z ⟨vp_in_nI hp (by decide), nm_r (by rw [nI_clamp (by omega)]; exact e) (nm_r (nI_1 p) g)⟩
/-! what the distances say -/
theorem kw_q_n2 {d : Nat → Int32} {k x y : Nat} (h : d (16 * x + y) = -2) : kw_q d k x y = false := kw_q_f1 (by rw [h]; decide)
theorem kw_q_nI {d : Nat → Int32} {k x y m : Nat} (h : d (16 * x + y) = nI m) (hm : m < 1000) (hk : k < 1000) : kw_q d k x y = decide (m ≤ k) := by
  unfold kw_q
  rw [h]
  by_cases z : m ≤ k
  · rw [decide_eq_true z, decide_eq_true ⟨nI_pos' (by omega), nI_le z (by omega)⟩]
  · rw [decide_eq_false z, decide_eq_false (fun g => nI_ge (a := k) (b := m) (by omega) (by omega) g.2)]
theorem kw_E (k : Nat) (hk : k < 100) : ∀ w v, w < 16 → v < 16 → bt th w = true → bt th v = true → (∀ n, n ≤ k → kw_q (kw_D th fa co di k) n w v = kw_ap th fa co n w v) ∧ (kw_D th fa co di k (16 * w + v) = -2 ∨ ∃ m, m ≤ k ∧ kw_D th fa co di k (16 * w + v) = nI m) := by
  induction k with
  | zero =>
    intro w v hw hv bw bv
    have e : kw_D th fa co di 0 (16 * w + v) = if fa w = fa v then -2 else 0 := by
      rw [kw_D, kw_mx_lo (by omega), kw_d0, show (16 * w + v) / 16 = w from by omega, show (16 * w + v) % 16 = v from by omega]
    by_cases z : fa w = fa v
    · rw [if_pos z] at e
      refine ⟨fun n hn => ?_, Or.inl e⟩
      have : n = 0 := by omega
      subst this
      rw [kw_q_n2 e]
      exact (decide_eq_false (fun g => g z)).symm
    · rw [if_neg z] at e
      refine ⟨fun n hn => ?_, Or.inr ⟨0, by omega, e⟩⟩
      have : n = 0 := by omega
      subst this
      rw [kw_q_nI (m := 0) e (by omega) (by omega)]
      exact (decide_eq_true (p := fa w ≠ fa v) z).symm
  | succ k ih =>
    intro w v hw hv bw bv
    have ih := ih (by omega)
    have e : kw_D th fa co di (k + 1) (16 * w + v) = if (!decide (0 ≤ kw_D th fa co di k (16 * w + v)) && kw_tl th co (kw_ap th fa co k) w v) = true then nI (k + 1) else kw_D th fa co di k (16 * w + v) := by
      rw [kw_D, kw_mx_lo (by omega), kw_stp, show (16 * w + v) / 16 = w from by omega, show (16 * w + v) % 16 = v from by omega, bw, bv, kw_tl_cg (q' := kw_ap th fa co k) (fun x y hx hy bx bY => (ih x y hx hy bx bY).1 k (by omega))]
      rfl
    obtain ⟨h1, h2⟩ := ih w v hw hv bw bv
    rcases h2 with h2 | ⟨m, hm, h2⟩
    · rw [h2, decide_eq_false (by decide)] at e
      have hf : ∀ n, n ≤ k → kw_ap th fa co n w v = false := fun n hn => by rw [← h1 n hn]; exact kw_q_n2 h2
      cases z : kw_tl th co (kw_ap th fa co k) w v
      · rw [z, if_neg (by decide)] at e
        refine ⟨fun n hn => ?_, Or.inl e⟩
        rw [kw_q_n2 e]
        by_cases g : n = k + 1
        · rw [g, kw_ap_s, hf k (by omega), z]; rfl
        · rw [hf n (by omega)]
      · rw [z, if_pos (by decide)] at e
        refine ⟨fun n hn => ?_, Or.inr ⟨k + 1, by omega, e⟩⟩
        rw [kw_q_nI e (by omega) (by omega)]
        by_cases g : n = k + 1
        · rw [g, kw_ap_s, hf k (by omega), z]; simp
        · rw [hf n (by omega), decide_eq_false (by omega)]
    · have hp : (0 : Int32) ≤ nI m := nI_pos' (by omega)
      rw [h2, decide_eq_true hp, if_neg (by simp)] at e
      refine ⟨fun n hn => ?_, Or.inr ⟨m, by omega, e⟩⟩
      rw [kw_q_nI e (by omega) (by omega)]
      by_cases g : n = k + 1
      · have := h1 k (by omega)
        rw [kw_q_nI h2 (by omega) (by omega), decide_eq_true hm] at this
        rw [g, kw_ap_mono this.symm, decide_eq_true (by omega)]
      · rw [← h1 n (by omega), kw_q_nI h2 (by omega) (by omega)]
theorem ky_kinds {post : Int32 → SY → Prop} (h : ∀ di', post (nI (kw_c (kw_lw th fa co 17) 16)) (th, ac, ht, fa, co, sz, kd, ag, fi, tr, ia, ho, ro, di')) : wpY_kinds post (th, ac, ht, fa, co, sz, kd, ag, fi, tr, ia, ho, ro, di) := by
  unfold wpY_kinds
  dsimp only
  refine ky_dist ?_
  dsimp only
  have hE := kw_E (th := th) (fa := fa) (co := co) (di := di) 17 (by omega)
  generalize kw_D th fa co di 17 = d at hE
  refine kw_lp (fun n i s => wY_kinds_8 post th ac ht fa co sz kd ag fi tr ia ho ro d n s (nI i)) (fun i => nI (kw_c (kw_lw th fa co 17) i)) 16 0 (by omega) (fun n => ?_) (fun n w hw g => ?_)
  · exact br_t (nI_le (a := 16) (by omega) (by decide)) (h d)
  · refine br_f (nI_ge (b := 16) hw (by decide)) (ky_there hw ?_)
    rw [kw_c, kw_lw] at g
    have hin := kw_lp (fun m i s => wY_kinds_23 post (wY_kinds_8 post th ac ht fa co sz kd ag fi tr ia ho ro d n) (nI (kw_c (kw_lw th fa co 17) w)) (nI w) th ac ht fa co sz kd ag fi tr ia ho ro d m s (nI i)) (fun i => kw_b (kw_al (fun v => !(bt th v && !kw_ap th fa co 17 w v)) i && bt th w)) w 0 (by omega)
      (fun m => br_t (nI_le (by omega) (by omega)) (kw_br _ (fun e => nm_r (nI_1 w) (by
        rw [Bool.and_comm, e] at g
        exact g)) (fun e => nm_r (by rw [nI_1]) (nm_r (nI_1 w) (by
        rw [Bool.and_comm, e] at g
        exact g)))))
      (fun m v hv G => br_f (nI_ge hv (by omega)) (kw_br _ (fun e => nm_r (nI_1 v) (by
        have e2 : (kw_al (fun v => !(bt th v && !kw_ap th fa co 17 w v)) (v + 1) && bt th w) = false := by
          rw [kw_al, Bool.and_assoc, Bool.and_comm (!_), ← Bool.and_assoc, e]; rfl
        rw [e2] at G; exact G)) (fun e => by
        rw [Bool.and_eq_true] at e
        rw [kw_al, e.1, e.2] at G
        refine ky_there (by omega) (kw_br _ (fun e1 => nm_r (nI_1 v) ?_) (fun e1 => ?_))
        · rw [e1] at G
          exact G
        · rw [kw_ixY, nI_clamp (by omega)]
          refine ⟨vp_in_nI (by omega) (by decide), ?_⟩
          obtain ⟨h1, h2⟩ := hE w v hw (by omega) e.2 e1
          have h1 := h1 17 (by omega)
          rcases h2 with h2 | ⟨q, hq, h2⟩
          · rw [kw_q_n2 h2] at h1
            rw [e1, ← h1] at G
            exact br_t h2 (nm_r (nI_1 v) G)
          · rw [kw_q_nI h2 (by omega) (by omega), decide_eq_true hq] at h1
            rw [e1, ← h1] at G
            refine br_f (fun z => ?_) (nm_r (nI_1 v) G)
            rw [h2] at z
            exact absurd (nI_pos' (n := q) (by omega)) (by rw [z]; decide))))
    simp only [kw_al, Bool.true_and] at hin
    exact hin
end
end
section
theorem i_vc_apart {k : Nat} {u : SX} {v : SY} (I : i_Rel k u v) (hk : k + 4 ≤ 2048) (v1 : Int32) (v2 : Int32) : wpX_apart (fun r u' => wpY_apart (fun r' v' => r' = r ∧ i_Rel (k + 4) u' v') v v1 v2) u v1 v2 := by
  have J := I
  obtain ⟨wt, aw, tc, fc, fs, ce, tk, ta, fz, hs, ap, na⟩ := u
  obtain ⟨th, ac, ht, fa, co, sz, kd, ag, fi, tr, ia, ho, ro, di⟩ := v
  obtain ⟨rfl, hS, hA, hF, hC, hT⟩ := I
  rcases kw_cs wt v1 with hb | ⟨w, hw, rfl, hb⟩
  · unfold wpX_apart wpY_apart
    dsimp only
    exact kx_thereN hb (br_t rfl (ky_thereN hb (br_t rfl ⟨rfl, J⟩)))
  · rcases kw_cs wt v2 with hb2 | ⟨v, hv, rfl, hb2⟩
    · unfold wpX_apart wpY_apart
      dsimp only
      exact kx_there hw (kw_br _ (fun e => absurd (e.symm.trans hb) (by decide)) fun _ => kx_thereN hb2 (br_t rfl (ky_there hw (kw_br _ (fun e => absurd (e.symm.trans hb) (by decide)) fun _ => ky_thereN hb2 (br_t rfl ⟨rfl, J⟩)))))
    · have hne : ∃ w, w < 16 ∧ bt wt w = true := ⟨w, hw, hb⟩
      have hY : ∀ r ap' na', (∀ d, kw_D wt fa co di 17 (16 * w + v) = d → d = r) → wpY_apart (fun r' v' => r' = r ∧ i_Rel (k + 4) (wt, aw, tc, fc, fs, ce, tk, ta, fz, hs, ap', na') v') (wt, ac, ht, fa, co, sz, kd, ag, fi, tr, ia, ho, ro, di) (nI w) (nI v) := by
        intro r ap' na' hd
        unfold wpY_apart
        dsimp only
        refine ky_there hw (kw_br _ (fun e => absurd (e.symm.trans hb) (by decide)) fun _ => ky_there hv (kw_br _ (fun e => absurd (e.symm.trans hb2) (by decide)) fun _ => ky_dist ?_))
        dsimp only
        rw [kw_ixY, nI_clamp (by omega)]
        exact ⟨vp_in_nI (by omega) (by decide), hd _ rfl, rfl, hS, hA, hF, hC, hT⟩
      obtain ⟨h1, h2⟩ := kw_E (th := wt) (fa := fa) (co := co) (di := di) 17 (by omega) w v hw hv hb hb2
      refine kx_apart hS hF hC hw hv hb hb2 (fun i hi ht hf ap' na' => hY _ _ _ fun d hd => ?_) (fun hf ap' na' => hY _ _ _ fun d hd => ?_)
      · subst hd
        have hq := h1 i (by omega)
        rw [ht] at hq
        rcases h2 with h2 | ⟨m, hm, h2⟩
        · rw [kw_q_n2 h2] at hq
          exact absurd hq (by decide)
        · rw [kw_q_nI h2 (by omega) (by omega)] at hq
          have hmi : m ≤ i := of_decide_eq_true hq
          rw [h2]
          by_cases e : m = i
          · rw [e]
          · have q1 := h1 m hm
            rw [kw_q_nI h2 (by omega) (by omega), hf m (by omega), decide_eq_true (Nat.le_refl m)] at q1
            exact absurd q1 (by decide)
      · subst hd
        rcases h2 with h2 | ⟨m, hm, h2⟩
        · exact h2
        · have q1 := h1 m hm
          rw [kw_q_nI h2 (by omega) (by omega), decide_eq_true (Nat.le_refl m)] at q1
          by_cases e : m < 16
          · rw [hf m e] at q1
            exact absurd q1 (by decide)
          · rw [kw_ap15 hne (by omega) hw hv hb hb2, hf 15 (by omega)] at q1
            exact absurd q1 (by decide)
theorem i_vc_kinds {k : Nat} {u : SX} {v : SY} (I : i_Rel k u v) (hk : k + 4 ≤ 2048) : wpX_kinds (fun r u' => wpY_kinds (fun r' v' => r' = r ∧ i_Rel (k + 4) u' v') v) u := by
  obtain ⟨wt, aw, tc, fc, fs, ce, tk, ta, fz, hs, ap, na⟩ := u
  obtain ⟨th, ac, ht, fa, co, sz, kd, ag, fi, tr, ia, ho, ro, di⟩ := v
  obtain ⟨rfl, hS, hA, hF, hC, hT⟩ := I
  refine kx_kinds hS hF hC fun ap' na' => ky_kinds fun di' => ⟨?_, rfl, hS, hA, hF, hC, hT⟩
  obtain ⟨n, hn, _, _, hb⟩ := hA
  have hne : ∃ w, w < 16 ∧ bt wt w = true := ⟨n, hn, hb⟩
  refine congrArg nI (kw_c_cg fun w hw => ?_)
  unfold kw_lw
  cases bw : bt wt w
  · rw [Bool.false_and, Bool.false_and]
  · rw [Bool.true_and, Bool.true_and]
    apply kw_al_cg
    intro v hv
    cases bv : bt wt v
    · rw [Bool.false_and, Bool.false_and]
    · rw [kw_ap15 hne (n := 17) (by omega) hw (by omega) bw bv]
end
section
section
variable {K Z : Nat → Nat} {n : Nat}
theorem kw_wf_rng (hw : kw_wf K Z n) : ∀ i, i < n → 1 ≤ Z i ∧ Z i ≤ i + 1 := by
  intro i
  induction i using Nat.strongRecOn with
  | ind i ih =>
    intro hi
    obtain ⟨q0, q1, q2⟩ := hw.2.2 i hi
    rcases kw_t_012 (K i) with h | h | h
    · have := q0 h; omega
    · have := q1 h
      have := ih (i - 1) (by omega) (by omega)
      omega
    · have := q2 h
      have := ih (i - 1) (by omega) (by omega)
      have := ih (i - 1 - Z (i - 1)) (by omega) (by omega)
      omega
theorem kw_lam (hw : kw_wf K Z n) : ∀ j, j < n → ∀ i, i ≤ j → j + 1 ≤ i + Z j → j + 1 + Z i ≤ i + 1 + Z j := by
  intro j
  induction j using Nat.strongRecOn with
  | ind j ih =>
    intro hj i hi hs
    by_cases e : i = j
    · subst e; omega
    · obtain ⟨q0, q1, q2⟩ := hw.2.2 j hj
      rcases kw_t_012 (K j) with h | h | h
      · have := q0 h; omega
      · have := q1 h
        have := ih (j - 1) (by omega) (by omega) i (by omega) (by omega)
        omega
      · have := q2 h
        by_cases z : j ≤ i + Z (j - 1)
        · have := ih (j - 1) (by omega) (by omega) i (by omega) (by omega)
          omega
        · have := ih (j - 1 - Z (j - 1)) (by omega) (by omega) i (by omega) (by omega)
          omega
/-- where the F of the innermost AFTER stands in whose G token i is: its place and one, or 0 -/
def kw_ixs (K Z : Nat → Nat) (i : Nat) : Nat → Nat → Nat
  | 0, _ => 0
  | d + 1, j => if K j = 9 ∧ j - Z (j - 1) ≤ i then j - Z (j - 1) else kw_ixs K Z i d (j + 1)
def kw_ix (K Z : Nat → Nat) (n i : Nat) : Nat := kw_ixs K Z i (n - 1 - i) (i + 1)
theorem kw_ixs_le (i : Nat) : ∀ d j, kw_ixs K Z i d j ≤ i := by
  intro d
  induction d with
  | zero => intro j; exact Nat.zero_le _
  | succ d ih =>
    intro j
    rw [kw_ixs]
    by_cases h : K j = 9 ∧ j - Z (j - 1) ≤ i
    · rw [if_pos h]; exact h.2
    · rw [if_neg h]; exact ih _
theorem kw_ix_le (i : Nat) : kw_ix K Z n i ≤ i := kw_ixs_le i _ _
theorem kw_ixs_skip (i d : Nat) : ∀ e j, (∀ j', j ≤ j' → j' < j + e → ¬ (K j' = 9 ∧ j' - Z (j' - 1) ≤ i)) → kw_ixs K Z i (e + d) j = kw_ixs K Z i d (j + e) := by
  intro e
  induction e with
  | zero => intro j _; rw [Nat.zero_add]; rfl
  | succ e ih =>
    intro j h
    rw [show e + 1 + d = (e + d) + 1 from by omega, kw_ixs, if_neg (h j (by omega) (by omega)), ih (j + 1) (fun j' h1 h2 => h j' (by omega) (by omega)), show j + 1 + e = j + (e + 1) from by omega]
theorem kw_ixs_cg (i i' : Nat) : ∀ d j, (∀ j', j ≤ j' → j' < j + d → K j' = 9 → (j' - Z (j' - 1) ≤ i ↔ j' - Z (j' - 1) ≤ i')) → kw_ixs K Z i d j = kw_ixs K Z i' d j := by
  intro d
  induction d with
  | zero => intro j _; rfl
  | succ d ih =>
    intro j h
    rw [kw_ixs, kw_ixs, ih (j + 1) (fun j' h1 h2 => h j' (by omega) (by omega))]
    by_cases e : K j = 9
    · have := h j (by omega) (by omega) e
      by_cases z : j - Z (j - 1) ≤ i
      · rw [if_pos ⟨e, z⟩, if_pos ⟨e, this.mp z⟩]
      · rw [if_neg (fun q => z q.2), if_neg (fun q => z (this.mpr q.2))]
    · rw [if_neg (fun q => e q.1), if_neg (fun q => e q.1)]
theorem kw_ix_top : kw_ix K Z n (n - 1) = 0 := by
  unfold kw_ix
  rw [Nat.sub_self]; rfl
theorem kw_ix_G (hw : kw_wf K Z n) {i : Nat} (hi : i + 1 < n) (h9 : K (i + 1) = 9) : kw_ix K Z n i = i + 1 - Z i := by
  have := kw_wf_rng hw i (by omega)
  unfold kw_ix
  rw [show n - 1 - i = (n - 2 - i) + 1 from by omega, kw_ixs, Nat.add_sub_cancel, if_pos ⟨h9, by omega⟩]
theorem kw_t9 {κ : Nat} (h : κ = 9) : kw_t κ = 2 := by rw [h]; rfl
theorem kw_ix_up (hw : kw_wf K Z n) {i j : Nat} (hij : i < j) (hj : j < n) (h : (i + 1 = j ∧ 1 ≤ kw_t (K j) ∧ K j ≠ 9) ∨ (kw_t (K j) = 2 ∧ i + 1 + Z (j - 1) = j)) : kw_ix K Z n i = kw_ix K Z n j := by
  have hin : j + 1 ≤ i + Z j := by
    obtain ⟨q0, q1, q2⟩ := hw.2.2 j hj
    rcases h with ⟨h1, h2, h3⟩ | ⟨h1, h2⟩
    · rcases kw_t_012 (K j) with t | t | t
      · omega
      · have := q1 t
        have := kw_wf_rng hw (j - 1) (by omega)
        omega
      · have := q2 t
        have := kw_wf_rng hw (j - 1) (by omega)
        omega
    · have := q2 h1
      have e : j - 1 - Z (j - 1) = i := by omega
      rw [e] at this
      have := kw_wf_rng hw i (by omega)
      omega
  unfold kw_ix
  rw [show n - 1 - i = (j - i) + (n - 1 - j) from by omega, kw_ixs_skip i (n - 1 - j) (j - i) (i + 1), show i + 1 + (j - i) = j + 1 from by omega]
  · apply kw_ixs_cg
    intro j' h1 h2 h9
    obtain ⟨q0, q1, q2⟩ := hw.2.2 j' (by omega)
    have q2 := q2 (kw_t9 h9)
    constructor
    · intro z; omega
    · intro z
      have := kw_lam hw (j' - 1) (by omega) j (by omega) (by omega)
      omega
  · rintro j' h1 h2 ⟨h9, hle⟩
    obtain ⟨q0, q1, q2⟩ := hw.2.2 j' (by omega)
    have q2 := q2 (kw_t9 h9)
    rcases h with ⟨g1, g2, g3⟩ | ⟨g1, g2⟩
    · have : j' = j := by omega
      rw [this] at h9
      exact g3 h9
    · by_cases e : j' = j
      · subst e; omega
      · have := kw_lam hw (j - 1) (by omega) j' (by omega) (by omega)
        have := kw_wf_rng hw (j' - 1 - Z (j' - 1)) (by omega)
        omega
end
/-! the parts of a formula as the reference finds them -/
def kw_st (Z : Nat → Nat) (ro : Nat → Int32) : Nat → Nat → Prop
  | 0, i => i = 0
  | m + 1, i => 0 < i ∧ ro m = nI (i - 1) ∧ kw_st Z ro m (i - Z (i - 1))
theorem kw_st_cg {Z : Nat → Nat} {ro ro' : Nat → Int32} : ∀ m i, (∀ j, j < m → ro j = ro' j) → kw_st Z ro m i → kw_st Z ro' m i := by
  intro m
  induction m with
  | zero => intro i _ h; exact h
  | succ m ih =>
    intro i e h
    exact ⟨h.1, by rw [← e m (by omega)]; exact h.2.1, ih _ (fun j hj => e j (by omega)) h.2.2⟩
theorem kw_st_le {Z : Nat → Nat} {ro : Nat → Int32} {n : Nat} (hZ : ∀ i, i < n → 1 ≤ Z i) : ∀ m i, i ≤ n → kw_st Z ro m i → m ≤ i := by
  intro m
  induction m with
  | zero => intro i _ _; exact Nat.zero_le _
  | succ m ih =>
    intro i hi h
    have h1 := ih _ (by omega) h.2.2
    have := hZ (i - 1) (by have := h.1; omega)
    have := h.1
    omega
/-- k has the taker j -/
def kw_ch (K Z : Nat → Nat) (tr ia : Nat → Int32) (k j : Nat) : Prop := tr k = nI j ∧ ((k + 1 = j ∧ 1 ≤ kw_t (K j) ∧ ia k = kw_b (decide (K j = 9))) ∨ (kw_t (K j) = 2 ∧ k + 1 + Z (j - 1) = j ∧ ia k = 0))
def kw_pi (K Z : Nat → Nat) (tr ia : Nat → Int32) (i : Nat) : Prop := ∀ k, k < i → (tr k = -1 ∧ ia k = 0 ∧ ∀ j, k < j → j < i → k + Z j < j + 1) ∨ (∃ j, k < j ∧ j < i ∧ kw_ch K Z tr ia k j)
def kw_fi (K Z : Nat → Nat) (fi : Nat → Int32) (i : Nat) : Prop := ∀ j, j < i → (kw_t (K j) = 1 → fi j = nI (j - 1)) ∧ (kw_t (K j) = 2 → fi j = nI (j - 1 - Z (j - 1)))
section
variable {K Z : Nat → Nat} {n : Nat} {tr ia tr' ia' : Nat → Int32}
theorem kw_pi_s {i : Nat} (hw : kw_wf K Z n) (hi : i < n) (h : kw_pi K Z tr ia i)
    (h1 : tr' i = -1) (h2 : ia' i = 0)
    (h3 : 1 ≤ kw_t (K i) → tr' (i - 1) = nI i ∧ ia' (i - 1) = if kw_t (K i) = 2 then kw_b (decide (K i = 9)) else ia (i - 1))
    (h4 : kw_t (K i) = 2 → tr' (i - 1 - Z (i - 1)) = nI i ∧ ia' (i - 1 - Z (i - 1)) = ia (i - 1 - Z (i - 1)))
    (h5 : ∀ k, k < i → (1 ≤ kw_t (K i) → k ≠ i - 1) → (kw_t (K i) = 2 → k ≠ i - 1 - Z (i - 1)) → tr' k = tr k ∧ ia' k = ia k) : kw_pi K Z tr' ia' (i + 1) := by
  obtain ⟨q0, q1, q2⟩ := hw.2.2 i hi
  intro k hk
  by_cases e : k = i
  · subst e
    exact Or.inl ⟨h1, h2, fun j z1 z2 => absurd z1 (by omega)⟩
  · by_cases c1 : 1 ≤ kw_t (K i) ∧ k = i - 1
    · obtain ⟨c1, rfl⟩ := c1
      have hi1 : 1 ≤ i := by
        rcases kw_t_012 (K i) with t | t | t
        · omega
        · exact (q1 t).1
        · have := q2 t; omega
      refine Or.inr ⟨i, by omega, by omega, (h3 c1).1, Or.inl ⟨by omega, c1, ?_⟩⟩
      rw [(h3 c1).2]
      by_cases t : kw_t (K i) = 2
      · rw [if_pos t]
      · rw [if_neg t, decide_eq_false (fun z => t (kw_t9 z))]
        rcases h (i - 1) (by omega) with ⟨_, z, _⟩ | ⟨j, z1, z2, _⟩
        · exact z
        · omega
    · by_cases c2 : kw_t (K i) = 2 ∧ k = i - 1 - Z (i - 1)
      · obtain ⟨c2, rfl⟩ := c2
        have hq := q2 c2
        have hr := kw_wf_rng hw (i - 1) (by omega)
        refine Or.inr ⟨i, by omega, by omega, (h4 c2).1, Or.inr ⟨c2, by omega, ?_⟩⟩
        rw [(h4 c2).2]
        rcases h (i - 1 - Z (i - 1)) (by omega) with ⟨_, z, _⟩ | ⟨j, z1, z2, z3⟩
        · exact z
        · exfalso
          have hl := kw_lam hw (i - 1) (by omega) j (by omega) (by omega)
          obtain ⟨r0, r1, r2⟩ := hw.2.2 j (by omega)
          rcases z3.2 with ⟨y1, y2, _⟩ | ⟨y1, y2, _⟩
          · rcases kw_t_012 (K j) with t | t | t
            · omega
            · have := r1 t
              have := kw_wf_rng hw (j - 1) (by omega)
              omega
            · have := r2 t
              have := kw_wf_rng hw (j - 1) (by omega)
              omega
          · have := r2 y1
            have := kw_wf_rng hw (j - 1 - Z (j - 1)) (by omega)
            omega
      · have h5 := h5 k (by omega) (fun z1 z2 => c1 ⟨z1, z2⟩) (fun z1 z2 => c2 ⟨z1, z2⟩)
        rcases h k (by omega) with ⟨z1, z2, z3⟩ | ⟨j, z1, z2, z3⟩
        · refine Or.inl ⟨by rw [h5.1]; exact z1, by rw [h5.2]; exact z2, fun j g1 g2 => ?_⟩
          by_cases ej : j = i
          · subst ej
            rcases kw_t_012 (K j) with t | t | t
            · have := q0 t; omega
            · have := q1 t
              have : k ≠ j - 1 := fun z => c1 ⟨by omega, z⟩
              have := z3 (j - 1) (by omega) (by omega)
              omega
            · have := q2 t
              have n1 : k ≠ j - 1 := fun z => c1 ⟨by omega, z⟩
              have n2 : k ≠ j - 1 - Z (j - 1) := fun z => c2 ⟨t, z⟩
              have := z3 (j - 1) (by omega) (by omega)
              have := z3 (j - 1 - Z (j - 1)) (by omega) (by omega)
              omega
          · exact z3 j g1 (by omega)
        · refine Or.inr ⟨j, z1, by omega, ?_⟩
          unfold kw_ch
          rw [h5.1, h5.2]
          exact z3
/-- the end: every token but the last has its taker -/
theorem kw_pi_end (hw : kw_wf K Z n) (h : kw_pi K Z tr ia n) {k : Nat} (hk : k < n) : (tr k = -1 ∧ k = n - 1) ∨ (∃ j, k < j ∧ j < n ∧ kw_ch K Z tr ia k j) := by
  rcases h k hk with ⟨z1, z2, z3⟩ | z
  · left
    refine ⟨z1, ?_⟩
    apply Classical.byContradiction
    intro e
    have := z3 (n - 1) (by omega) (by omega)
    rw [hw.2.1] at this
    omega
  · exact Or.inr z
end
end
section
section
variable {wt aw tc fc : Int32} {fs ce tk ta fz hs ap na : Nat → Int32}
/-- worlds taken out of a set -/
def kw_rm (c : Int32) (q : Nat → Bool) : Nat → Int32
  | 0 => c
  | w + 1 => if q w then kw_rm c q w &&& (((1 : Int32) <<< (nI w &&& 31)) ^^^ (-1)) else kw_rm c q w
theorem kw_rm_bt {c : Int32} {q : Nat → Bool} {n : Nat} (hn : n ≤ 32) {i : Nat} (hi : i < 32) : bt (kw_rm c q n) i = (bt c i && !(decide (i < n) && q i)) := by
  induction n with
  | zero => rw [kw_rm]; simp
  | succ n ih =>
    have ih := ih (by omega)
    rw [kw_rm]
    by_cases e : i = n
    · subst e
      cases hp : q i
      · simp [ih]
      · rw [if_pos rfl, b_and, kw_not _ hi, kw_one hi hi]
        simp
    · have e2 : decide (i < n + 1) = decide (i < n) := by
        by_cases h : i < n
        · simp [h]; omega
        · simp [h]; omega
      cases hp : q n
      · rw [if_neg (by decide), ih, e2]
      · rw [if_pos rfl, b_and, kw_not _ hi, kw_one (m := n) (by omega) hi, ih, e2, decide_eq_false e]
        simp
def kw_dq (ce : Nat → Int32) (g s ar : Int32) (a w : Nat) : Bool := bt g a && !decide ((ce (16 * a + w) &&& ar) &&& (s ^^^ (-1)) = 0)
def kw_akn (ce : Nat → Int32) (g s ar : Int32) : Nat → Int32
  | 0 => ar
  | a + 1 => kw_rm (kw_akn ce g s ar a) (kw_dq ce g s ar a) 16
def kw_ak (ce : Nat → Int32) (g s ar : Int32) : Int32 := kw_akn ce g s ar 3
theorem kx_allKnow {post : Int32 → Prop} {g s ar : Int32} (h : post (kw_ak ce g s ar)) : wpX_allKnow post (wt, aw, tc, fc, fs, ce, tk, ta, fz, hs, ap, na) g s ar := by
  unfold wpX_allKnow
  dsimp only
  refine kw_lp (fun n i c => wX_allKnow_6 post g s ar wt aw tc fc fs ce tk ta fz hs ap na n c (nI i)) (fun i => kw_akn ce g s ar i) 3 0 (by omega) (fun n => ?_) (fun n a ha G => ?_)
  · exact br_t (nI_le (a := 3) (by omega) (by decide)) h
  · refine br_f (nI_ge (b := 3) ha (by decide)) ?_
    refine kw_lp (fun m i c => wX_allKnow_15 post (wX_allKnow_6 post g s ar wt aw tc fc fs ce tk ta fz hs ap na n) g s ar (nI a) wt aw tc fc fs ce tk ta fz hs ap na m c (nI i)) (fun i => kw_rm (kw_akn ce g s ar a) (kw_dq ce g s ar a) i) 16 0 (by omega) (fun m => ?_) (fun m w hw G' => ?_)
    · exact br_t (nI_le (a := 16) (by omega) (by decide)) (nm_r (nI_1 a) G)
    · rw [kw_rm, kw_dq] at G'
      refine br_f (nI_ge (b := 16) hw (by decide)) ?_
      rw [kw_ixX, nI_clamp (by omega)]
      refine ⟨vp_in_nI (by omega) (by decide), ?_⟩
      by_cases z : (ce (16 * a + w) &&& ar) &&& (s ^^^ (-1)) = 0
      · rw [decide_eq_true z, Bool.not_true, Bool.and_false, if_neg (by decide)] at G'
        exact br_t z (kx_isIn (by omega) (kw_br _ (fun e => nm_r (nI_1 w) G') (fun e => br_t rfl (nm_r (nI_1 w) G'))))
      · rw [decide_eq_false z, Bool.not_false, Bool.and_true] at G'
        refine br_f z (kx_isIn (by omega) (kw_br _ (fun e => nm_r (nI_1 w) ?_) (fun e => br_f (by decide) (nm_e (nm_r (nI_1 w) ?_)))))
        · rw [e, if_neg (by decide)] at G'
          exact G'
        · rw [e, if_pos rfl] at G'
          exact G'
def kw_ck (ce : Nat → Int32) (g s ar : Int32) : Nat → Int32
  | 0 => s
  | n + 1 => kw_ak ce g (kw_ck ce g s ar n) ar
theorem kx_common {post : Int32 → Prop} {g s ar : Int32} (h : post (kw_ck ce g s ar 15)) : wpX_commonlyKnown post (wt, aw, tc, fc, fs, ce, tk, ta, fz, hs, ap, na) g s ar := by
  unfold wpX_commonlyKnown
  dsimp only
  refine kw_lp (fun n i c => wX_commonlyKnown_6 post g ar wt aw tc fc fs ce tk ta fz hs ap na n c (nI (i + 1))) (fun i => kw_ck ce g s ar i) 15 0 (by omega) (fun n => ?_) (fun n a ha G => ?_)
  · exact br_t (nI_le (a := 16) (by omega) (by decide)) h
  · exact br_f (nI_ge (b := 16) (by omega) (by decide)) (kx_allKnow (nm_r (nI_1 (a + 1)) G))
def kw_sh (ce : Nat → Int32) (g ar : Int32) (w : Nat) : Nat → Int32
  | 0 => ar
  | a + 1 => if bt g a then kw_sh ce g ar w a &&& ce (16 * a + w) else kw_sh ce g ar w a
def kw_kt (ce : Nat → Int32) (g s ar : Int32) : Int32 := kw_rm ar (fun w => !decide (kw_sh ce g ar w 3 &&& (s ^^^ (-1)) = 0)) 16
theorem kx_tog {post : Int32 → Prop} {g s ar : Int32} (h : post (kw_kt ce g s ar)) : wpX_knownTogether post (wt, aw, tc, fc, fs, ce, tk, ta, fz, hs, ap, na) g s ar := by
  unfold wpX_knownTogether
  dsimp only
  refine kw_lp (fun n i c => wX_knownTogether_6 post g s ar wt aw tc fc fs ce tk ta fz hs ap na n c (nI i)) (fun i => kw_rm ar (fun w => !decide (kw_sh ce g ar w 3 &&& (s ^^^ (-1)) = 0)) i) 16 0 (by omega) (fun n => ?_) (fun n w hw G => ?_)
  · exact br_t (nI_le (a := 16) (by omega) (by decide)) h
  · rw [kw_rm] at G
    refine br_f (nI_ge (b := 16) hw (by decide)) ?_
    refine kw_lp (fun m i c => wX_knownTogether_19 post (wX_knownTogether_6 post g s ar wt aw tc fc fs ce tk ta fz hs ap na n) g s ar (kw_rm ar (fun w => !decide (kw_sh ce g ar w 3 &&& (s ^^^ (-1)) = 0)) w) (nI w) wt aw tc fc fs ce tk ta fz hs ap na m c (nI i)) (fun i => kw_sh ce g ar w i) 3 0 (by omega) (fun m => ?_) (fun m a ha G' => ?_)
    · refine br_t (nI_le (a := 3) (by omega) (by decide)) ?_
      by_cases z : kw_sh ce g ar w 3 &&& (s ^^^ (-1)) = 0
      · rw [decide_eq_true z, if_neg (by decide)] at G
        exact br_t z (nm_r (nI_1 w) G)
      · rw [decide_eq_false z, if_pos (by decide)] at G
        exact br_f z (nm_e (nm_r (nI_1 w) G))
    · rw [kw_sh] at G'
      refine br_f (nI_ge (b := 3) ha (by decide)) (kx_isIn (by omega) (kw_br _ (fun e => nm_r (nI_1 a) ?_) (fun e => ?_)))
      · rw [e, if_neg (by decide)] at G'
        exact G'
      · rw [e, if_pos rfl] at G'
        rw [kw_ixX, nI_clamp (by omega)]
        exact ⟨vp_in_nI (by omega) (by decide), nm_e (nm_r (nI_1 a) G')⟩
def kw_vX (fs ce : Nat → Int32) (a f g ar : Int32) : Nat → Int32
  | 0 => fs a.toNatClampNeg &&& ar
  | 1 => ar &&& (f ^^^ (-1))
  | 2 => f &&& g
  | 3 => f ||| g
  | 4 => ar &&& ((f ^^^ g) ^^^ (-1))
  | 5 => kw_ak ce ((1 : Int32) <<< (a &&& 31)) f ar
  | 6 => kw_ak ce a f ar
  | 7 => kw_ck ce a f ar 15
  | 8 => kw_kt ce a f ar
  | _ => (ar &&& (f ^^^ (-1))) ||| g
theorem kx_72 {post : Int32 → Prop} {a f g ar : Int32} : ∀ κ, κ ≤ 9 → 1 ≤ κ → post (kw_vX fs ce a f g ar κ) → wX_setOfToken_72 post ar (nI κ) a g f wt aw tc fc fs ce tk ta fz hs ap na := by
  refine kw_10 (fun h => absurd h (by omega)) ?_ ?_ ?_ ?_ ?_ ?_ ?_ ?_ ?_ <;> intro _ h <;> rw [kw_vX] at h
  · exact br_f (by decide) (br_f (by decide) (br_t (by decide) h))
  · exact br_f (by decide) (br_f (by decide) (br_f (by decide) (br_t (by decide) h)))
  · exact br_f (by decide) (br_f (by decide) (br_f (by decide) (br_f (by decide) (br_t (by decide) h))))
  · exact br_f (by decide) (br_f (by decide) (br_f (by decide) (br_f (by decide) (br_f (by decide) (br_t (by decide) h)))))
  · exact br_f (by decide) (br_f (by decide) (br_f (by decide) (br_f (by decide) (br_f (by decide) (br_f (by decide) (br_t (by decide) (kx_allKnow h)))))))
  · exact br_f (by decide) (br_f (by decide) (br_f (by decide) (br_f (by decide) (br_f (by decide) (br_f (by decide) (br_f (by decide) (br_t (by decide) (kx_allKnow h))))))))
  · exact br_f (by decide) (br_f (by decide) (br_f (by decide) (br_f (by decide) (br_f (by decide) (br_f (by decide) (br_f (by decide) (br_f (by decide) (br_t (by decide) (kx_common h)))))))))
  · exact br_f (by decide) (br_f (by decide) (br_f (by decide) (br_f (by decide) (br_f (by decide) (br_f (by decide) (br_f (by decide) (br_f (by decide) (br_f (by decide) (br_t (by decide) (kx_tog h))))))))))
  · exact br_f (by decide) (br_t (by decide) h)
  all_goals (intros; omega)
theorem kx_setOf {post : Int32 → Prop} {T κ c : Nat} {f g ar : Int32} (hT : T < 144) (hk : tk T = nI κ) (hκ : κ ≤ 9) (ha : κ = 0 → ∃ p, p < 4 ∧ ta T = nI p)
    (hg : 1 ≤ kw_t κ → 1 ≤ T ∧ hs (T - 1) = g) (hf1 : kw_t κ = 1 → f = g) (hf2 : kw_t κ = 2 → fz (T - 1) = nI c ∧ c + 1 ≤ T ∧ hs (T - 1 - c) = f)
    (h : post (kw_vX fs ce (ta T) f g ar κ)) : wpX_setOfToken post (wt, aw, tc, fc, fs, ce, tk, ta, fz, hs, ap, na) (nI T) ar := by
  unfold wpX_setOfToken
  dsimp only
  rw [nI_clamp (by omega)]
  refine ⟨vp_in_nI hT (by decide), nm_r hk ⟨vp_in_nI hT (by decide), nm_e (kx_taken κ hκ ?_)⟩⟩
  rcases kw_t_012 κ with t | t | t
  · have hκ0 : κ = 0 := by
      apply Classical.byContradiction
      intro z
      unfold kw_t at t
      rw [if_neg z] at t
      by_cases z2 : κ = 2 ∨ κ = 3 ∨ κ = 4 ∨ κ = 9
      · rw [if_pos z2] at t; omega
      · rw [if_neg z2] at t; omega
    obtain ⟨p, hp, e⟩ := ha hκ0
    rw [t]
    subst hκ0
    refine br_t rfl ⟨by rw [e]; exact vp_in_nI hp (by decide), h⟩
  · obtain ⟨h1, h2⟩ := hg (by omega)
    have hκ1 : 1 ≤ κ := by
      apply Classical.byContradiction
      intro z
      have : κ = 0 := by omega
      rw [this] at t
      exact absurd t (by decide)
    have e1 : nI T - 1 = nI (T - 1) := by rw [show (1 : Int32) = nI 1 from rfl, pk_sub h1]
    rw [t, e1, nI_clamp (by omega), h2]
    refine br_f (by decide) ⟨vp_in_nI (by omega) (by decide), nm_e (kx_taken κ hκ ?_)⟩
    rw [t]
    rw [hf1 t] at h
    exact br_f (by decide) (kx_72 κ hκ hκ1 h)
  · obtain ⟨h1, h2⟩ := hg (by omega)
    obtain ⟨c1, c2, c3⟩ := hf2 t
    have hκ1 : 1 ≤ κ := by
      apply Classical.byContradiction
      intro z
      have : κ = 0 := by omega
      rw [this] at t
      exact absurd t (by decide)
    have e1 : nI T - 1 = nI (T - 1) := by rw [show (1 : Int32) = nI 1 from rfl, pk_sub h1]
    have e2 : nI (T - 1) - nI c = nI (T - 1 - c) := pk_sub (by omega)
    rw [t, e1, nI_clamp (by omega), h2, c1, e2, nI_clamp (by omega), c3]
    refine br_f (by decide) ⟨vp_in_nI (by omega) (by decide), nm_e (kx_taken κ hκ ?_)⟩
    rw [t]
    exact br_t rfl ⟨vp_in_nI (by omega) (by decide), vp_in_nI (by omega) (by decide), kx_72 κ hκ hκ1 h⟩
/-! the worlds around a token -/
def kw_val (wt : Int32) (H : Nat → Int32) (o e : Nat) : Int32 := if e = 0 then wt else H (o + (e - 1))
theorem kx_around {post : Int32 → Prop} {Z : Nat → Nat} {o n i : Nat} {kd ag : Nat → Int32} {s : Nat} (hfm : kw_fm tk ta fz kd ag Z o s n) (htc : tc = nI (o + n)) (h144 : o + n ≤ 144) (hi : i < n)
    (h : post (kw_val wt hs o (kw_ix (fun i => (tk (o + i)).toNatClampNeg) (fun i => Z (o + i)) n i))) : wpX_worldsAround post (wt, aw, tc, fc, fs, ce, tk, ta, fz, hs, ap, na) (nI (o + i)) := by
  obtain ⟨h24, hc, hw⟩ := hfm
  have hrng := kw_wf_rng hw
  unfold wpX_worldsAround
  dsimp only
  refine nm_r (nI_1 (o + i)) ⟨n - 1 - i + 1, ?_⟩
  have key : ∀ d j, j + d = n → i < j → post (kw_val wt hs o (kw_ixs (fun i => (tk (o + i)).toNatClampNeg) (fun i => Z (o + i)) i d j)) → wX_worldsAround_4 post (nI (o + i)) wt aw tc fc fs ce tk ta fz hs ap na (d + 1) (nI (o + j)) := by
    intro d
    induction d with
    | zero =>
      intro j hj _ hp
      exact br_t (by rw [htc]; exact nI_le (by omega) (by omega)) hp
    | succ d ih =>
      intro j hj hij hp
      have ih := ih (j + 1) (by omega) (by omega)
      have e1 : nI (o + j) - 1 = nI (o + (j - 1)) := by rw [show (1 : Int32) = nI 1 from rfl, pk_sub (by omega)]; exact congrArg nI (by omega)
      obtain ⟨_, _, ez, _⟩ := hc (j - 1) (by omega)
      obtain ⟨_, _, _, κ, hκ, ek, _⟩ := hc j (by omega)
      have hr := hrng (j - 1) (by omega)
      have e2 : nI (o + j) - nI (Z (o + (j - 1))) = nI (o + (j - Z (o + (j - 1)))) := by
        rw [pk_sub (by omega)]; exact congrArg nI (by omega)
      rw [kw_ixs] at hp
      have eκ : (tk (o + j)).toNatClampNeg = κ := by rw [ek]; exact nI_clamp (by omega)
      rw [eκ] at hp
      have hnx : post (kw_val wt hs o (kw_ixs (fun i => (tk (o + i)).toNatClampNeg) (fun i => Z (o + i)) i d (j + 1))) → ∀ x, x = nI (o + j) + 1 → wX_worldsAround_4 post (nI (o + i)) wt aw tc fc fs ce tk ta fz hs ap na (d + 1) x := fun q => nm_r (e' := nI (o + (j + 1))) (nI_1 (o + j)) (ih q)
      refine br_f (by rw [htc]; exact nI_ge (by omega) (by omega)) ?_
      rw [e1, nI_clamp (by omega), ez, nI_clamp (by omega), ek]
      refine ⟨vp_in_nI (by omega) (by decide), nm_r e2 ⟨vp_in_nI (by omega) (by decide), ?_⟩⟩
      refine pk_eq κ 9 (fun k9 => ?_) (fun k9 => hnx (by rw [if_neg (fun q => k9 q.1)] at hp; exact hp))
      refine pk_lt (o + i) (o + (j - Z (o + (j - 1)))) (fun z => hnx (by rw [if_neg (fun q => by omega)] at hp; exact hp)) (fun z => ?_)
      rw [if_pos ⟨k9, by omega⟩] at hp
      obtain ⟨_, _, q2⟩ := hw.2.2 j (by omega)
      dsimp only at q2
      rw [eκ] at q2
      have q2 := (q2 (kw_t9 k9)).1
      have e3 : nI (o + (j - Z (o + (j - 1)))) - 1 = nI (o + (j - Z (o + (j - 1)) - 1)) := by
        rw [show (1 : Int32) = nI 1 from rfl, pk_sub (by omega)]; exact congrArg nI (by omega)
      rw [e3, nI_clamp (by omega)]
      rw [kw_val, if_neg (by omega)] at hp
      exact ⟨vp_in_nI (by omega) (by decide), hp⟩
  exact key (n - 1 - i) (i + 1) (by omega) (by omega) h
/-! the top's set -/
def kw_VX (wt : Int32) (fs ce tk ta : Nat → Int32) (Z : Nat → Nat) (o n i : Nat) (H : Nat → Int32) : Int32 :=
  kw_vX fs ce (ta (o + i)) (if kw_t (tk (o + i)).toNatClampNeg = 2 then H (o + (i - 1 - Z (o + (i - 1)))) else H (o + (i - 1))) (H (o + (i - 1)))
    (kw_val wt H o (kw_ix (fun i => (tk (o + i)).toNatClampNeg) (fun i => Z (o + i)) n i)) (tk (o + i)).toNatClampNeg
def kw_HX (wt : Int32) (fs ce tk ta hs : Nat → Int32) (Z : Nat → Nat) (o n : Nat) : Nat → Nat → Int32
  | 0 => hs
  | i + 1 => upd (kw_HX wt fs ce tk ta hs Z o n i) (o + i) (kw_VX wt fs ce tk ta Z o n i (kw_HX wt fs ce tk ta hs Z o n i))
theorem kx_topSet {post : Int32 → SX → Prop} {Z : Nat → Nat} {o n : Nat} {kd ag : Nat → Int32} {s : Nat} (hfm : kw_fm tk ta fz kd ag Z o s n) (htc : tc = nI (o + n)) (h144 : o + n ≤ 144)
    (h : post (kw_HX wt fs ce tk ta hs Z o n n (o + (n - 1))) (wt, aw, tc, fc, fs, ce, tk, ta, fz, kw_HX wt fs ce tk ta hs Z o n n, ap, na)) : wpX_topSet post (wt, aw, tc, fc, fs, ce, tk, ta, fz, hs, ap, na) := by
  have hfm2 := hfm
  obtain ⟨h24, hc, hw⟩ := hfm
  have h1 := hw.1
  have hz : fz (o + n - 1) = nI n := by
    rw [show o + n - 1 = o + (n - 1) from by omega, (hc (n - 1) (by omega)).2.2.1]
    exact congrArg nI hw.2.1
  unfold wpX_topSet
  dsimp only
  refine kx_szt1 htc h144 (by omega) hz (nm_r (e' := nI (o + 0)) (by rw [htc, pk_sub (by omega)]; exact congrArg nI (by omega)) ?_)
  refine kw_lp (fun m i q => wX_topSet_11 post wt aw tc fc m (nI (o + i)) fs ce tk ta fz q ap na) (fun i => kw_HX wt fs ce tk ta hs Z o n i) n 0 (by omega) (fun m => ?_) (fun m i hi G => ?_)
  · have e1 : tc - 1 = nI (o + (n - 1)) := by rw [htc, show (1 : Int32) = nI 1 from rfl, pk_sub (by omega)]; exact congrArg nI (by omega)
    refine br_t (by rw [htc]; exact nI_le (by omega) (by omega)) ?_
    rw [e1, nI_clamp (by omega)]
    exact ⟨vp_in_nI (by omega) (by decide), h⟩
  · refine br_f (by rw [htc]; exact nI_ge (by omega) (by omega)) (kx_around hfm2 htc h144 hi ?_)
    obtain ⟨_, _, _, κ, hκ, ek, ha0, _⟩ := hc i hi
    have eκ : (tk (o + i)).toNatClampNeg = κ := by rw [ek]; exact nI_clamp (by omega)
    obtain ⟨q0, q1, q2⟩ := hw.2.2 i hi
    dsimp only at q0 q1 q2
    rw [eκ] at q0 q1 q2
    refine kx_setOf (κ := κ) (c := Z (o + (i - 1))) (f := if kw_t κ = 2 then kw_HX wt fs ce tk ta hs Z o n i (o + (i - 1 - Z (o + (i - 1)))) else kw_HX wt fs ce tk ta hs Z o n i (o + (i - 1))) (g := kw_HX wt fs ce tk ta hs Z o n i (o + (i - 1))) (by omega) ek hκ ha0 (fun t => ?_) (fun t => if_neg (by omega)) (fun t => ?_) ⟨vp_in_nI (by omega) (by decide), nm_r ?_ (nm_r (nI_1 (o + i)) G)⟩
    · have : 1 ≤ i := by
        rcases kw_t_012 κ with t' | t' | t'
        · omega
        · exact (q1 t').1
        · have := q2 t'; omega
      exact ⟨by omega, congrArg _ (by omega)⟩
    · have q2 := q2 t
      refine ⟨?_, by omega, ?_⟩
      · rw [show o + i - 1 = o + (i - 1) from by omega]
        exact (hc (i - 1) (by omega)).2.2.1
      · rw [if_pos t]
        exact congrArg _ (by omega)
    · rw [nI_clamp (by omega), kw_HX, kw_VX, eκ]
end
end
section
section
variable {th ac ht : Int32} {fa co sz kd ag fi tr ia ho ro di : Nat → Int32}
def kw_na (co : Nat → Int32) (g : Int32) (w v a : Nat) : Bool := kw_R co a w v || !bt g a
def kw_no1 (co : Nat → Int32) (g : Int32) (w v a : Nat) : Bool := kw_R co a w v && bt g a
def kw_nx (co : Nat → Int32) (set g : Int32) (b : Bool) (w : Nat) : Int32 := kw_mk (fun v => bt set v && (if b then kw_ex (kw_no1 co g w v) 3 else kw_al (kw_na co g w v) 3)) 16
theorem ky_64 {post : Int32 → Prop} {J6 : Int32 → Int32 → Prop} {J22 : Int32 → Int32 → Int32 → Prop} {x1 x2 x4 x5 x6 g z0 : Int32} {a : Nat} {b r : Bool} (ha : a < 3) (h : J22 z0 (kw_b (b || (r && bt g a))) (nI (a + 1))) : wY_next_64 post J6 J22 x1 x2 g x4 x5 x6 (kw_b b) (nI a) (kw_b r) z0 th ac ht fa co sz kd ag fi tr ia ho ro di := by
  unfold wY_next_64
  refine kw_br _ (fun e => kw_br _ (fun e2 => nm_r (nI_1 a) ?_) (fun e2 => ky_in (by omega) (kw_br _ (fun e3 => nm_r (nI_1 a) ?_) (fun e3 => nm_r (nI_1 a) ?_)))) (fun e => nm_r (nI_1 a) ?_)
  · rw [e, e2] at h; exact h
  · rw [e, e2, e3] at h; exact h
  · rw [e, e2, e3] at h; exact h
  · rw [e] at h; exact h
theorem ky_next {post : Int32 → Prop} {set g : Int32} {w : Nat} {b : Bool} (hw : w < 16) (h : post (kw_nx co set g b w)) : wpY_next post (th, ac, ht, fa, co, sz, kd, ag, fi, tr, ia, ho, ro, di) set (nI w) g (kw_b b) := by
  unfold wpY_next
  dsimp only
  refine kw_lp (fun n i s => wY_next_6 post set (nI w) g (kw_b b) th ac ht fa co sz kd ag fi tr ia ho ro di n s (nI i)) (fun i => kw_mk (fun v => bt set v && (if b then kw_ex (kw_no1 co g w v) 3 else kw_al (kw_na co g w v) 3)) i) 16 0 (by omega) (fun n => ?_) (fun n v hv G => ?_)
  · exact br_t (nI_le (a := 16) (by omega) (by decide)) h
  · rw [kw_mk] at G
    refine br_f (nI_ge (b := 16) hv (by decide)) ?_
    generalize kw_mk (fun v => bt set v && (if b then kw_ex (kw_no1 co g w v) 3 else kw_al (kw_na co g w v) 3)) v = out at G
    refine kw_lp (fun m i (s : Int32 × Int32) => wY_next_22 post (wY_next_6 post set (nI w) g (kw_b b) th ac ht fa co sz kd ag fi tr ia ho ro di n) set (nI w) g (kw_b b) out (nI v) th ac ht fa co sz kd ag fi tr ia ho ro di m s.1 s.2 (nI i)) (fun i => (kw_b (kw_al (kw_na co g w v) i), kw_b (kw_ex (kw_no1 co g w v) i))) 3 0 (by omega) (fun m => ?_) (fun m a ha G' => ?_)
    · refine br_t (nI_le (a := 3) (by omega) (by decide)) (ky_in (by omega) (kw_br _ (fun e => nm_r (nI_1 v) ?_) (fun e => kw_br _ (fun e2 => kw_br _ (fun e3 => nm_r (nI_1 v) ?_) (fun e3 => nm_e (nm_r (nI_1 v) ?_))) (fun e2 => kw_br _ (fun e3 => nm_r (nI_1 v) ?_) (fun e3 => nm_e (nm_r (nI_1 v) ?_))))))
      · rw [e, Bool.false_and, if_neg (by decide)] at G; exact G
      · have E : (bt set v && (if b then kw_ex (kw_no1 co g w v) 3 else kw_al (kw_na co g w v) 3)) = false := by simp [e, e2, e3]
        rw [E, if_neg (by decide)] at G; exact G
      · have E : (bt set v && (if b then kw_ex (kw_no1 co g w v) 3 else kw_al (kw_na co g w v) 3)) = true := by simp [e, e2, e3]
        rw [E, if_pos rfl] at G; exact G
      · have E : (bt set v && (if b then kw_ex (kw_no1 co g w v) 3 else kw_al (kw_na co g w v) 3)) = false := by simp [e, e2, e3]
        rw [E, if_neg (by decide)] at G; exact G
      · have E : (bt set v && (if b then kw_ex (kw_no1 co g w v) 3 else kw_al (kw_na co g w v) 3)) = true := by simp [e, e2, e3]
        rw [E, if_pos rfl] at G; exact G
    · dsimp only at G'
      rw [kw_al, kw_ex, kw_na, kw_no1] at G'
      refine br_f (nI_ge (b := 3) ha (by decide)) (ky_same ha hw hv (kw_br _ (fun e => ky_64 ha ?_) (fun e => kw_br _ (fun e2 => ky_in (by omega) (kw_br _ (fun e3 => ky_64 ha ?_) (fun e3 => ky_64 ha ?_))) (fun e2 => ky_64 ha ?_))))
      · rw [e] at G'; exact G'
      · rw [e, e3, show kw_R co a w v = false from e2] at G'
        rw [e3, e2]; exact G'
      · rw [e, e3, show kw_R co a w v = false from e2] at G'
        rw [e3, e2]; exact G'
      · rw [e, show kw_R co a w v = true from e2] at G'
        rw [e2]; exact G'
def kw_rc (co : Nat → Int32) (set g : Int32) (w : Nat) : Nat → Int32
  | 0 => (1 : Int32) <<< (nI w &&& 31)
  | t + 1 => if bt (kw_rc co set g w t) (t % 16) then kw_rc co set g w t ||| kw_nx co set g true (t % 16) else kw_rc co set g w t
theorem ky_reached {post : Int32 → Prop} {set g : Int32} {w : Nat} (hw : w < 16) (h : post (kw_rc co set g w 256)) : wpY_reached post (th, ac, ht, fa, co, sz, kd, ag, fi, tr, ia, ho, ro, di) set (nI w) g := by
  unfold wpY_reached
  dsimp only
  refine nm_e ?_
  refine kw_lp (fun n i s => wY_reached_8 post set g th ac ht fa co sz kd ag fi tr ia ho ro di n s (nI i)) (fun i => kw_rc co set g w i) 256 0 (by omega) (fun n => ?_) (fun n t ht G => ?_)
  · exact br_t (nI_le (a := 256) (by omega) (by decide)) h
  · rw [kw_rc] at G
    refine br_f (nI_ge (b := 256) ht (by decide)) ⟨kw_n16, nm_r (e' := nI (t % 16)) (by rw [kw_d16 ht, kw_r16 ht]) (ky_in (by omega) (kw_br _ (fun e => nm_r (nI_1 t) ?_) (fun e => ky_next (b := true) (by omega) (nm_e (nm_r (nI_1 t) ?_)))))⟩
    · rw [e, if_neg (by decide)] at G; exact G
    · rw [e, if_pos rfl] at G; exact G
def kw_seen (co : Nat → Int32) (set a : Int32) (w κ : Nat) : Int32 := if κ = 5 then kw_nx co set ((1 : Int32) <<< (a &&& 31)) false w else if κ = 6 then kw_nx co set a true w else if κ = 7 then kw_rc co set a w 256 else kw_nx co set a false w
theorem ky_74 {post : Int32 → Prop} {p s : Int32} (h : post (kw_b (decide (s &&& (p ^^^ (-1)) = 0)))) : wY_seesOnly_74 post p s th ac ht fa co sz kd ag fi tr ia ho ro di := by
  unfold wY_seesOnly_74
  by_cases z : s &&& (p ^^^ (-1)) = 0
  · rw [decide_eq_true z] at h; exact br_t z h
  · rw [decide_eq_false z] at h; exact br_f z h
theorem ky_sees {post : Int32 → Prop} {a set p : Int32} {w κ : Nat} (hw : w < 16) (hκ : κ = 5 ∨ κ = 6 ∨ κ = 7 ∨ κ = 8) (h : post (kw_b (decide (kw_seen co set a w κ &&& (p ^^^ (-1)) = 0)))) : wpY_seesOnly post (th, ac, ht, fa, co, sz, kd, ag, fi, tr, ia, ho, ro, di) (nI κ) a set (nI w) p := by
  unfold wpY_seesOnly
  dsimp only
  rcases hκ with rfl | rfl | rfl | rfl
  · exact br_t (by decide) (ky_next (b := false) hw (ky_74 h))
  · exact br_f (by decide) (br_t (by decide) (ky_next (b := true) hw (ky_74 h)))
  · exact br_f (by decide) (br_f (by decide) (br_t (by decide) (ky_reached hw (ky_74 h))))
  · exact br_f (by decide) (br_f (by decide) (br_f (by decide) (ky_next (b := false) hw (ky_74 h))))
def kw_iY (fa co : Nat → Int32) (a set f g : Int32) (w κ : Nat) : Bool :=
  if κ = 0 then bt (fa w) a.toNatClampNeg else if κ = 1 then !bt f w else if κ = 2 then bt f w && bt g w else if κ = 3 then bt f w || bt g w else if κ = 4 then bt f w == bt g w else if κ = 9 then !bt f w || bt g w else decide (kw_seen co set a w κ &&& (f ^^^ (-1)) = 0)
theorem ky_isIn {post : Int32 → Prop} {a set f g : Int32} {w : Nat} (hw : w < 16) : ∀ κ, κ ≤ 9 → (κ = 0 → ∃ p, p < 4 ∧ a = nI p) → post (kw_b (kw_iY fa co a set f g w κ)) → wpY_isIn post (th, ac, ht, fa, co, sz, kd, ag, fi, tr, ia, ho, ro, di) (nI κ) a set (nI w) f g := by
  unfold wpY_isIn
  dsimp only
  refine kw_10 ?_ ?_ ?_ ?_ ?_ ?_ ?_ ?_ ?_ ?_ <;> intro ha h
  · obtain ⟨p, hp, rfl⟩ := ha rfl
    rw [kw_iY, if_pos rfl, nI_clamp (by omega)] at h
    refine br_f (by decide) (br_f (by decide) (br_t (by decide) ⟨vp_in_nI hw (by decide), ?_⟩))
    rw [nI_clamp (by omega)]
    exact ky_in (by omega) ⟨kw_nar _, h⟩
  · exact br_f (by decide) (br_f (by decide) (br_f (by decide) (br_t (by decide) (ky_in (by omega) (kw_pn h)))))
  · exact br_f (by decide) (br_f (by decide) (br_f (by decide) (br_f (by decide) (br_t (by decide) (ky_in (by omega) (kw_br _ (fun e => by
      have e2 : kw_iY fa co a set f g w 2 = false := by show (bt f w && bt g w) = false; rw [e]; rfl
      rw [e2] at h; exact h) (fun e => ky_in (by omega) (kw_pp (by
      have e2 : kw_iY fa co a set f g w 2 = bt g w := by show (bt f w && bt g w) = bt g w; rw [e]; rfl
      rw [e2] at h; exact h)))))))))
  · exact br_f (by decide) (br_f (by decide) (br_f (by decide) (br_f (by decide) (br_f (by decide) (br_t (by decide) (ky_in (by omega) (kw_br _ (fun e => ky_in (by omega) (kw_pp (by
      have e2 : kw_iY fa co a set f g w 3 = bt g w := by show (bt f w || bt g w) = bt g w; rw [e]; rfl
      rw [e2] at h; exact h))) (fun e => by
      have e2 : kw_iY fa co a set f g w 3 = true := by show (bt f w || bt g w) = true; rw [e]; rfl
      rw [e2] at h; exact h))))))))
  · exact br_f (by decide) (br_f (by decide) (br_f (by decide) (br_f (by decide) (br_f (by decide) (br_f (by decide) (br_t (by decide) (ky_in (by omega) (ky_in (by omega) (kw_br2 _ _ (fun e => by
      have e2 : kw_iY fa co a set f g w 4 = true := by show (bt f w == bt g w) = true; rw [e]; exact beq_self_eq_true _
      rw [e2] at h; exact h) (fun e => by
      have e2 : kw_iY fa co a set f g w 4 = false := by show (bt f w == bt g w) = false; exact beq_eq_false_iff_ne.mpr e
      rw [e2] at h; exact h))))))))))
  · exact br_f (by decide) (br_f (by decide) (br_f (by decide) (br_f (by decide) (br_f (by decide) (br_f (by decide) (br_f (by decide) (br_t (by decide) (ky_sees (κ := 5) hw (by omega) ⟨kw_nar _, h⟩))))))))
  · exact br_f (by decide) (br_f (by decide) (br_f (by decide) (br_f (by decide) (br_f (by decide) (br_f (by decide) (br_f (by decide) (br_f (by decide) (br_t (by decide) (ky_sees (κ := 6) hw (by omega) ⟨kw_nar _, h⟩)))))))))
  · exact br_f (by decide) (br_f (by decide) (br_f (by decide) (br_f (by decide) (br_f (by decide) (br_f (by decide) (br_f (by decide) (br_f (by decide) (br_f (by decide) (br_t (by decide) (ky_sees (κ := 7) hw (by omega) ⟨kw_nar _, h⟩))))))))))
  · exact br_f (by decide) (br_f (by decide) (br_f (by decide) (br_f (by decide) (br_f (by decide) (br_f (by decide) (br_f (by decide) (br_f (by decide) (br_f (by decide) (br_f (by decide) (br_t (by decide) (ky_sees (κ := 8) hw (by omega) ⟨kw_nar _, h⟩)))))))))))
  · exact br_f (by decide) (br_f (by decide) (br_f (by decide) (br_f (by decide) (br_f (by decide) (br_f (by decide) (br_f (by decide) (br_f (by decide) (br_f (by decide) (br_f (by decide) (br_f (by decide) (br_t (by decide) (ky_in (by omega) (kw_br _ (fun e => by
      have e2 : kw_iY fa co a set f g w 9 = true := by show (!bt f w || bt g w) = true; rw [e]; rfl
      rw [e2] at h; exact h) (fun e => ky_in (by omega) (kw_pp (by
      have e2 : kw_iY fa co a set f g w 9 = bt g w := by show (!bt f w || bt g w) = bt g w; rw [e]; rfl
      rw [e2] at h; exact h))))))))))))))))
end
end
section
section
variable {th ac ht : Int32} {fa co sz kd ag fi tr ia ho ro di : Nat → Int32}
theorem kw_vn (b : Bool) : vp_nar .boolean (kw_b b) = kw_b b := by unfold vp_nar; rw [kw_nar]
theorem ky_83 {post : SY → Prop} {J : Int32 → Int32 → (Nat → Int32) → (Nat → Int32) → (Nat → Int32) → (Nat → Int32) → (Nat → Int32) → (Nat → Int32) → (Nat → Int32) → (Nat → Int32) → (Nat → Int32) → (Nat → Int32) → (Nat → Int32) → Prop} {x1 : Int32} {m i κ : Nat} (hκ : κ ≤ 9) (hte : kw_t κ ≠ 2) (hm : m < 24) (h : J (nI (m + 1)) (nI (i + 1)) fa co sz kd ag fi tr ia ho (upd ro m (nI i)) di) : wY_findParts_83 post J x1 (nI m) (nI i) (nI κ) th ac ht fa co sz kd ag fi tr ia ho ro di := by
  unfold wY_findParts_83
  refine ky_takes κ hκ (br_f (fun z => ?_) ⟨vp_in_nI hm (by decide), nm_r (by rw [nI_clamp (by omega)]) (nm_r (nI_1 m) (nm_r (nI_1 i) h))⟩)
  have := (nI_eq (a := kw_t κ) (b := 2) (by have := kw_t_012 κ; omega) (by omega)).mp z
  exact hte this
theorem ky_83b {post : SY → Prop} {J : Int32 → Int32 → (Nat → Int32) → (Nat → Int32) → (Nat → Int32) → (Nat → Int32) → (Nat → Int32) → (Nat → Int32) → (Nat → Int32) → (Nat → Int32) → (Nat → Int32) → (Nat → Int32) → (Nat → Int32) → Prop} {x1 : Int32} {m i κ : Nat} (hκ : κ ≤ 9) (hte : kw_t κ = 2) (hm : m < 24) (hi : 1 ≤ i) (hi2 : i < 24) (h : J (nI (m + 1)) (nI (i + 1)) fa co sz kd ag fi (upd tr (i - 1) (nI i)) (upd ia (i - 1) (kw_b (decide (κ = 9)))) ho (upd ro m (nI i)) di) : wY_findParts_83 post J x1 (nI m) (nI i) (nI κ) th ac ht fa co sz kd ag fi tr ia ho ro di := by
  unfold wY_findParts_83
  have e1 : nI i - 1 = nI (i - 1) := by rw [show (1 : Int32) = nI 1 from rfl, pk_sub hi]
  refine ky_takes κ hκ ?_
  rw [hte, e1]
  refine br_t rfl ⟨vp_in_nI (by omega) (by decide), nm_r (by rw [nI_clamp (by omega)]) (pk_eq κ 9 (fun e => ?_) (fun e => ?_))⟩
  · rw [decide_eq_true e] at h
    exact ⟨vp_in_nI (by omega) (by decide), nm_r (by rw [nI_clamp (by omega)]; exact congrArg _ (kw_vn true)) ⟨vp_in_nI hm (by decide), nm_r (by rw [nI_clamp (by omega)]) (nm_r (nI_1 m) (nm_r (nI_1 i) h))⟩⟩
  · rw [decide_eq_false e] at h
    exact ⟨vp_in_nI (by omega) (by decide), nm_r (by rw [nI_clamp (by omega)]; exact congrArg _ (kw_vn false)) ⟨vp_in_nI hm (by decide), nm_r (by rw [nI_clamp (by omega)]) (nm_r (nI_1 m) (nm_r (nI_1 i) h))⟩⟩
theorem kw_fi_s {K Z : Nat → Nat} {i : Nat} {fi' : Nat → Int32} (h : kw_fi K Z fi i) (h1 : ∀ j, j < i → fi' j = fi j) (h2 : kw_t (K i) = 1 → fi' i = nI (i - 1)) (h3 : kw_t (K i) = 2 → fi' i = nI (i - 1 - Z (i - 1))) : kw_fi K Z fi' (i + 1) := by
  intro j hj
  by_cases e : j = i
  · subst e; exact ⟨h2, h3⟩
  · rw [h1 j (by omega)]
    exact h j (by omega)
theorem ky_parts {post : SY → Prop} {K Z : Nat → Nat} {n s : Nat} (hw : kw_wf K Z n) (hn : n ≤ 24) (hs : s < 6) (hsz : sz s = nI n) (hK : ∀ i, i < n → kd (24 * s + i) = nI (K i) ∧ K i ≤ 9)
    (h : ∀ fi' tr' ia' ro', kw_pi K Z tr' ia' n → kw_fi K Z fi' n → post (th, ac, ht, fa, co, sz, kd, ag, fi', tr', ia', ho, ro', di)) : wpY_findParts post (th, ac, ht, fa, co, sz, kd, ag, fi, tr, ia, ho, ro, di) (nI s) := by
  unfold wpY_findParts
  dsimp only
  have hrng := kw_wf_rng hw
  refine pk_loop (fun N i (q : Nat × (Nat → Int32) × (Nat → Int32) × (Nat → Int32) × (Nat → Int32)) => wY_findParts_4 post (nI s) th ac ht N (nI q.1) (nI i) fa co sz kd ag q.2.1 q.2.2.1 q.2.2.2.1 ho q.2.2.2.2 di) (fun i q => kw_st Z q.2.2.2.2 q.1 i ∧ kw_pi K Z q.2.2.1 q.2.2.2.1 i ∧ kw_fi K Z q.2.1 i) n 0 (0, fi, tr, ia, ro) (by omega) ⟨rfl, fun k hk => absurd hk (by omega), fun k hk => absurd hk (by omega)⟩ (fun N q I => ?_) (fun N i q hi I g => ?_)
  · refine ⟨vp_in_nI hs (by decide), br_t ?_ (h _ _ _ _ I.2.1 I.2.2)⟩
    rw [nI_clamp (by omega), hsz]
    exact nI_le (by omega) (by omega)
  · obtain ⟨m, fi, tr, ia, ro⟩ := q
    obtain ⟨hst, hpi, hfi⟩ := I
    dsimp only at hst hpi hfi ⊢
    obtain ⟨ek, hk9⟩ := hK i hi
    obtain ⟨q0, q1, q2⟩ := hw.2.2 i hi
    have hmi := kw_st_le (n := n) (fun j hj => (hrng j hj).1) m i (by omega) hst
    refine ⟨vp_in_nI hs (by decide), br_f ?_ ?_⟩
    · rw [nI_clamp (by omega), hsz]
      exact nI_ge hi (by omega)
    · rw [kw_ixT, nI_clamp (by omega), nI_clamp (by omega), ek]
      refine ⟨vp_in_nI (by omega) (by decide), nm_e ⟨vp_in_nI (by omega) (by decide), nm_e ⟨vp_in_nI (by omega) (by decide), nm_r (e' := upd ia i 0) (congrArg _ (kw_vn false)) (ky_takes (K i) hk9 ?_)⟩⟩⟩
      rcases kw_t_012 (K i) with t | t | t
      · rw [t]
        refine nm_r (e' := nI m) (Int32.sub_zero _) (ky_takes (K i) hk9 ?_)
        rw [t]
        refine br_t (by decide) (ky_83 hk9 (by omega) (by omega) (g (m + 1, fi, upd tr i (-1), upd ia i 0, upd ro m (nI i)) ⟨⟨by omega, pk_us, ?_⟩, ?_, ?_⟩))
        · show kw_st Z (upd ro m (nI i)) m (i + 1 - Z i)
          rw [q0 t]
          exact kw_st_cg m i (fun j hj => (pk_un (by omega)).symm) hst
        · exact kw_pi_s hw hi hpi pk_us pk_us (fun z => by omega) (fun z => by omega) (fun k hk _ _ => ⟨pk_un (by omega), pk_un (by omega)⟩)
        · exact kw_fi_s hfi (fun j _ => rfl) (fun z => by omega) (fun z => by omega)
      · obtain ⟨i1, iz⟩ := q1 t
        cases m with
        | zero => exact absurd (show i = 0 from hst) (by omega)
        | succ m =>
          obtain ⟨_, er, hst⟩ := hst
          rw [t]
          refine nm_r (e' := nI m) (by rw [pk_sub (by omega)]; rfl) (ky_takes (K i) hk9 ?_)
          rw [t, nI_clamp (n := m) (by omega), er, nI_clamp (by omega)]
          refine br_f (by decide) ⟨vp_in_nI (by omega) (by decide), vp_in_nI (by omega) (by decide), nm_e ⟨vp_in_nI (by omega) (by decide), vp_in_nI (by omega) (by decide), nm_e (ky_83 hk9 (by omega) (by omega) (g (m + 1, upd fi i (nI (i - 1)), upd (upd tr i (-1)) (i - 1) (nI i), upd ia i 0, upd ro m (nI i)) ⟨⟨by omega, pk_us, ?_⟩, ?_, ?_⟩))⟩⟩
          · show kw_st Z (upd ro m (nI i)) m (i + 1 - Z i)
            rw [iz, show i + 1 - (1 + Z (i - 1)) = i - Z (i - 1) from by omega]
            exact kw_st_cg m _ (fun j hj => (pk_un (by omega)).symm) hst
          · show kw_pi K Z (upd (upd tr i (-1)) (i - 1) (nI i)) (upd ia i 0) (i + 1)
            refine kw_pi_s hw hi hpi (by rw [pk_un (by omega), pk_us]) pk_us (fun z => ⟨pk_us, ?_⟩) (fun z => by omega) (fun k hk z _ => ?_)
            · rw [if_neg (by omega), pk_un (by omega)]
            · have := z (by omega)
              rw [pk_un (by omega), pk_un (by omega), pk_un (by omega)]
              exact ⟨rfl, rfl⟩
          · exact kw_fi_s hfi (fun j hj => pk_un (by omega)) (fun _ => pk_us) (fun z => by omega)
      · obtain ⟨i1, iz⟩ := q2 t
        have hr1 := hrng (i - 1) (by omega)
        cases m with
        | zero => exact absurd (show i = 0 from hst) (by omega)
        | succ m =>
          obtain ⟨_, er, hst⟩ := hst
          cases m with
          | zero => exact absurd (show i - Z (i - 1) = 0 from hst) (by omega)
          | succ m =>
            obtain ⟨_, er2, hst⟩ := hst
            have ef : i - Z (i - 1) - 1 = i - 1 - Z (i - 1) := by omega
            rw [ef] at er2 hst
            rw [t]
            refine nm_r (e' := nI m) (by rw [pk_sub (by omega)]; rfl) (ky_takes (K i) hk9 ?_)
            rw [t, nI_clamp (n := m) (by omega), er2, nI_clamp (by omega)]
            refine br_f (by decide) ⟨vp_in_nI (by omega) (by decide), vp_in_nI (by omega) (by decide), nm_e ⟨vp_in_nI (by omega) (by decide), vp_in_nI (by omega) (by decide), nm_e (ky_83b hk9 t (by omega) (by omega) (by omega) (g (m + 1, upd fi i (nI (i - 1 - Z (i - 1))), upd (upd (upd tr i (-1)) (i - 1 - Z (i - 1)) (nI i)) (i - 1) (nI i), upd (upd ia i 0) (i - 1) (kw_b (decide (K i = 9))), upd ro m (nI i)) ⟨⟨by omega, pk_us, ?_⟩, ?_, ?_⟩))⟩⟩
            · show kw_st Z (upd ro m (nI i)) m (i + 1 - Z i)
              rw [iz, show i + 1 - (1 + Z (i - 1) + Z (i - 1 - Z (i - 1))) = i - Z (i - 1) - Z (i - 1 - Z (i - 1)) from by omega]
              exact kw_st_cg m _ (fun j hj => (pk_un (by omega)).symm) hst
            · show kw_pi K Z (upd (upd (upd tr i (-1)) (i - 1 - Z (i - 1)) (nI i)) (i - 1) (nI i)) (upd (upd ia i 0) (i - 1) (kw_b (decide (K i = 9)))) (i + 1)
              refine kw_pi_s hw hi hpi (by rw [pk_un (by omega), pk_un (by omega), pk_us]) (by rw [pk_un (by omega), pk_us]) (fun z => ⟨pk_us, ?_⟩) (fun z => ⟨?_, ?_⟩) (fun k hk z1 z2 => ?_)
              · rw [if_pos t, pk_us]
              · rw [pk_un (by omega), pk_us]
              · rw [pk_un (by omega), pk_un (by omega)]
              · have := z1 (by omega)
                have := z2 t
                rw [pk_un (by omega), pk_un (by omega), pk_un (by omega), pk_un (by omega), pk_un (by omega)]
                exact ⟨rfl, rfl⟩
            · exact kw_fi_s hfi (fun j hj => pk_un (by omega)) (fun z => by omega) (fun _ => pk_us)
/-! the worlds about a token -/
theorem kw_in_up {K Z : Nat → Nat} {n : Nat} (hw : kw_wf K Z n) {i j : Nat} (hij : i < j) (hj : j < n) (h : (i + 1 = j ∧ 1 ≤ kw_t (K j)) ∨ (kw_t (K j) = 2 ∧ i + 1 + Z (j - 1) = j)) : j + 1 ≤ i + Z j := by
  obtain ⟨q0, q1, q2⟩ := hw.2.2 j hj
  rcases h with ⟨h1, h2⟩ | ⟨h1, h2⟩
  · rcases kw_t_012 (K j) with t | t | t
    · omega
    · have := q1 t
      have := kw_wf_rng hw (j - 1) (by omega)
      omega
    · have := q2 t
      have := kw_wf_rng hw (j - 1) (by omega)
      omega
  · have := q2 h1
    have e : j - 1 - Z (j - 1) = i := by omega
    rw [e] at this
    have := kw_wf_rng hw i (by omega)
    omega
theorem ky_57 {post : Int32 → Prop} {J : Int32 → Int32 → Int32 → Prop} {k t j : Nat} {z0 : Int32} (hk : k < 24) (e : tr k = nI j) (h : J z0 (nI j) (nI (t + 1))) : wY_about_57 post J (nI k) (nI t) z0 th ac ht fa co sz kd ag fi tr ia ho ro di := by
  unfold wY_about_57
  rw [nI_clamp (by omega), e]
  exact ⟨vp_in_nI hk (by decide), nm_e (nm_r (nI_1 t) h)⟩
theorem ky_about {post : Int32 → Prop} {K Z : Nat → Nat} {n i : Nat} (hw : kw_wf K Z n) (hn : n ≤ 24) (hP : kw_pi K Z tr ia n) (hFi : kw_fi K Z fi n) (hi : i < n)
    (hsub : ∀ f, f < i → kw_sub (ho f) (kw_val th ho 0 (kw_ix K Z n f)) ∧ kw_sub (ho f) th) (h : post (kw_val th ho 0 (kw_ix K Z n i))) : wpY_about post (th, ac, ht, fa, co, sz, kd, ag, fi, tr, ia, ho, ro, di) (nI i) := by
  have hval : kw_sub (kw_val th ho 0 (kw_ix K Z n i)) th := by
    unfold kw_val
    by_cases z : kw_ix K Z n i = 0
    · rw [if_pos z]; exact kw_sub_rf _
    · have := kw_ix_le (K := K) (Z := Z) (n := n) i
      rw [if_neg z, Nat.zero_add]
      exact (hsub _ (by omega)).2
  have key : ∀ N k t set, n - k < N → i ≤ k → k < n → k + 1 ≤ i + Z k → i + t ≤ k → kw_sub set th → set &&& kw_val th ho 0 (kw_ix K Z n k) = kw_val th ho 0 (kw_ix K Z n i) → wY_about_10 post th ac ht fa co sz kd ag fi tr ia ho ro di N set (nI k) (nI t) := by
    intro N
    induction N with
    | zero => intro k t set z; omega
    | succ N ih =>
      intro k t set hN hik hk hin hti hset heq
      refine br_f (nI_ge (b := 24) (by omega) (by decide)) ⟨vp_in_nI (by omega) (by decide), ?_⟩
      rw [nI_clamp (by omega)]
      rcases kw_pi_end hw hP hk with ⟨e1, e2⟩ | ⟨j, hkj, hjn, etr, hch⟩
      · rw [e1]
        refine br_t (by decide) ?_
        rw [e2, kw_ix_top, kw_val, if_pos rfl, Int32.and_comm, kw_sub_and.mp hset] at heq
        rw [heq]
        exact h
      · have hup : j + 1 ≤ i + Z j := by
          have h1 := kw_in_up hw hkj hjn (by
            rcases hch with ⟨y1, y2, _⟩ | ⟨y1, y2, _⟩
            · exact Or.inl ⟨y1, y2⟩
            · exact Or.inr ⟨y1, y2⟩)
          have h2 := kw_lam hw j hjn k (by omega) h1
          omega
        have hgo : ∀ set', kw_sub set' th → set' &&& kw_val th ho 0 (kw_ix K Z n j) = kw_val th ho 0 (kw_ix K Z n i) → wY_about_57 post (wY_about_10 post th ac ht fa co sz kd ag fi tr ia ho ro di N) (nI k) (nI t) set' th ac ht fa co sz kd ag fi tr ia ho ro di := fun set' s1 s2 => ky_57 (by omega) etr (ih j (t + 1) set' (by omega) (by omega) hjn hup (by omega) s1 s2)
        rw [etr]
        refine br_f (nI_pos (by omega)) ⟨vp_in_nI (by omega) (by decide), ?_⟩
        rcases hch with ⟨y1, y2, y3⟩ | ⟨y1, y2, y3⟩
        · rw [y3]
          refine kw_br _ (fun e => ?_) (fun e => ?_)
          · have k9 : K j ≠ 9 := of_decide_eq_false e
            refine hgo set hset ?_
            rw [← kw_ix_up hw hkj hjn (Or.inl ⟨y1, y2, k9⟩)]
            exact heq
          · have k9 : K j = 9 := of_decide_eq_true e
            have t2 := kw_t9 k9
            have eF := (hFi j hjn).2 t2
            obtain ⟨_, _, q2⟩ := hw.2.2 j hjn
            have q2 := (q2 t2).1
            have ejk : j - 1 = k := by omega
            rw [ejk] at eF q2
            have hrk := kw_wf_rng hw k hk
            rw [nI_clamp (by omega), eF, nI_clamp (by omega)]
            refine ⟨vp_in_nI (by omega) (by decide), vp_in_nI (by omega) (by decide), vp_in_nI (by omega) (by decide), hgo _ ?_ ?_⟩
            · intro b hb
              rw [b_and, Bool.and_eq_true] at hb
              exact hset b hb.1
            · have eix : kw_ix K Z n k = k - Z k + 1 := by
                rw [kw_ix_G hw (i := k) (by omega) (by rw [y1]; exact k9)]
                omega
              have ev : kw_val th ho 0 (kw_ix K Z n k) = ho (k - Z k) := by
                rw [eix, kw_val, if_neg (by omega), Nat.zero_add, Nat.add_sub_cancel]
              rw [ev] at heq
              have es := (hsub (k - Z k) (by omega)).1
              rw [kw_ix_up hw (i := k - Z k) (j := j) (by omega) hjn (Or.inr ⟨t2, by rw [ejk]; omega⟩)] at es
              rw [Int32.and_assoc, Int32.and_comm (ho (k - Z k)), kw_sub_and.mp es]
              exact heq
        · rw [y3]
          refine br_t rfl (hgo set hset ?_)
          rw [← kw_ix_up hw hkj hjn (Or.inr ⟨y1, y2⟩)]
          exact heq
  unfold wpY_about
  dsimp only
  have hri := kw_wf_rng hw i hi
  refine ⟨n - i + 1, key (n - i + 1) i 0 th (by omega) (by omega) hi (by omega) (by omega) (kw_sub_rf _) (kw_sub_and.mp hval)⟩
end
end
section
section
variable {th ac ht : Int32} {fa co sz kd ag fi tr ia ho ro di : Nat → Int32}
theorem ky_82 {post : Int32 → SY → Prop} {J : Int32 → (Nat → Int32) → (Nat → Int32) → (Nat → Int32) → (Nat → Int32) → (Nat → Int32) → (Nat → Int32) → (Nat → Int32) → (Nat → Int32) → (Nat → Int32) → (Nat → Int32) → (Nat → Int32) → Prop} {s i κ : Nat} {set f g : Int32} (hs : s < 6) (hi : i < 24) (hκ : κ ≤ 9) (ha : κ = 0 → ∃ p, p < 4 ∧ ag (24 * s + i) = nI p)
    (h : J (nI (i + 1)) fa co sz kd ag fi tr ia (upd ho i (kw_mk (fun w => bt set w && kw_iY fa co (ag (24 * s + i)) set f g w κ) 16)) ro di) : ∃ n, wY_whereHolds_82 post J (nI s) (nI i) set (nI κ) f g th ac ht fa co sz kd ag fi tr ia ho ro di n 0 0 := by
  refine kw_lp (fun n j c => wY_whereHolds_82 post J (nI s) (nI i) set (nI κ) f g th ac ht fa co sz kd ag fi tr ia ho ro di n c (nI j)) (fun j => kw_mk (fun w => bt set w && kw_iY fa co (ag (24 * s + i)) set f g w κ) j) 16 0 (by omega) (fun n => ?_) (fun n w hw G => ?_)
  · exact br_t (nI_le (a := 16) (by omega) (by decide)) ⟨vp_in_nI hi (by decide), nm_r (by rw [nI_clamp (by omega)]) (nm_r (nI_1 i) h)⟩
  · rw [kw_mk] at G
    refine br_f (nI_ge (b := 16) hw (by decide)) (ky_in (by omega) (kw_br _ (fun e => nm_r (nI_1 w) ?_) (fun e => ?_)))
    · rw [e, Bool.false_and, if_neg (by decide)] at G
      exact G
    · rw [e, Bool.true_and] at G
      rw [kw_ixT, nI_clamp (by omega)]
      refine ⟨vp_in_nI (by omega) (by decide), ky_isIn hw κ hκ ha (kw_br _ (fun e2 => nm_r (nI_1 w) ?_) (fun e2 => nm_e (nm_r (nI_1 w) ?_)))⟩
      · rw [e2, if_neg (by decide)] at G
        exact G
      · rw [e2, if_pos rfl] at G
        exact G
/-- the place of a token's first formula -/
def kw_f1 (K Z : Nat → Nat) (i : Nat) : Nat := if kw_t (K i) = 2 then i - 1 - Z (i - 1) else i - 1
def kw_VY (th : Int32) (fa co ag : Nat → Int32) (K Z : Nat → Nat) (s n i : Nat) (H : Nat → Int32) : Int32 :=
  kw_mk (fun w => bt (kw_val th H 0 (kw_ix K Z n i)) w && kw_iY fa co (ag (24 * s + i)) (kw_val th H 0 (kw_ix K Z n i)) (if K i = 0 then 0 else H (kw_f1 K Z i)) (if i = 0 then 0 else H (i - 1)) w (K i)) 16
def kw_HY (th : Int32) (fa co ag ho : Nat → Int32) (K Z : Nat → Nat) (s n : Nat) : Nat → Nat → Int32
  | 0 => ho
  | i + 1 => upd (kw_HY th fa co ag ho K Z s n i) i (kw_VY th fa co ag K Z s n i (kw_HY th fa co ag ho K Z s n i))
theorem kw_VY_sub (hS : kw_S th) {K Z : Nat → Nat} {s n i : Nat} {H : Nat → Int32} : kw_sub (kw_VY th fa co ag K Z s n i H) (kw_val th H 0 (kw_ix K Z n i)) := by
  intro b hb
  unfold kw_VY at hb
  by_cases z : b < 16
  · rw [kw_mk16 z, Bool.and_eq_true] at hb
    exact hb.1
  · rw [kw_mk_S b (by omega)] at hb
    exact nomatch hb
theorem kw_val_cg {H H' : Nat → Int32} {o e i : Nat} (he : e ≤ i) (h : ∀ j, j < i → H (o + j) = H' (o + j)) : kw_val th H o e = kw_val th H' o e := by
  unfold kw_val
  by_cases z : e = 0
  · rw [if_pos z, if_pos z]
  · rw [if_neg z, if_neg z]
    exact h _ (by omega)
theorem kw_HY_sub (hS : kw_S th) {K Z : Nat → Nat} {s n : Nat} : ∀ i f, f < i → kw_sub (kw_HY th fa co ag ho K Z s n i f) (kw_val th (kw_HY th fa co ag ho K Z s n i) 0 (kw_ix K Z n f)) ∧ kw_sub (kw_HY th fa co ag ho K Z s n i f) th := by
  intro i
  induction i with
  | zero => intro f hf; omega
  | succ i ih =>
    intro f hf
    have hlo : ∀ j, j < i → kw_HY th fa co ag ho K Z s n (i + 1) j = kw_HY th fa co ag ho K Z s n i j := fun j hj => pk_un (by omega)
    have hix : ∀ f, f ≤ i → kw_val th (kw_HY th fa co ag ho K Z s n (i + 1)) 0 (kw_ix K Z n f) = kw_val th (kw_HY th fa co ag ho K Z s n i) 0 (kw_ix K Z n f) := fun f hf => kw_val_cg (i := i) (Nat.le_trans (kw_ix_le f) hf) (fun j hj => by rw [Nat.zero_add]; exact hlo j hj)
    by_cases e : f = i
    · subst e
      have e1 : kw_HY th fa co ag ho K Z s n (f + 1) f = kw_VY th fa co ag K Z s n f (kw_HY th fa co ag ho K Z s n f) := pk_us
      have h1 : kw_sub (kw_HY th fa co ag ho K Z s n (f + 1) f) (kw_val th (kw_HY th fa co ag ho K Z s n (f + 1)) 0 (kw_ix K Z n f)) := by
        rw [e1, hix f (Nat.le_refl f)]
        exact kw_VY_sub hS
      refine ⟨h1, kw_sub_tr h1 ?_⟩
      rw [hix f (Nat.le_refl f)]
      unfold kw_val
      by_cases z : kw_ix K Z n f = 0
      · rw [if_pos z]; exact kw_sub_rf _
      · rw [if_neg z, Nat.zero_add]
        have := kw_ix_le (K := K) (Z := Z) (n := n) f
        exact (ih _ (by omega)).2
    · rw [hlo f (by omega), hix f (by omega)]
      exact ih f (by omega)
theorem ky_where {post : Int32 → SY → Prop} {K Z : Nat → Nat} {n s : Nat} (hS : kw_S th) (hw : kw_wf K Z n) (hn : n ≤ 24) (hs : s < 6) (hsz : sz s = nI n) (hK : ∀ i, i < n → kd (24 * s + i) = nI (K i) ∧ K i ≤ 9) (ha : ∀ i, i < n → K i = 0 → ∃ p, p < 4 ∧ ag (24 * s + i) = nI p)
    (h : ∀ fi' tr' ia' ro', post (kw_HY th fa co ag ho K Z s n n (n - 1)) (th, ac, ht, fa, co, sz, kd, ag, fi', tr', ia', kw_HY th fa co ag ho K Z s n n, ro', di)) : wpY_whereHolds post (th, ac, ht, fa, co, sz, kd, ag, fi, tr, ia, ho, ro, di) (nI s) := by
  unfold wpY_whereHolds
  dsimp only
  refine ky_parts hw hn hs hsz hK fun fi' tr' ia' ro' hpi hfi => ?_
  dsimp only
  have h1 := hw.1
  refine kw_lp (fun N i q => wY_whereHolds_7 post (nI s) th ac ht N (nI i) fa co sz kd ag (fi') (tr') (ia') q (ro') di) (fun i => kw_HY th fa co ag ho K Z s n i) n 0 (by omega) (fun N => ?_) (fun N i hi G => ?_)
  · refine ⟨vp_in_nI hs (by decide), ?_⟩
    rw [nI_clamp (by omega), hsz]
    have e1 : nI n - 1 = nI (n - 1) := by rw [show (1 : Int32) = nI 1 from rfl, pk_sub h1]
    refine br_t (nI_le (by omega) (by omega)) ⟨vp_in_nI hs (by decide), ?_⟩
    rw [e1, nI_clamp (by omega)]
    exact ⟨vp_in_nI (by omega) (by decide), h _ _ _ _⟩
  · refine ⟨vp_in_nI hs (by decide), ?_⟩
    rw [nI_clamp (by omega), hsz]
    obtain ⟨ek, hk9⟩ := hK i hi
    obtain ⟨q0, q1, q2⟩ := hw.2.2 i hi
    refine br_f (nI_ge hi (by omega)) (ky_about hw hn hpi hfi hi (kw_HY_sub hS i) ?_)
    rw [kw_ixT, nI_clamp (by omega), ek]
    have h56 : ∀ f, f = (if K i = 0 then 0 else kw_HY th fa co ag ho K Z s n i (kw_f1 K Z i)) → wY_whereHolds_56 post (wY_whereHolds_7 post (nI s) th ac ht N) (nI s) (nI i) (kw_val th (kw_HY th fa co ag ho K Z s n i) 0 (kw_ix K Z n i)) (nI (K i)) f th ac ht fa co sz kd ag (fi') (tr') (ia') (kw_HY th fa co ag ho K Z s n i) (ro') di := by
      intro f ef
      unfold wY_whereHolds_56
      have e1 : ∀ g, g = (if i = 0 then 0 else kw_HY th fa co ag ho K Z s n i (i - 1)) → upd (kw_HY th fa co ag ho K Z s n i) i (kw_mk (fun w => bt (kw_val th (kw_HY th fa co ag ho K Z s n i) 0 (kw_ix K Z n i)) w && kw_iY fa co (ag (24 * s + i)) (kw_val th (kw_HY th fa co ag ho K Z s n i) 0 (kw_ix K Z n i)) f g w (K i)) 16) = kw_HY th fa co ag ho K Z s n (i + 1) := by
        intro g eg
        rw [ef, eg]
        rfl
      refine pk_eq i 0 (fun z => ?_) (fun z => ?_)
      · refine ky_82 hs (by omega) hk9 (ha i hi) ?_
        rw [e1 0 (by rw [if_pos z])]
        exact G
      · have e2 : nI i - 1 = nI (i - 1) := by rw [show (1 : Int32) = nI 1 from rfl, pk_sub (by omega)]
        rw [e2, nI_clamp (by omega)]
        refine ⟨vp_in_nI (by omega) (by decide), nm_e (ky_82 hs (by omega) hk9 (ha i hi) ?_)⟩
        rw [e1 _ (by rw [if_neg z])]
        exact G
    refine ⟨vp_in_nI (by omega) (by decide), nm_e (pk_eq (K i) 0 (fun z => h56 0 (by rw [if_pos z])) (fun z => ?_))⟩
    have ef : fi' i = nI (kw_f1 K Z i) ∧ kw_f1 K Z i < 24 := by
      unfold kw_f1
      rcases kw_t_012 (K i) with t | t | t
      · exfalso
        apply z
        unfold kw_t at t
        by_cases z0 : K i = 0
        · exact z0
        · rw [if_neg z0] at t
          by_cases z2 : K i = 2 ∨ K i = 3 ∨ K i = 4 ∨ K i = 9
          · rw [if_pos z2] at t; omega
          · rw [if_neg z2] at t; omega
      · rw [if_neg (by omega)]
        exact ⟨(hfi i hi).1 t, by omega⟩
      · rw [if_pos t]
        exact ⟨(hfi i hi).2 t, by omega⟩
    rw [nI_clamp (by omega), ef.1, nI_clamp (by omega)]
    exact ⟨vp_in_nI (by omega) (by decide), vp_in_nI ef.2 (by decide), h56 _ (by rw [if_neg z])⟩
end
end
section
/-! the common knowledge of both: a greatest set, a least set -/
section
variable {S : Nat → Bool} {E : Nat → Nat → Prop}
theorem kw_gfp {P : Nat → Nat → Bool} (hP : ∀ n w, w < 16 → (P (n + 1) w = true ↔ S w = true ∧ ∀ v, v < 16 → S v = true → E w v → P n v = true)) (h0 : ∀ w, w < 16 → P 0 w = true → S w = true) (hr : ∀ w, w < 16 → S w = true → E w w) :
    (∀ w, w < 16 → P 15 w = true → ∀ v, v < 16 → S v = true → E w v → P 15 v = true) ∧ (∀ w, w < 16 → P 15 w = true → P 0 w = true) := by
  have hd : ∀ n w, w < 16 → P (n + 1) w = true → P n w = true := fun n w hw h => by
    obtain ⟨h1, h2⟩ := (hP n w hw).mp h
    exact h2 w hw h1 (hr w hw h1)
  have hst : ∀ n, (∀ w, w < 16 → P n w = true → P (n + 1) w = true) → (∀ w, w < 16 → P (n + 1) w = true → P (n + 2) w = true) := fun n h w hw hp => by
    obtain ⟨h1, h2⟩ := (hP n w hw).mp hp
    exact (hP (n + 1) w hw).mpr ⟨h1, fun v hv sv ev => h v hv (h2 v hv sv ev)⟩
  have hor : ∀ n, (∀ w, w < 16 → P n w = true → P (n + 1) w = true) ∨ kw_c (P n) 16 + n ≤ 15 := by
    intro n
    induction n with
    | zero =>
      by_cases z : ∀ w, w < 16 → S w = true → P 0 w = true
      · exact Or.inl fun w hw hp => (hP 0 w hw).mpr ⟨h0 w hw hp, fun v hv sv _ => z v hv sv⟩
      · right
        obtain ⟨w, z⟩ := Classical.not_forall.mp z
        have hw : w < 16 := Classical.byContradiction fun g => z fun h => absurd h g
        have hp : P 0 w = false := by
          cases e : P 0 w
          · rfl
          · exact absurd (fun _ _ => e) z
        have h1 := kw_c_lt (p := P 0) (q := fun _ => true) (n := 16) (fun _ _ _ => rfl) hw hp rfl
        have h2 := kw_c_le (p := fun _ => true) (n := 16)
        omega
    | succ n ih =>
      rcases ih with h | h
      · exact Or.inl (hst n h)
      · by_cases z : ∀ w, w < 16 → P n w = true → P (n + 1) w = true
        · exact Or.inl (hst n z)
        · right
          obtain ⟨w, z⟩ := Classical.not_forall.mp z
          have hw : w < 16 := Classical.byContradiction fun g => z fun h => absurd h g
          have hp : P n w = true := by
            cases e : P n w
            · exact absurd (fun _ h => by rw [e] at h; exact (nomatch h)) z
            · rfl
          have hp1 : P (n + 1) w = false := by
            cases e : P (n + 1) w
            · rfl
            · exact absurd (fun _ _ => e) z
          have := kw_c_lt (p := P (n + 1)) (q := P n) (n := 16) (fun i hi h => hd n i hi h) hw hp1 hp
          omega
  have h15 : ∀ w, w < 16 → P 15 w = true → P 16 w = true := by
    rcases hor 15 with h | h
    · exact h
    · have := kw_c_0 (p := P 15) (n := 16) (by omega)
      intro w hw hp
      rw [this w hw] at hp
      exact nomatch hp
  refine ⟨fun w hw hp v hv sv ev => ((hP 15 w hw).mp (h15 w hw hp)).2 v hv sv ev, fun w hw hp => ?_⟩
  have : ∀ n, P n w = true → P 0 w = true := by
    intro n
    induction n with
    | zero => exact id
    | succ n ih => exact fun h => ih (hd n w hw h)
  exact this 15 hp
theorem kw_lfp {Q : Nat → Nat → Bool} (hQ : ∀ t v, v < 16 → (Q (t + 1) v = true ↔ Q t v = true ∨ (Q t (t % 16) = true ∧ S v = true ∧ E (t % 16) v))) (hne : ∃ w, w < 16 ∧ Q 0 w = true) :
    ∀ x, x < 16 → Q 256 x = true → ∀ v, v < 16 → S v = true → E x v → Q 256 v = true := by
  have hm : ∀ t d v, v < 16 → Q t v = true → Q (t + d) v = true := by
    intro t d v hv h
    induction d with
    | zero => exact h
    | succ d ih => exact (hQ (t + d) v hv).mpr (Or.inl ih)
  have hc1 : ∀ t, (∀ x, x < 16 → Q t x = true → ∀ v, v < 16 → S v = true → E x v → Q t v = true) → (∀ x, x < 16 → Q (t + 1) x = true → ∀ v, v < 16 → S v = true → E x v → Q (t + 1) v = true) := by
    intro t h x hx hq v hv sv ev
    refine hm t 1 v hv ?_
    rcases (hQ t x hx).mp hq with z | ⟨z1, z2, z3⟩
    · exact h x hx z v hv sv ev
    · exact h x hx (h (t % 16) (by omega) z1 x hx z2 z3) v hv sv ev
  have hc : ∀ t d, (∀ x, x < 16 → Q t x = true → ∀ v, v < 16 → S v = true → E x v → Q t v = true) → (∀ x, x < 16 → Q (t + d) x = true → ∀ v, v < 16 → S v = true → E x v → Q (t + d) v = true) := by
    intro t d h
    induction d with
    | zero => exact h
    | succ d ih => exact hc1 (t + d) ih
  have hor : ∀ r, (∀ x, x < 16 → Q (16 * r) x = true → ∀ v, v < 16 → S v = true → E x v → Q (16 * r) v = true) ∨ r + 1 ≤ kw_c (Q (16 * r)) 16 := by
    intro r
    induction r with
    | zero =>
      right
      obtain ⟨w, hw, h⟩ := hne
      have := kw_c_lt (p := fun _ => false) (q := Q (16 * 0)) (n := 16) (fun _ _ z => (nomatch z)) hw rfl h
      omega
    | succ r ih =>
      rcases ih with h | h
      · exact Or.inl (hc (16 * r) 16 h)
      · by_cases z : ∀ v, v < 16 → Q (16 * r + 16) v = true → Q (16 * r) v = true
        · left
          refine hc (16 * r) 16 fun x hx hq v hv sv ev => z v hv ?_
          have h1 : Q (16 * r + x) x = true := hm (16 * r) x x hx hq
          have e : (16 * r + x) % 16 = x := by omega
          have h2 : Q (16 * r + x + 1) v = true := (hQ (16 * r + x) v hv).mpr (Or.inr (by rw [e]; exact ⟨h1, sv, ev⟩))
          have h3 := hm (16 * r + x + 1) (15 - x) v hv h2
          rw [show 16 * r + x + 1 + (15 - x) = 16 * r + 16 from by omega] at h3
          exact h3
        · right
          obtain ⟨w, z⟩ := Classical.not_forall.mp z
          have hw : w < 16 := Classical.byContradiction fun g => z fun h => absurd h g
          have hp : Q (16 * r + 16) w = true := by
            cases e : Q (16 * r + 16) w
            · exact absurd (fun _ h => by rw [e] at h; exact (nomatch h)) z
            · rfl
          have hp1 : Q (16 * r) w = false := by
            cases e : Q (16 * r) w
            · rfl
            · exact absurd (fun _ _ => e) z
          have := kw_c_lt (p := Q (16 * r)) (q := Q (16 * r + 16)) (n := 16) (fun i hi h => hm (16 * r) 16 i hi h) hw hp1 hp
          show r + 1 + 1 ≤ kw_c (Q (16 * r + 16)) 16
          omega
  rcases hor 16 with h | h
  · exact h
  · have := kw_c_le (p := Q (16 * 16)) (n := 16)
    omega
end
/-! the sets, by their worlds -/
section
variable {wt : Int32} {fs ce fa co : Nat → Int32}
def kw_Eg (co : Nat → Int32) (g : Int32) (w v : Nat) : Prop := ∃ a, a < 3 ∧ bt g a = true ∧ kw_R co a w v = true
theorem kw_bT {a : Bool} {p : Prop} (b : Bool) (h1 : a = true ↔ p) (h2 : b = true ↔ p) : a = b := by
  cases a
  · cases b
    · rfl
    · exact absurd (h1.mpr (h2.mp rfl)) (by decide)
  · exact (h2.mpr (h1.mp rfl)).symm
theorem kw_akn_bt {g s ar : Int32} {w : Nat} (hw : w < 16) : ∀ n, (bt (kw_akn ce g s ar n) w = true ↔ bt ar w = true ∧ ∀ a, a < n → kw_dq ce g s ar a w = false) := by
  intro n
  induction n with
  | zero => exact ⟨fun h => ⟨h, fun a ha => absurd ha (by omega)⟩, fun h => h.1⟩
  | succ n ih =>
    rw [kw_akn, kw_rm_bt (by omega) (by omega), decide_eq_true hw, Bool.true_and, Bool.and_eq_true, ih]
    constructor
    · rintro ⟨⟨h1, h2⟩, h3⟩
      refine ⟨h1, fun a ha => ?_⟩
      by_cases e : a = n
      · rw [e]; simpa using h3
      · exact h2 a (by omega)
    · rintro ⟨h1, h2⟩
      exact ⟨⟨h1, fun a ha => h2 a (by omega)⟩, by rw [h2 n (by omega)]; rfl⟩
theorem kw_ak_iff (hS : kw_S wt) (hC : kw_CE wt ce co) {g s ar : Int32} (har : kw_sub ar wt) {w : Nat} (hw : w < 16) : bt (kw_ak ce g s ar) w = true ↔ bt ar w = true ∧ ∀ v, v < 16 → bt ar v = true → kw_Eg co g w v → bt s v = true := by
  have hSa : kw_S ar := kw_sub_S har hS
  unfold kw_ak
  rw [kw_akn_bt hw]
  constructor
  · rintro ⟨h1, h2⟩
    refine ⟨h1, ?_⟩
    rintro v hv av ⟨a, ha, ga, ra⟩
    have := h2 a ha
    rw [kw_dq, ga, Bool.true_and, Bool.not_eq_false', decide_eq_true_eq, kw_zero16 (kw_S_and' hSa)] at this
    have := this v hv (by rw [b_and, hC a ha w v hw hv (har w h1) (har v av), ra, av]; rfl)
    rw [kw_not _ (by omega)] at this
    simpa using this
  · rintro ⟨h1, h2⟩
    refine ⟨h1, fun a ha => ?_⟩
    rw [kw_dq]
    cases ga : bt g a
    · rfl
    · rw [Bool.true_and, Bool.not_eq_false', decide_eq_true_eq, kw_zero16 (kw_S_and' hSa)]
      intro v hv hb
      rw [b_and, Bool.and_eq_true] at hb
      rw [kw_not _ (by omega), h2 v hv hb.2 ⟨a, ha, ga, by rw [← hC a ha w v hw hv (har w h1) (har v hb.2)]; exact hb.1⟩]
      rfl
theorem kw_akn_S {g s ar : Int32} (h : kw_S ar) : ∀ n, kw_S (kw_akn ce g s ar n) := by
  intro n
  induction n with
  | zero => exact h
  | succ n ih =>
    intro i hi
    by_cases z : i < 32
    · rw [kw_akn, kw_rm_bt (by omega) z, ih i hi]; rfl
    · exact b_big (by omega)
theorem kw_ak_S {g s ar : Int32} (h : kw_S ar) : kw_S (kw_ak ce g s ar) := kw_akn_S h 3
theorem kw_nx_S {set g : Int32} {b : Bool} {w : Nat} : kw_S (kw_nx co set g b w) := kw_mk_S
theorem kw_nxt_iff {set g : Int32} {w v : Nat} (hv : v < 16) : bt (kw_nx co set g true w) v = true ↔ bt set v = true ∧ kw_Eg co g w v := by
  unfold kw_nx
  rw [kw_mk16 hv, Bool.and_eq_true, if_pos rfl, kw_ex_iff]
  constructor
  · rintro ⟨h1, a, ha, h2⟩
    rw [kw_no1, Bool.and_eq_true] at h2
    exact ⟨h1, a, ha, h2.2, h2.1⟩
  · rintro ⟨h1, a, ha, h2, h3⟩
    exact ⟨h1, a, ha, by rw [kw_no1, h2, h3]; rfl⟩
theorem kw_nxf_iff {set g : Int32} {w v : Nat} (hv : v < 16) : bt (kw_nx co set g false w) v = true ↔ bt set v = true ∧ ∀ a, a < 3 → bt g a = true → kw_R co a w v = true := by
  unfold kw_nx
  rw [kw_mk16 hv, Bool.and_eq_true, if_neg (by decide), kw_al_iff]
  constructor
  · rintro ⟨h1, h2⟩
    refine ⟨h1, fun a ha ga => ?_⟩
    have := h2 a ha
    rw [kw_na, ga] at this
    simpa using this
  · rintro ⟨h1, h2⟩
    refine ⟨h1, fun a ha => ?_⟩
    rw [kw_na]
    cases ga : bt g a
    · rw [Bool.not_false, Bool.or_true]
    · rw [h2 a ha ga]; rfl
/-- seen sets within f -/
theorem kw_see {x f : Int32} (hx : kw_S x) : decide (x &&& (f ^^^ (-1)) = 0) = true ↔ ∀ v, v < 16 → bt x v = true → bt f v = true := by
  rw [decide_eq_true_eq, kw_zero16 hx]
  constructor
  · intro h v hv xv
    have := h v hv xv
    rw [kw_not _ (by omega)] at this
    simpa using this
  · intro h v hv xv
    rw [kw_not _ (by omega), h v hv xv]
    rfl
theorem kw_eq5 (hS : kw_S wt) (hC : kw_CE wt ce co) {set f : Int32} (hset : kw_sub set wt) {p w : Nat} (hp : p < 3) (hw : w < 16) : bt (kw_ak ce ((1 : Int32) <<< (nI p &&& 31)) f set) w = (bt set w && decide (kw_nx co set ((1 : Int32) <<< (nI p &&& 31)) false w &&& (f ^^^ (-1)) = 0)) := by
  refine kw_bT _ (kw_ak_iff hS hC hset hw) ?_
  rw [Bool.and_eq_true, kw_see kw_nx_S]
  have hg : ∀ a, a < 3 → (bt ((1 : Int32) <<< (nI p &&& 31)) a = true ↔ a = p) := fun a ha => by
    rw [kw_one (by omega) (by omega), decide_eq_true_eq]
  constructor
  · rintro ⟨h1, h2⟩
    refine ⟨h1, fun v hv sv ⟨a, ha, ga, ra⟩ => h2 v hv ((kw_nxf_iff hv).mpr ⟨sv, fun b hb gb => ?_⟩)⟩
    rw [(hg b hb).mp gb, ← (hg a ha).mp ga]; exact ra
  · rintro ⟨h1, h2⟩
    refine ⟨h1, fun v hv xv => ?_⟩
    obtain ⟨z1, z2⟩ := (kw_nxf_iff hv).mp xv
    exact h2 v hv z1 ⟨p, hp, (hg p hp).mpr rfl, z2 p hp ((hg p hp).mpr rfl)⟩
theorem kw_eq6 (hS : kw_S wt) (hC : kw_CE wt ce co) {set f g : Int32} (hset : kw_sub set wt) {w : Nat} (hw : w < 16) : bt (kw_ak ce g f set) w = (bt set w && decide (kw_nx co set g true w &&& (f ^^^ (-1)) = 0)) := by
  refine kw_bT _ (kw_ak_iff hS hC hset hw) ?_
  rw [Bool.and_eq_true, kw_see kw_nx_S]
  constructor
  · rintro ⟨h1, h2⟩
    exact ⟨h1, fun v hv sv ev => h2 v hv ((kw_nxt_iff hv).mpr ⟨sv, ev⟩)⟩
  · rintro ⟨h1, h2⟩
    exact ⟨h1, fun v hv xv => h2 v hv ((kw_nxt_iff hv).mp xv).1 ((kw_nxt_iff hv).mp xv).2⟩
theorem kw_sh_bt {g ar : Int32} {w v : Nat} : ∀ n, (bt (kw_sh ce g ar w n) v = true ↔ bt ar v = true ∧ ∀ a, a < n → bt g a = true → bt (ce (16 * a + w)) v = true) := by
  intro n
  induction n with
  | zero => exact ⟨fun h => ⟨h, fun a ha => absurd ha (by omega)⟩, fun h => h.1⟩
  | succ n ih =>
    have key : bt (kw_sh ce g ar w (n + 1)) v = true ↔ bt (kw_sh ce g ar w n) v = true ∧ (bt g n = true → bt (ce (16 * n + w)) v = true) := by
      rw [kw_sh]
      cases e : bt g n
      · simp
      · rw [if_pos rfl, b_and]; simp
    rw [key, ih]
    constructor
    · rintro ⟨⟨h1, h2⟩, h3⟩
      refine ⟨h1, fun a ha => ?_⟩
      by_cases e : a = n
      · rw [e]; exact h3
      · exact h2 a (by omega)
    · rintro ⟨h1, h2⟩
      exact ⟨⟨h1, fun a ha => h2 a (by omega)⟩, h2 n (by omega)⟩
theorem kw_eq8 (hS : kw_S wt) (hC : kw_CE wt ce co) {set f g : Int32} (hset : kw_sub set wt) {w : Nat} (hw : w < 16) : bt (kw_kt ce g f set) w = (bt set w && decide (kw_nx co set g false w &&& (f ^^^ (-1)) = 0)) := by
  have hSa : kw_S set := kw_sub_S hset hS
  rw [kw_kt, kw_rm_bt (by omega) (by omega), decide_eq_true hw, Bool.true_and, Bool.not_not]
  cases sw : bt set w
  · rfl
  · rw [Bool.true_and, Bool.true_and]
    have hSs : kw_S (kw_sh ce g set w 3) := fun i hi => by
      cases e : bt (kw_sh ce g set w 3) i
      · rfl
      · have := ((kw_sh_bt 3).mp e).1
        rw [hSa i hi] at this
        exact this.symm
    refine kw_bT _ (kw_see hSs) ?_
    rw [kw_see kw_nx_S]
    constructor
    · intro h v hv xv
      obtain ⟨z1, z2⟩ := (kw_sh_bt 3).mp xv
      exact h v hv ((kw_nxf_iff hv).mpr ⟨z1, fun a ha ga => by rw [← hC a ha w v hw hv (hset w sw) (hset v z1)]; exact z2 a ha ga⟩)
    · intro h v hv xv
      obtain ⟨z1, z2⟩ := (kw_nxf_iff hv).mp xv
      exact h v hv ((kw_sh_bt 3).mpr ⟨z1, fun a ha ga => by rw [hC a ha w v hw hv (hset w sw) (hset v z1)]; exact z2 a ha ga⟩)
theorem kw_g17 : ∀ p, 1 ≤ p → p ≤ 7 → ∃ a, a < 3 ∧ bt (nI p) a = true := by
  intro p h1 h7
  have : ∀ p, p < 8 → 1 ≤ p → (bt (nI p) 0 || bt (nI p) 1 || bt (nI p) 2) = true := by decide +kernel
  have := this p (by omega) h1
  rw [Bool.or_eq_true, Bool.or_eq_true] at this
  rcases this with (h | h) | h
  · exact ⟨0, by omega, h⟩
  · exact ⟨1, by omega, h⟩
  · exact ⟨2, by omega, h⟩
theorem kw_rc_S {set g : Int32} {w : Nat} (hw : w < 16) : ∀ t, kw_S (kw_rc co set g w t) := by
  intro t
  induction t with
  | zero =>
    intro i hi
    by_cases z : i < 32
    · rw [kw_rc, kw_one (by omega) z, decide_eq_false (by omega)]
    · exact b_big (by omega)
  | succ t ih =>
    rw [kw_rc]
    by_cases z : bt (kw_rc co set g w t) (t % 16) = true
    · rw [if_pos z]; exact kw_S_or ih kw_nx_S
    · rw [if_neg z]; exact ih
theorem kw_rc_iff {set g : Int32} {w : Nat} (t v : Nat) (hv : v < 16) : bt (kw_rc co set g w (t + 1)) v = true ↔ bt (kw_rc co set g w t) v = true ∨ (bt (kw_rc co set g w t) (t % 16) = true ∧ bt set v = true ∧ kw_Eg co g (t % 16) v) := by
  rw [kw_rc]
  by_cases z : bt (kw_rc co set g w t) (t % 16) = true
  · rw [if_pos z, b_or, Bool.or_eq_true, kw_nxt_iff hv]
    constructor
    · rintro (h | h)
      · exact Or.inl h
      · exact Or.inr ⟨z, h⟩
    · rintro (h | h)
      · exact Or.inl h
      · exact Or.inr h.2
  · rw [if_neg z]
    exact ⟨Or.inl, fun h => h.elim id fun q => absurd q.1 z⟩
theorem kw_eq7 (hS : kw_S wt) (hC : kw_CE wt ce co) {set f g : Int32} (hset : kw_sub set wt) (hf : kw_sub f set) (hg : ∃ a, a < 3 ∧ bt g a = true) {w : Nat} (hw : w < 16) : bt (kw_ck ce g f set 15) w = (bt set w && decide (kw_rc co set g w 256 &&& (f ^^^ (-1)) = 0)) := by
  have hP : ∀ n w, w < 16 → (bt (kw_ck ce g f set (n + 1)) w = true ↔ bt set w = true ∧ ∀ v, v < 16 → bt set v = true → kw_Eg co g w v → bt (kw_ck ce g f set n) v = true) := fun n w hw => by
    rw [kw_ck]; exact kw_ak_iff hS hC hset hw
  obtain ⟨hcl, hle⟩ := kw_gfp (S := bt set) (E := kw_Eg co g) (P := fun n => bt (kw_ck ce g f set n)) hP (fun w _ h => hf w h) (fun w hw _ => by
    obtain ⟨a, ha, ga⟩ := hg
    exact ⟨a, ha, ga, kw_R_rf⟩)
  refine kw_bT _ Iff.rfl ?_
  rw [Bool.and_eq_true, kw_see (kw_rc_S hw 256)]
  have h0 : ∀ v, v < 16 → (bt (kw_rc co set g w 0) v = true ↔ v = w) := fun v hv => by
    rw [kw_rc, kw_one (by omega) (by omega), decide_eq_true_eq]
  constructor
  · rintro ⟨sw, h⟩
    have hqs : ∀ t v, v < 16 → bt (kw_rc co set g w t) v = true → bt set v = true := by
      intro t
      induction t with
      | zero => intro v hv h; rw [(h0 v hv).mp h]; exact sw
      | succ t ih =>
        intro v hv h
        rcases (kw_rc_iff t v hv).mp h with z | z
        · exact ih v hv z
        · exact z.2.1
    have hqw : ∀ t, bt (kw_rc co set g w t) w = true := by
      intro t
      induction t with
      | zero => exact (h0 w hw).mpr rfl
      | succ t ih => exact (kw_rc_iff t w hw).mpr (Or.inl ih)
    have hc := kw_lfp (S := bt set) (E := kw_Eg co g) (Q := fun t => bt (kw_rc co set g w t)) (fun t v hv => kw_rc_iff t v hv) ⟨w, hw, hqw 0⟩
    have hall : ∀ n v, v < 16 → bt (kw_rc co set g w 256) v = true → bt (kw_ck ce g f set n) v = true := by
      intro n
      induction n with
      | zero => exact h
      | succ n ih => exact fun x hx hq => (hP n x hx).mpr ⟨hqs 256 x hx hq, fun v hv sv ev => ih v hv (hc x hx hq v hv sv ev)⟩
    exact hall 15 w hw (hqw 256)
  · intro h
    refine ⟨((hP 14 w hw).mp h).1, fun v hv hq => hle v hv ?_⟩
    have hin : ∀ t v, v < 16 → bt (kw_rc co set g w t) v = true → bt (kw_ck ce g f set 15) v = true := by
      intro t
      induction t with
      | zero => intro v hv z; rw [(h0 v hv).mp z]; exact h
      | succ t ih =>
        intro v hv z
        rcases (kw_rc_iff t v hv).mp z with z | ⟨z1, z2, z3⟩
        · exact ih v hv z
        · exact hcl (t % 16) (by omega) (ih (t % 16) (by omega) z1) v hv z2 z3
    exact hin 256 v hv hq
end
end
section
section
variable {wt aw tc fc : Int32} {fs ce tk ta fz hs ap na : Nat → Int32}
variable {fa co : Nat → Int32}
theorem kw_iY_s {a set f g : Int32} {w κ : Nat} (h : κ = 5 ∨ κ = 6 ∨ κ = 7 ∨ κ = 8) : kw_iY fa co a set f g w κ = decide (kw_seen co set a w κ &&& (f ^^^ (-1)) = 0) := by
  unfold kw_iY
  rw [if_neg (by omega), if_neg (by omega), if_neg (by omega), if_neg (by omega), if_neg (by omega), if_neg (by omega)]
theorem kw_kt_S {g s ar : Int32} (h : kw_S ar) : kw_S (kw_kt ce g s ar) := by
  intro i hi
  by_cases z : i < 32
  · rw [kw_kt, kw_rm_bt (by omega) z, h i hi]; rfl
  · exact b_big (by omega)
theorem kw_v_eq (hS : kw_S wt) (hF : kw_FA wt fs fa) (hC : kw_CE wt ce co) {κ : Nat} {a f g set f' g' : Int32} (hκ : κ ≤ 9) (ha0 : κ = 0 → ∃ p, p < 4 ∧ a = nI p) (ha5 : κ = 5 → ∃ p, p < 3 ∧ a = nI p) (ha6 : 6 ≤ κ → κ ≤ 8 → ∃ p, 1 ≤ p ∧ p ≤ 7 ∧ a = nI p)
    (hset : kw_sub set wt) (hf : κ ≠ 0 → kw_sub f set) (hg : kw_t κ = 2 → kw_sub g (if κ = 9 then f else set)) (hf' : κ ≠ 0 → f' = f) (hg' : kw_t κ = 2 → g' = g) :
    kw_vX fs ce a f g set κ = kw_mk (fun w => bt set w && kw_iY fa co a set f' g' w κ) 16 := by
  have hSa : kw_S set := kw_sub_S hset hS
  have hc : κ = 0 ∨ κ = 1 ∨ κ = 2 ∨ κ = 3 ∨ κ = 4 ∨ κ = 5 ∨ κ = 6 ∨ κ = 7 ∨ κ = 8 ∨ κ = 9 := by omega
  rcases hc with rfl | rfl | rfl | rfl | rfl | rfl | rfl | rfl | rfl | rfl
  · obtain ⟨p, hp, rfl⟩ := ha0 rfl
    rw [kw_vX, nI_clamp (by omega)]
    refine kw_ext16 (kw_S_and' hSa) kw_mk_S fun w hw => ?_
    rw [kw_mk16 hw, b_and, kw_iY, if_pos rfl, nI_clamp (by omega), Bool.and_comm]
    cases e : bt set w
    · rfl
    · rw [(hF w hw (hset w e)).1 p hp]
  · rw [kw_vX, hf' (by omega)]
    refine kw_ext16 (kw_S_and hSa) kw_mk_S fun w hw => ?_
    rw [kw_mk16 hw, b_and, kw_not _ (by omega)]
    rfl
  · rw [kw_vX, hf' (by omega), hg' rfl]
    have hf := hf (by omega)
    have hg : kw_sub g set := hg rfl
    refine kw_ext16 (kw_S_and (kw_sub_S hf hSa)) kw_mk_S fun w hw => ?_
    rw [kw_mk16 hw, b_and]
    show (bt f w && bt g w) = (bt set w && (bt f w && bt g w))
    cases e : bt f w
    · rw [Bool.false_and, Bool.and_false]
    · rw [hf w e, Bool.true_and, Bool.true_and]
  · rw [kw_vX, hf' (by omega), hg' rfl]
    have hf := hf (by omega)
    have hg : kw_sub g set := hg rfl
    refine kw_ext16 (kw_S_or (kw_sub_S hf hSa) (kw_sub_S hg hSa)) kw_mk_S fun w hw => ?_
    rw [kw_mk16 hw, b_or]
    show (bt f w || bt g w) = (bt set w && (bt f w || bt g w))
    cases e : bt f w
    · cases e2 : bt g w
      · rw [Bool.or_false, Bool.and_false]
      · rw [hg w e2]; rfl
    · rw [hf w e, Bool.true_and]
  · rw [kw_vX, hf' (by omega), hg' rfl]
    refine kw_ext16 (kw_S_and hSa) kw_mk_S fun w hw => ?_
    rw [kw_mk16 hw, b_and, kw_not _ (by omega), b_xor]
    show (bt set w && !(bt f w ^^ bt g w)) = (bt set w && (bt f w == bt g w))
    cases bt f w <;> cases bt g w <;> rfl
  · obtain ⟨p, hp, rfl⟩ := ha5 rfl
    rw [kw_vX, hf' (by omega)]
    refine kw_ext16 (kw_ak_S hSa) kw_mk_S fun w hw => ?_
    rw [kw_mk16 hw, kw_iY_s (by omega), kw_seen, if_pos rfl]
    exact kw_eq5 hS hC hset hp hw
  · rw [kw_vX, hf' (by omega)]
    refine kw_ext16 (kw_ak_S hSa) kw_mk_S fun w hw => ?_
    rw [kw_mk16 hw, kw_iY_s (by omega), kw_seen, if_neg (by omega), if_pos rfl]
    exact kw_eq6 hS hC hset hw
  · obtain ⟨p, h1, h7, rfl⟩ := ha6 (by omega) (by omega)
    have hS7 : kw_S (kw_ck ce (nI p) f set 15) := by rw [kw_ck]; exact kw_ak_S hSa
    rw [kw_vX, hf' (by omega)]
    refine kw_ext16 hS7 kw_mk_S fun w hw => ?_
    rw [kw_mk16 hw, kw_iY_s (by omega), kw_seen, if_neg (by omega), if_neg (by omega), if_pos rfl]
    exact kw_eq7 hS hC hset (hf (by omega)) (kw_g17 p h1 h7) hw
  · rw [kw_vX, hf' (by omega)]
    refine kw_ext16 (kw_kt_S hSa) kw_mk_S fun w hw => ?_
    rw [kw_mk16 hw, kw_iY_s (by omega), kw_seen, if_neg (by omega), if_neg (by omega), if_neg (by omega)]
    exact kw_eq8 hS hC hset hw
  · have e9 : kw_vX fs ce a f g set 9 = (set &&& (f ^^^ (-1))) ||| g := rfl
    rw [e9, hf' (by omega), hg' rfl]
    have hf := hf (by omega)
    have hg : kw_sub g f := hg rfl
    refine kw_ext16 (kw_S_or (kw_S_and hSa) (kw_sub_S hg (kw_sub_S hf hSa))) kw_mk_S fun w hw => ?_
    rw [kw_mk16 hw, b_or, b_and, kw_not _ (by omega)]
    show ((bt set w && !bt f w) || bt g w) = (bt set w && (!bt f w || bt g w))
    cases e2 : bt g w
    · rw [Bool.or_false, Bool.or_false]
    · rw [hf w (hg w e2)]
      cases bt f w <;> rfl
variable {sz kd ag ho : Nat → Int32}
theorem kw_H_eq {Z : Nat → Nat} {o s n : Nat} (hfm : kw_fm tk ta fz kd ag Z o s n) (hS : kw_S wt) (hF : kw_FA wt fs fa) (hC : kw_CE wt ce co) : ∀ i, i ≤ n → ∀ j, j < i → kw_HX wt fs ce tk ta hs Z o n i (o + j) = kw_HY wt fa co ag ho (fun i => (tk (o + i)).toNatClampNeg) (fun i => Z (o + i)) s n i j := by
  obtain ⟨h24, hc, hw⟩ := hfm
  intro i
  induction i with
  | zero => intro _ j hj; omega
  | succ i ih =>
    intro hi j hj
    have ih := ih (by omega)
    by_cases e : j = i
    · subst e
      have e1 : kw_HX wt fs ce tk ta hs Z o n (j + 1) (o + j) = kw_VX wt fs ce tk ta Z o n j (kw_HX wt fs ce tk ta hs Z o n j) := pk_us
      have e2 : kw_HY wt fa co ag ho (fun i => (tk (o + i)).toNatClampNeg) (fun i => Z (o + i)) s n (j + 1) j = kw_VY wt fa co ag (fun i => (tk (o + i)).toNatClampNeg) (fun i => Z (o + i)) s n j (kw_HY wt fa co ag ho (fun i => (tk (o + i)).toNatClampNeg) (fun i => Z (o + i)) s n j) := pk_us
      rw [e1, e2]
      have hsub := kw_HY_sub (th := wt) (fa := fa) (co := co) (ag := ag) (ho := ho) (K := fun i => (tk (o + i)).toNatClampNeg) (Z := fun i => Z (o + i)) (s := s) (n := n) hS j
      generalize kw_HX wt fs ce tk ta hs Z o n j = A at ih
      generalize kw_HY wt fa co ag ho (fun i => (tk (o + i)).toNatClampNeg) (fun i => Z (o + i)) s n j = B at ih hsub
      obtain ⟨_, ea, _, κ, hκ, ek, ha0, ha5, ha6⟩ := hc j (by omega)
      have eκ : (tk (o + j)).toNatClampNeg = κ := by rw [ek]; exact nI_clamp (by omega)
      subst eκ
      have hval : kw_val wt A o (kw_ix (fun i => (tk (o + i)).toNatClampNeg) (fun i => Z (o + i)) n j) = kw_val wt B 0 (kw_ix (fun i => (tk (o + i)).toNatClampNeg) (fun i => Z (o + i)) n j) := by
        have := kw_ix_le (K := fun i => (tk (o + i)).toNatClampNeg) (Z := fun i => Z (o + i)) (n := n) j
        unfold kw_val
        by_cases z : kw_ix (fun i => (tk (o + i)).toNatClampNeg) (fun i => Z (o + i)) n j = 0
        · rw [if_pos z, if_pos z]
        · rw [if_neg z, if_neg z, Nat.zero_add]
          exact ih _ (by omega)
      have hvs : kw_sub (kw_val wt B 0 (kw_ix (fun i => (tk (o + i)).toNatClampNeg) (fun i => Z (o + i)) n j)) wt := by
        have := kw_ix_le (K := fun i => (tk (o + i)).toNatClampNeg) (Z := fun i => Z (o + i)) (n := n) j
        unfold kw_val
        by_cases z : kw_ix (fun i => (tk (o + i)).toNatClampNeg) (fun i => Z (o + i)) n j = 0
        · rw [if_pos z]; exact kw_sub_rf _
        · rw [if_neg z, Nat.zero_add]
          exact (hsub _ (by omega)).2
      have hq := hw.2.2 j (by omega)
      have hr : 1 ≤ j → 1 ≤ Z (o + (j - 1)) := fun z => (kw_wf_rng hw (j - 1) (by omega)).1
      have hup := fun i' (h1 : i' < j) h2 => kw_ix_up hw (i := i') (j := j) h1 (by omega) h2
      have hG := fun (h1 : 1 ≤ j) h2 => kw_ix_G hw (i := j - 1) (by omega) h2
      unfold kw_VX kw_VY kw_f1
      dsimp only at hq hup hG ⊢
      rw [hval, ea]
      have eG : 1 ≤ j → j - 1 + 1 = j := fun z => by omega
      obtain ⟨q0, q1, q2⟩ := hq
      have t0 : (tk (o + j)).toNatClampNeg ≠ 0 → kw_t (tk (o + j)).toNatClampNeg = 1 ∨ kw_t (tk (o + j)).toNatClampNeg = 2 := fun z => by
        unfold kw_t
        rw [if_neg z]
        by_cases z2 : (tk (o + j)).toNatClampNeg = 2 ∨ (tk (o + j)).toNatClampNeg = 3 ∨ (tk (o + j)).toNatClampNeg = 4 ∨ (tk (o + j)).toNatClampNeg = 9
        · rw [if_pos z2]; exact Or.inr rfl
        · rw [if_neg z2]; exact Or.inl rfl
      refine kw_v_eq hS hF hC hκ ha0 ha5 ha6 hvs (fun z => ?_) (fun t => ?_) (fun z => ?_) (fun t => ?_)
      · rcases t0 z with t | t
        · obtain ⟨h1, _⟩ := q1 t
          rw [if_neg (by omega), ih (j - 1) (by omega), ← hup (j - 1) (by omega) (Or.inl ⟨by omega, by omega, fun z9 => by rw [kw_t9 z9] at t; omega⟩)]
          exact (hsub (j - 1) (by omega)).1
        · obtain ⟨h1, _⟩ := q2 t
          rw [if_pos t, ih (j - 1 - Z (o + (j - 1))) (by omega), ← hup (j - 1 - Z (o + (j - 1))) (by omega) (Or.inr ⟨t, by omega⟩)]
          exact (hsub (j - 1 - Z (o + (j - 1))) (by omega)).1
      · obtain ⟨h1, _⟩ := q2 t
        have hr := hr (by omega)
        rw [ih (j - 1) (by omega)]
        by_cases z9 : (tk (o + j)).toNatClampNeg = 9
        · rw [if_pos z9, if_pos t, ih (j - 1 - Z (o + (j - 1))) (by omega)]
          have hs1 := (hsub (j - 1) (by omega)).1
          rw [hG (by omega) (by rw [eG (by omega)]; exact z9), kw_val, if_neg (by omega), Nat.zero_add] at hs1
          rw [show j - 1 + 1 - Z (o + (j - 1)) - 1 = j - 1 - Z (o + (j - 1)) from by omega] at hs1
          exact hs1
        · rw [if_neg z9, ← hup (j - 1) (by omega) (Or.inl ⟨by omega, by omega, z9⟩)]
          exact (hsub (j - 1) (by omega)).1
      · rw [if_neg z]
        rcases t0 z with t | t
        · obtain ⟨h1, _⟩ := q1 t
          rw [if_neg (by omega), if_neg (by omega), ih (j - 1) (by omega)]
        · obtain ⟨h1, _⟩ := q2 t
          rw [if_pos t, if_pos t, ih (j - 1 - Z (o + (j - 1))) (by omega)]
      · obtain ⟨h1, _⟩ := q2 t
        rw [if_neg (by omega), ih (j - 1) (by omega)]
    · have e1 : kw_HX wt fs ce tk ta hs Z o n (i + 1) (o + j) = kw_HX wt fs ce tk ta hs Z o n i (o + j) := pk_un (by omega)
      have e2 : kw_HY wt fa co ag ho (fun i => (tk (o + i)).toNatClampNeg) (fun i => Z (o + i)) s n (i + 1) j = kw_HY wt fa co ag ho (fun i => (tk (o + i)).toNatClampNeg) (fun i => Z (o + i)) s n i j := pk_un (by omega)
      rw [e1, e2]
      exact ih j (by omega)
end
end
section
section
variable {wt aw tc fc : Int32} {fs ce tk ta fz hs ap na : Nat → Int32}
variable {th ac ht : Int32} {fa co sz kd ag fi tr ia ho ro di : Nat → Int32}
theorem kw_both {h : Nat} {z Z : Nat → Nat} (hS : kw_S wt) (hF : kw_FA wt fs fa) (hC : kw_CE wt ce co) (h6 : h + 1 ≤ 6) (htc : tc = nI (kw_off z (h + 1))) (hf : ∀ s, s < h + 1 → sz s = nI (z s) ∧ kw_fm tk ta fz kd ag Z (kw_off z s) s (z s)) :
    ∃ r, kw_sub r wt ∧ (∀ post : Int32 → SX → Prop, (∀ hs', post r (wt, aw, tc, fc, fs, ce, tk, ta, fz, hs', ap, na)) → wpX_topSet post (wt, aw, tc, fc, fs, ce, tk, ta, fz, hs, ap, na)) ∧ (∀ post : Int32 → SY → Prop, (∀ fi' tr' ia' ho' ro', post r (wt, ac, ht, fa, co, sz, kd, ag, fi', tr', ia', ho', ro', di)) → wpY_whereHolds post (wt, ac, ht, fa, co, sz, kd, ag, fi, tr, ia, ho, ro, di) (nI (h + 1) - 1)) := by
  obtain ⟨h1, h24, h144, hz, hoh⟩ := kw_top h6 hf
  obtain ⟨es, hfm⟩ := hf h (by omega)
  have hfm2 := hfm
  obtain ⟨_, hc, hw⟩ := hfm
  refine ⟨kw_HX wt fs ce tk ta hs Z (kw_off z h) (z h) (z h) (kw_off z h + (z h - 1)), ?_, fun post hp => kx_topSet hfm2 htc h144 (hp _), fun post hp => ?_⟩
  · rw [kw_H_eq (ho := ho) hfm2 hS hF hC (z h) (Nat.le_refl _) (z h - 1) (by omega)]
    exact (kw_HY_sub hS (z h) (z h - 1) (by omega)).2
  · rw [nI_pred]
    refine ky_where (K := fun i => (tk (kw_off z h + i)).toNatClampNeg) (Z := fun i => Z (kw_off z h + i)) (n := z h) hS hw h24 (by omega) es (fun i hi => ?_) (fun i hi e0 => ?_) (fun fi' tr' ia' ro' => ?_)
    · obtain ⟨ek, _, _, κ, hκ, e, _⟩ := hc i hi
      have eκ : (tk (kw_off z h + i)).toNatClampNeg = κ := by rw [e]; exact nI_clamp (by omega)
      rw [ek, eκ]
      exact ⟨e, hκ⟩
    · obtain ⟨_, ea, _, κ, hκ, e, ha0, _⟩ := hc i hi
      have eκ : (tk (kw_off z h + i)).toNatClampNeg = κ := by rw [e]; exact nI_clamp (by omega)
      rw [eκ] at e0
      rw [ea]
      exact ha0 e0
    · have := hp fi' tr' ia' (kw_HY wt fa co ag ho (fun i => (tk (kw_off z h + i)).toNatClampNeg) (fun i => Z (kw_off z h + i)) h (z h) (z h)) ro'
      rw [kw_H_eq (ho := ho) hfm2 hS hF hC (z h) (Nat.le_refl _) (z h - 1) (by omega)] at this
      exact this
theorem kw_FA_sub {r : Int32} (h : kw_sub r wt) (hF : kw_FA wt fs fa) : kw_FA r fs fa := fun w hw hb => hF w hw (h w hb)
theorem kw_CE_sub {r : Int32} (h : kw_sub r wt) (hC : kw_CE wt ce co) : kw_CE r ce co := fun a ha w v hw hv bw bv => hC a ha w v hw hv (h w bw) (h v bv)
end
theorem i_vc_where {k : Nat} {u : SX} {v : SY} (I : i_Rel k u v) (hk : k + 4 ≤ 2048) : wpX_where (fun r u' => wpY_where (fun r' v' => r' = r ∧ i_Rel (k + 4) u' v') v) u := by
  obtain ⟨wt, aw, tc, fc, fs, ce, tk, ta, fz, hs, ap, na⟩ := u
  obtain ⟨th, ac, ht, fa, co, sz, kd, ag, fi, tr, ia, ho, ro, di⟩ := v
  obtain ⟨rfl, hS, hA, hF, hC, h, z, Z, h6, rfl, rfl, htc, hf⟩ := I
  unfold wpX_where wpY_where
  dsimp only
  cases h with
  | zero => exact br_t rfl (br_t rfl ⟨rfl, rfl, hS, hA, hF, hC, 0, z, Z, h6, rfl, rfl, htc, hf⟩)
  | succ h =>
    have hne : ¬ nI (h + 1) = 0 := nI_ne0 (by omega) (by omega)
    obtain ⟨r, hr, hX, hY⟩ := kw_both (aw := aw) (fc := nI (h + 1)) (hs := hs) (ap := ap) (na := na) (ac := ac) (ht := nI (h + 1)) (fi := fi) (tr := tr) (ia := ia) (ho := ho) (ro := ro) (di := di) hS hF hC h6 htc hf
    refine br_f hne (hX _ fun hs' => ?_)
    dsimp only
    refine br_f hne (hY _ fun fi' tr' ia' ho' ro' => ?_)
    dsimp only
    exact ⟨rfl, rfl, hS, hA, hF, hC, h + 1, z, Z, h6, rfl, rfl, htc, hf⟩
theorem i_vc_holds {k : Nat} {u : SX} {v : SY} (I : i_Rel k u v) (hk : k + 4 ≤ 2048) (v1 : Int32) : wpX_holds (fun r u' => wpY_holds (fun r' v' => r' = r ∧ i_Rel (k + 4) u' v') v v1) u v1 := by
  obtain ⟨wt, aw, tc, fc, fs, ce, tk, ta, fz, hs, ap, na⟩ := u
  obtain ⟨th, ac, ht, fa, co, sz, kd, ag, fi, tr, ia, ho, ro, di⟩ := v
  obtain ⟨rfl, hS, hA, hF, hC, h, z, Z, h6, rfl, rfl, htc, hf⟩ := I
  unfold wpX_holds wpY_holds
  dsimp only
  cases h with
  | zero => exact br_t rfl (br_t rfl ⟨rfl, rfl, hS, hA, hF, hC, 0, z, Z, h6, rfl, rfl, htc, hf⟩)
  | succ h =>
    have hne : ¬ nI (h + 1) = 0 := nI_ne0 (by omega) (by omega)
    refine br_f hne ?_
    rcases kw_cs wt v1 with hb | ⟨w, hw, rfl, hb⟩
    · exact kx_thereN hb (br_t rfl (br_f hne (ky_thereN hb (br_t rfl ⟨rfl, rfl, hS, hA, hF, hC, h + 1, z, Z, h6, rfl, rfl, htc, hf⟩))))
    · obtain ⟨r, hr, hX, hY⟩ := kw_both (aw := aw) (fc := nI (h + 1)) (hs := hs) (ap := ap) (na := na) (ac := ac) (ht := nI (h + 1)) (fi := fi) (tr := tr) (ia := ia) (ho := ho) (ro := ro) (di := di) hS hF hC h6 htc hf
      refine kx_there hw (kw_br _ (fun e => absurd (e.symm.trans hb) (by decide)) fun _ => hX _ fun hs' => ?_)
      dsimp only
      refine kx_isIn (by omega) (kw_br _ (fun e => br_f hne (ky_there hw (kw_br _ (fun e => absurd (e.symm.trans hb) (by decide)) fun _ => hY _ fun fi' tr' ia' ho' ro' => ?_))) (fun e => br_f hne (ky_there hw (kw_br _ (fun e => absurd (e.symm.trans hb) (by decide)) fun _ => hY _ fun fi' tr' ia' ho' ro' => ?_))))
      · dsimp only
        rw [kw_bit r (by omega), e]
        exact ⟨rfl, rfl, hS, hA, hF, hC, h + 1, z, Z, h6, rfl, rfl, htc, hf⟩
      · dsimp only
        rw [kw_bit r (by omega), e]
        exact ⟨rfl, rfl, hS, hA, hF, hC, h + 1, z, Z, h6, rfl, rfl, htc, hf⟩
theorem i_vc_say {k : Nat} {u : SX} {v : SY} (I : i_Rel k u v) (hk : k + 4 ≤ 2048) : wpX_say (fun r u' => wpY_say (fun r' v' => r' = r ∧ i_Rel (k + 4) u' v') v) u := by
  obtain ⟨wt, aw, tc, fc, fs, ce, tk, ta, fz, hs, ap, na⟩ := u
  obtain ⟨th, ac, ht, fa, co, sz, kd, ag, fi, tr, ia, ho, ro, di⟩ := v
  obtain ⟨rfl, hS, hA, hF, hC, h, z, Z, h6, rfl, rfl, htc, hf⟩ := I
  unfold wpX_say wpY_say
  dsimp only
  cases h with
  | zero => exact br_t rfl (br_t rfl ⟨rfl, rfl, hS, hA, hF, hC, 0, z, Z, h6, rfl, rfl, htc, hf⟩)
  | succ h =>
    have hne : ¬ nI (h + 1) = 0 := nI_ne0 (by omega) (by omega)
    obtain ⟨r, hr, hX, hY⟩ := kw_both (aw := aw) (fc := nI (h + 1)) (hs := hs) (ap := ap) (na := na) (ac := ac) (ht := nI (h + 1)) (fi := fi) (tr := tr) (ia := ia) (ho := ho) (ro := ro) (di := di) hS hF hC h6 htc hf
    have hA2 := hA
    obtain ⟨n, hn, rfl, rfl, hb⟩ := hA
    refine br_f hne (hX _ fun hs' => ?_)
    dsimp only
    refine kx_isIn (by omega) (kw_br _ (fun e => br_f hne (hY _ fun fi' tr' ia' ho' ro' => ?_)) (fun e => kx_cnt (br_f hne (hY _ fun fi' tr' ia' ho' ro' => ?_))))
    · dsimp only
      exact ky_in (by omega) (kw_br _ (fun _ => ⟨rfl, rfl, hS, hA2, hF, hC, h + 1, z, Z, h6, rfl, rfl, htc, hf⟩) (fun e2 => absurd (e.symm.trans e2) (by decide)))
    · dsimp only
      exact ky_in (by omega) (kw_br _ (fun e2 => absurd (e.symm.trans e2) (by decide)) (fun _ => ky_cnt ⟨rfl, rfl, kw_sub_S hr hS, ⟨n, hn, rfl, rfl, e⟩, kw_FA_sub hr hF, kw_CE_sub hr hC, h + 1, z, Z, h6, rfl, rfl, htc, hf⟩))
section
variable {th ac ht : Int32} {fa co sz kd ag fi tr ia ho ro di : Nat → Int32}
def kw_tq (th r : Int32) (fa : Nat → Int32) (p w : Nat) : Bool := bt th w && (bt r w != bt (fa w) p)
def kw_tf (th r : Int32) (fa : Nat → Int32) (p w : Nat) : Int32 := if kw_tq th r fa p w then fa w ^^^ ((1 : Int32) <<< (nI p &&& 31)) else fa w
theorem ky_turn {post : Int32 → SY → Prop} {r : Int32} {p : Nat} (hp : p < 4) (h : post (nI (kw_c (kw_tq th r fa p) 16)) (th, ac, ht, kw_mx (kw_tf th r fa p) fa 16, co, sz, kd, ag, fi, tr, ia, ho, ro, di)) : ∃ n, wY_turn_37 post (nI p) r th ac ht n 0 0 fa co sz kd ag fi tr ia ho ro di := by
  refine kw_lp (fun n i (q : Int32 × (Nat → Int32)) => wY_turn_37 post (nI p) r th ac ht n q.1 (nI i) q.2 co sz kd ag fi tr ia ho ro di) (fun i => (nI (kw_c (kw_tq th r fa p) i), kw_mx (kw_tf th r fa p) fa i)) 16 0 (by omega) (fun n => ?_) (fun n w hw g => ?_)
  · exact br_t (nI_le (a := 16) (by omega) (by decide)) h
  · dsimp only at g
    rw [kw_c] at g
    have hno : kw_tq th r fa p w = false → wY_turn_37 post (nI p) r th ac ht n (nI (kw_c (kw_tq th r fa p) w)) (nI (w + 1)) (kw_mx (kw_tf th r fa p) fa w) co sz kd ag fi tr ia ho ro di := by
      intro e
      rw [e, kw_mx_same (by rw [kw_tf, e]; rfl)] at g
      exact g
    refine br_f (nI_ge (b := 16) hw (by decide)) (ky_there hw (kw_br _ (fun e => nm_r (nI_1 w) (hno (by rw [kw_tq, e]; rfl))) (fun e => ky_in (by omega) ⟨vp_in_nI hw (by decide), ?_⟩)))
    rw [nI_clamp (by omega)]
    dsimp only
    rw [kw_mx_hi (Nat.le_refl w)]
    refine ky_in (by omega) (kw_br2 _ _ (fun e2 => nm_r (nI_1 w) (hno (by rw [kw_tq, e2]; simp))) (fun e2 => ⟨vp_in_nI hw (by decide), vp_in_nI hw (by decide), ?_⟩))
    have eq1 : kw_tq th r fa p w = true := by rw [kw_tq, e]; simpa using e2
    rw [eq1] at g
    refine nm_r (e' := kw_mx (kw_tf th r fa p) fa (w + 1)) ?_ (nm_r (nI_1 _) (nm_r (nI_1 w) g))
    rw [← kw_mx_upd, kw_tf, eq1]
    rfl
end
theorem i_vc_turn {k : Nat} {u : SX} {v : SY} (I : i_Rel k u v) (hk : k + 4 ≤ 2048) (v1 : Int32) : wpX_turn (fun r u' => wpY_turn (fun r' v' => r' = r ∧ i_Rel (k + 4) u' v') v v1) u v1 := by
  obtain ⟨wt, aw, tc, fc, fs, ce, tk, ta, fz, hs, ap, na⟩ := u
  obtain ⟨th, ac, ht, fa, co, sz, kd, ag, fi, tr, ia, ho, ro, di⟩ := v
  obtain ⟨rfl, hS, hA, hF, hC, h, z, Z, h6, rfl, rfl, htc, hf⟩ := I
  unfold wpX_turn wpY_turn
  dsimp only
  rcases kw_cs3 v1 4 with hn | ⟨p, hp, rfl⟩
  · exact kx_faN hn (br_t rfl (ky_faN hn ⟨rfl, rfl, hS, hA, hF, hC, h, z, Z, h6, rfl, rfl, htc, hf⟩))
  · refine kx_fa hp (br_f (by decide) ?_)
    cases h with
    | zero => exact br_t rfl (ky_fa hp (br_t rfl ⟨rfl, rfl, hS, hA, hF, hC, 0, z, Z, h6, rfl, rfl, htc, hf⟩))
    | succ h =>
      have hne : ¬ nI (h + 1) = 0 := nI_ne0 (by omega) (by omega)
      obtain ⟨r, hr, hX, hY⟩ := kw_both (aw := aw) (fc := nI (h + 1)) (hs := hs) (ap := ap) (na := na) (ac := ac) (ht := nI (h + 1)) (fi := fi) (tr := tr) (ia := ia) (ho := ho) (ro := ro) (di := di) hS hF hC h6 htc hf
      refine br_f hne (hX _ fun hs' => ?_)
      dsimp only
      rw [nI_clamp (by omega)]
      refine ⟨vp_in_nI hp (by decide), nm_e ⟨vp_in_nI hp (by decide), nm_e (kx_cnt (ky_fa hp (br_f hne (hY _ fun fi' tr' ia' ho' ro' => ?_))))⟩⟩
      dsimp only
      refine ky_turn hp ⟨?_, rfl, hS, hA, ?_, hC, h + 1, z, Z, h6, rfl, rfl, htc, hf⟩
      · refine congrArg nI (kw_c_cg fun w hw => ?_)
        rw [kw_tq, b_and, b_xor, Bool.and_comm]
        cases e : bt wt w
        · rw [Bool.and_false, Bool.and_false]
        · rw [(hF w hw e).1 p hp]
          cases bt r w <;> cases bt (fa w) p <;> rfl
      · intro w hw hb
        rw [kw_mx_lo hw]
        obtain ⟨f1, f2⟩ := hF w hw hb
        refine ⟨fun q hq => ?_, fun i hi => ?_⟩
        · by_cases e : q = p
          · subst e
            rw [pk_us, kw_tf]
            cases eq1 : kw_tq wt r fa q w
            · rw [if_neg (by decide)]
              rw [kw_tq, hb] at eq1
              simpa using eq1
            · rw [if_pos rfl, b_xor, kw_one (by omega) (by omega), decide_eq_true rfl]
              rw [kw_tq, hb] at eq1
              revert eq1
              cases bt r w <;> cases bt (fa w) q <;> decide
          · rw [pk_un e, f1 q hq, kw_tf]
            cases eq1 : kw_tq wt r fa p w
            · rfl
            · rw [if_pos rfl, b_xor, kw_one (by omega) (by omega), decide_eq_false e, Bool.xor_false]
        · rw [kw_tf]
          cases eq1 : kw_tq wt r fa p w
          · exact f2 i hi
          · by_cases z32 : i < 32
            · rw [if_pos rfl, b_xor, f2 i hi, kw_one (by omega) z32, decide_eq_false (by omega)]; rfl
            · exact b_big (by omega)
end
section
section
variable {wt aw tc fc : Int32} {fs ce tk ta fz hs ap na : Nat → Int32}
variable {th ac ht : Int32} {fa co sz kd ag fi tr ia ho ro di : Nat → Int32}
def kw_my (new old : Nat → Int32) (o i : Nat) : Nat → Int32 := fun j => if o ≤ j ∧ j < o + i then new (j - o) else old j
theorem kw_my_upd {new old : Nat → Int32} {o i : Nat} : upd (kw_my new old o i) (o + i) (new i) = kw_my new old o (i + 1) := by
  funext j
  unfold upd kw_my
  by_cases e : j = o + i
  · rw [if_pos e, if_pos (by omega), show j - o = i from by omega]
  · rw [if_neg e]
    by_cases e2 : o ≤ j ∧ j < o + i
    · rw [if_pos e2, if_pos (by omega)]
    · rw [if_neg e2, if_neg (by omega)]
theorem kw_my_0 {new old : Nat → Int32} {o : Nat} : kw_my new old o 0 = old := by
  funext j
  exact if_neg (by omega)
theorem kw_my_in {new old : Nat → Int32} {o i w : Nat} (h : w < i) : kw_my new old o i (o + w) = new w := by
  unfold kw_my
  rw [if_pos (by omega), show o + w - o = w from by omega]
theorem kw_my_out {new old : Nat → Int32} {o i j : Nat} (h : j < o ∨ o + i ≤ j) : kw_my new old o i j = old j := if_neg (by omega)
/-! the component -/
def kw_ln (ce : Nat → Int32) (r : Int32) (a w : Nat) : Int32 := if bt r w then ce (16 * a + w) &&& r else ce (16 * a + w) &&& (r ^^^ (-1))
theorem kx_learn {post : Int32 → SX → Prop} {r : Int32} {a : Nat} (ha : a < 3) (h : post (nI (kw_c (kw_clX wt (kw_my (kw_ln ce r a) ce (16 * a) 16) a) 16)) (wt, aw, tc, fc, fs, kw_my (kw_ln ce r a) ce (16 * a) 16, tk, ta, fz, hs, ap, na)) : ∃ n, wX_learn_26 post (nI a) r wt aw tc fc n 0 fs ce tk ta fz hs ap na := by
  have hin := kw_lp (fun n i q => wX_learn_26 post (nI a) r wt aw tc fc n (nI i) fs q tk ta fz hs ap na) (fun i => kw_my (kw_ln ce r a) ce (16 * a) i) 16 0 (by omega) (fun n => br_t (nI_le (a := 16) (by omega) (by decide)) (kx_classes ha h)) (fun n w hw g => by
    refine br_f (nI_ge (b := 16) hw (by decide)) ?_
    rw [kw_ixX, nI_clamp (by omega), kw_my_out (j := 16 * a + w) (by omega)]
    refine ⟨vp_in_nI (by omega) (by decide), kx_isIn (by omega) (kw_br _ (fun e => ⟨vp_in_nI (by omega) (by decide), nm_r ?_ (nm_r (nI_1 w) g)⟩) (fun e => ⟨vp_in_nI (by omega) (by decide), nm_r ?_ (nm_r (nI_1 w) g)⟩))⟩
    · rw [← kw_my_upd, kw_ln, e]; rfl
    · rw [← kw_my_upd, kw_ln, e]; rfl)
  obtain ⟨n, hn⟩ := hin
  rw [kw_my_0] at hn
  exact ⟨n, hn⟩
/-! the reference -/
def kw_lc (th : Int32) (co : Nat → Int32) (r : Int32) (a w v : Nat) : Bool := bt th v && kw_R co a w v && (bt r w == bt r v)
def kw_rt (c : Nat → Bool) (w : Nat) : Nat → Nat
  | 0 => w
  | k + 1 => if c (15 - k) then 15 - k else kw_rt c w k
def kw_RT (th : Int32) (co : Nat → Int32) (r : Int32) (a w : Nat) : Int32 := nI (kw_rt (kw_lc th co r a w) w 16)
theorem ky_learn50 {post : Int32 → SY → Prop} {J : Int32 → (Nat → Int32) → (Nat → Int32) → (Nat → Int32) → (Nat → Int32) → (Nat → Int32) → (Nat → Int32) → (Nat → Int32) → (Nat → Int32) → (Nat → Int32) → (Nat → Int32) → (Nat → Int32) → Prop} {r : Int32} {a w : Nat} (ha : a < 3) (hw : w < 16) (h : J (nI (w + 1)) fa co sz kd ag fi tr ia ho (upd ro w (kw_RT th co r a w)) di) : ∃ n, wY_learn_50 post J (nI a) r (nI w) th ac ht n 15 fa co sz kd ag fi tr ia ho (upd ro w (nI w)) di := by
  have hin := kw_lp (fun n k q => wY_learn_50 post J (nI a) r (nI w) th ac ht n (nI (16 - k) + (-1)) fa co sz kd ag fi tr ia ho q di) (fun k => upd ro w (nI (kw_rt (kw_lc th co r a w) w k))) 16 0 (by omega) (fun n => br_t (by decide) (nm_r (nI_1 w) h)) (fun n k hk g => by
    have e0 : nI (16 - k) + (-1) = nI (15 - k) := by
      rw [show 16 - k = 15 - k + 1 from by omega]; exact pk_m1 (15 - k)
    have e1 : 16 - (k + 1) = 15 - k := by omega
    rw [e1] at g
    rw [kw_rt] at g
    rw [e0]
    have hno : kw_lc th co r a w (15 - k) = false → ∀ ro', ro' = upd (upd ro w (nI (kw_rt (kw_lc th co r a w) w k))) w (upd ro w (nI (kw_rt (kw_lc th co r a w) w k)) w) → ∀ x4, x4 = nI (15 - k) + (-1) → wY_learn_50 post J (nI a) r (nI w) th ac ht n x4 fa co sz kd ag fi tr ia ho (ro') di := by
      intro e ro' er x4 ex
      rw [e, if_neg (by decide)] at g
      rw [er, ex, pk_us, kw_updupd]
      exact g
    refine br_f (nI_pos (by omega)) (ky_there (by omega) (kw_br _ (fun e => ?_) (fun e => ky_same ha hw (by omega) (kw_br _ (fun e2 => ?_) (fun e2 => ky_in (by omega) (ky_in (by omega) (kw_br2 _ _ (fun e3 => ?_) (fun e3 => ?_))))))))
    · rw [nI_clamp (by omega)]
      exact ⟨vp_in_nI (by omega) (by decide), vp_in_nI (by omega) (by decide), hno (by rw [kw_lc, e]; rfl)⟩
    · rw [nI_clamp (by omega)]
      exact ⟨vp_in_nI (by omega) (by decide), vp_in_nI (by omega) (by decide), hno (by rw [kw_lc, e, kw_R, e2]; rfl)⟩
    · rw [nI_clamp (by omega)]
      refine ⟨vp_in_nI (by omega) (by decide), nm_r kw_updupd (nm_e ?_)⟩
      have e4 : kw_lc th co r a w (15 - k) = true := by rw [kw_lc, e, kw_R, e2, e3]; simp
      rw [e4, if_pos rfl] at g
      exact g
    · rw [nI_clamp (by omega)]
      refine ⟨vp_in_nI (by omega) (by decide), vp_in_nI (by omega) (by decide), hno ?_⟩
      rw [kw_lc, e, kw_R, e2]
      simpa using e3)
  obtain ⟨n, hn⟩ := hin
  rw [show nI (16 - 0) + (-1) = 15 from by decide] at hn
  exact ⟨n, hn⟩
theorem ky_learn {post : Int32 → SY → Prop} {r : Int32} {a : Nat} (ha : a < 3) (h : ∀ ro', post (nI (kw_c (kw_clY th (kw_my (kw_RT th co r a) co (16 * a) 16) a) 16)) (th, ac, ht, fa, kw_my (kw_RT th co r a) co (16 * a) 16, sz, kd, ag, fi, tr, ia, ho, ro', di)) : ∃ n, wY_learn_33 post (nI a) r th ac ht n 0 fa co sz kd ag fi tr ia ho ro di := by
  refine kw_lp (fun n i q => wY_learn_33 post (nI a) r th ac ht n (nI i) fa co sz kd ag fi tr ia ho q di) (fun i => kw_mx (kw_RT th co r a) ro i) 16 0 (by omega) (fun n => ?_) (fun n w hw g => ?_)
  · refine br_t (nI_le (a := 16) (by omega) (by decide)) ?_
    have hin := kw_lp (fun n i q => wY_learn_122 post (nI a) th ac ht n (nI i) fa q sz kd ag fi tr ia ho (kw_mx (kw_RT th co r a) ro 16) di) (fun i => kw_my (kw_RT th co r a) co (16 * a) i) 16 0 (by omega) (fun n => br_t (nI_le (a := 16) (by omega) (by decide)) (ky_classes ha (h _))) (fun n w hw g => by
      refine br_f (nI_ge (b := 16) hw (by decide)) ⟨vp_in_nI (by omega) (by decide), ?_⟩
      rw [kw_ixY, nI_clamp (by omega), nI_clamp (by omega), kw_mx_lo hw]
      exact ⟨vp_in_nI (by omega) (by decide), nm_r kw_my_upd (nm_r (nI_1 w) g)⟩)
    obtain ⟨m, hm⟩ := hin
    rw [kw_my_0] at hm
    exact ⟨m, hm⟩
  · refine br_f (nI_ge (b := 16) hw (by decide)) ⟨vp_in_nI (by omega) (by decide), nm_r (by rw [nI_clamp (by omega)]) (ky_learn50 ha hw ?_)⟩
    rw [kw_mx_upd]
    exact g
theorem kw_rt_sp {c : Nat → Bool} {w : Nat} : ∀ k, k ≤ 16 → (∃ v, 16 - k ≤ v ∧ v < 16 ∧ c v = true ∧ kw_rt c w k = v ∧ ∀ u, 16 - k ≤ u → u < v → c u = false) ∨ (∀ v, 16 - k ≤ v → v < 16 → c v = false) := by
  intro k
  induction k with
  | zero => intro _; exact Or.inr fun v h1 h2 => absurd h1 (by omega)
  | succ k ih =>
    intro hk
    cases e : c (15 - k)
    · rcases ih (by omega) with ⟨v, h1, h2, h3, h4, h5⟩ | h
      · refine Or.inl ⟨v, by omega, h2, h3, ?_, fun u g1 g2 => ?_⟩
        · rw [kw_rt, e, if_neg (by decide)]; exact h4
        · by_cases z : u = 15 - k
          · rw [z]; exact e
          · exact h5 u (by omega) g2
      · refine Or.inr fun v g1 g2 => ?_
        by_cases z : v = 15 - k
        · rw [z]; exact e
        · exact h v (by omega) g2
    · refine Or.inl ⟨15 - k, by omega, by omega, e, ?_, fun u g1 g2 => absurd g2 (by omega)⟩
      rw [kw_rt, e, if_pos rfl]
theorem kw_R_sy {a w v : Nat} (h : kw_R co a w v = true) : kw_R co a v w = true := decide_eq_true (of_decide_eq_true h).symm
theorem kw_R_tr {a w v u : Nat} (h : kw_R co a w v = true) (g : kw_R co a v u = true) : kw_R co a w u = true := decide_eq_true ((of_decide_eq_true h).trans (of_decide_eq_true g))
theorem kw_lc_iff {r : Int32} {a w v : Nat} : kw_lc th co r a w v = true ↔ bt th v = true ∧ kw_R co a w v = true ∧ bt r w = bt r v := by
  unfold kw_lc
  rw [Bool.and_eq_true, Bool.and_eq_true, beq_iff_eq]
  exact ⟨fun h => ⟨h.1.1, h.1.2, h.2⟩, fun h => ⟨⟨h.1, h.2.1⟩, h.2.2⟩⟩
theorem kw_RT_eq {r : Int32} {a w v : Nat} (hw : w < 16) (hv : v < 16) (bw : bt th w = true) (bv : bt th v = true) : decide (kw_RT th co r a w = kw_RT th co r a v) = (kw_R co a w v && (bt r w == bt r v)) := by
  have hx : ∀ w, w < 16 → bt th w = true → ∃ m, m < 16 ∧ kw_lc th co r a w m = true ∧ kw_rt (kw_lc th co r a w) w 16 = m ∧ ∀ u, u < m → kw_lc th co r a w u = false := by
    intro w hw bw
    rcases kw_rt_sp (c := kw_lc th co r a w) (w := w) 16 (by omega) with ⟨m, _, h2, h3, h4, h5⟩ | h
    · exact ⟨m, h2, h3, h4, fun u hu => h5 u (by omega) hu⟩
    · have := h w (by omega) hw
      rw [kw_lc_iff.mpr ⟨bw, kw_R_rf, rfl⟩] at this
      exact nomatch this
  obtain ⟨m, hm, cm, em, lm⟩ := hx w hw bw
  obtain ⟨m', hm', cm', em', lm'⟩ := hx v hv bv
  have key : kw_RT th co r a w = kw_RT th co r a v ↔ m = m' := by
    unfold kw_RT
    rw [em, em', nI_eq (by omega) (by omega)]
  refine kw_bT (p := m = m') _ (by rw [decide_eq_true_eq]; exact key) ?_
  rw [Bool.and_eq_true, beq_iff_eq]
  obtain ⟨c1, c2, c3⟩ := kw_lc_iff.mp cm
  obtain ⟨d1, d2, d3⟩ := kw_lc_iff.mp cm'
  constructor
  · rintro ⟨h1, h2⟩
    have z1 : kw_lc th co r a v m = true := kw_lc_iff.mpr ⟨c1, kw_R_tr (kw_R_sy h1) c2, h2.symm.trans c3⟩
    have z2 : kw_lc th co r a w m' = true := kw_lc_iff.mpr ⟨d1, kw_R_tr h1 d2, h2.trans d3⟩
    rcases Nat.lt_trichotomy m m' with z | z | z
    · rw [lm' m z] at z1; exact nomatch z1
    · exact z
    · rw [lm m' z] at z2; exact nomatch z2
  · intro e
    subst e
    exact ⟨kw_R_tr c2 (kw_R_sy d2), c3.trans d3.symm⟩
theorem kw_CE_learn (hC : kw_CE wt ce co) {r : Int32} {a : Nat} (ha : a < 3) : kw_CE wt (kw_my (kw_ln ce r a) ce (16 * a) 16) (kw_my (kw_RT wt co r a) co (16 * a) 16) := by
  intro b hb w v hw hv bw bv
  by_cases e : b = a
  · subst e
    rw [kw_my_in hw, kw_R, kw_my_in hw, kw_my_in hv, kw_RT_eq hw hv bw bv, kw_ln]
    cases e1 : bt r w
    · rw [if_neg (by decide), b_and, kw_not _ (by omega), hC b hb w v hw hv bw bv]
      cases bt r v <;> rfl
    · rw [if_pos rfl, b_and, hC b hb w v hw hv bw bv]
      cases bt r v <;> rfl
  · rw [kw_my_out (by omega), hC b hb w v hw hv bw bv, kw_R, kw_R, kw_my_out (by omega), kw_my_out (by omega)]
end
theorem i_vc_learn {k : Nat} {u : SX} {v : SY} (I : i_Rel k u v) (hk : k + 4 ≤ 2048) (v1 : Int32) : wpX_learn (fun r u' => wpY_learn (fun r' v' => r' = r ∧ i_Rel (k + 4) u' v') v v1) u v1 := by
  obtain ⟨wt, aw, tc, fc, fs, ce, tk, ta, fz, hs, ap, na⟩ := u
  obtain ⟨th, ac, ht, fa, co, sz, kd, ag, fi, tr, ia, ho, ro, di⟩ := v
  obtain ⟨rfl, hS, hA, hF, hC, h, z, Z, h6, rfl, rfl, htc, hf⟩ := I
  unfold wpX_learn wpY_learn
  dsimp only
  rcases kw_cs3 v1 3 with hn | ⟨a, ha, rfl⟩
  · exact kx_agN hn (br_t rfl (ky_agN hn (br_t rfl ⟨rfl, rfl, hS, hA, hF, hC, h, z, Z, h6, rfl, rfl, htc, hf⟩)))
  · refine kx_ag ha (br_f (by decide) ?_)
    cases h with
    | zero => exact br_t rfl (ky_ag ha (br_f (by decide) (br_t rfl ⟨rfl, rfl, hS, hA, hF, hC, 0, z, Z, h6, rfl, rfl, htc, hf⟩)))
    | succ h =>
      have hne : ¬ nI (h + 1) = 0 := nI_ne0 (by omega) (by omega)
      obtain ⟨r, hr, hX, hY⟩ := kw_both (aw := aw) (fc := nI (h + 1)) (hs := hs) (ap := ap) (na := na) (ac := ac) (ht := nI (h + 1)) (fi := fi) (tr := tr) (ia := ia) (ho := ho) (ro := ro) (di := di) hS hF hC h6 htc hf
      refine br_f hne (hX _ fun hs' => ?_)
      dsimp only
      refine kx_learn ha (ky_ag ha (br_f (by decide) (br_f hne (hY _ fun fi' tr' ia' ho' ro' => ?_))))
      dsimp only
      have hC' := kw_CE_learn (r := r) hC ha
      refine ky_learn ha fun ro2 => ⟨?_, rfl, hS, hA, hF, hC', h + 1, z, Z, h6, rfl, rfl, htc, hf⟩
      rw [kw_cls_eq hC' ha]
end
