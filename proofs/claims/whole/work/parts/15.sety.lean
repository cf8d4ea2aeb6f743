section
variable {th ac ht : Int32} {fa co sz kd ag fi tr ia ho ro di : Nat → Int32}
def kw_na (co : Nat → Int32) (g : Int32) (w v a : Nat) : Bool := kw_R co a w v || !bt g a
def kw_no1 (co : Nat → Int32) (g : Int32) (w v a : Nat) : Bool := kw_R co a w v && bt g a
def kw_nx (co : Nat → Int32) (set g : Int32) (b : Bool) (w : Nat) : Int32 := kw_mk (fun v => bt set v && (if b then kw_ex (kw_no1 co g w v) 3 else kw_al (kw_na co g w v) 3)) 16
theorem ky_64 {post : Int32 → Prop} {J6 : Int32 → Int32 → Prop} {J22 : Int32 → Int32 → Int32 → Prop} {x1 x2 x4 x5 x6 g z0 : Int32} {a : Nat} {b r : Bool} (ha : a < 3) (h : J22 z0 (kw_b (b || (r && bt g a))) (nI (a + 1))) : wY_next_64 post J6 J22 x1 x2 g x4 x5 x6 (kw_b b) (nI a) (kw_b r) z0 th ac ht fa co sz kd ag fi tr ia ho ro di := by
  unfold wY_next_64
  refine kw_br _ (fun e => kw_br _ (fun e2 => nm_r (nI_1 a) ?_) (fun e2 => ky_in (by omega) (kw_br _ (fun e3 => nm_r (nI_1 a) ?_) (fun e3 => nm_r (nI_1 a) ?_)))) (fun e => nm_r (nI_1 a) ?_)
  · rw [e, e2] at h; exact h
  · rw [e, e2, e3] at h; exact h
  · rw [e, e2, e3] at h; exact h
  · rw [e] at h; exact h
theorem ky_next {post : Int32 → Prop} {set g : Int32} {w : Nat} {b : Bool} (hw : w < 16) (h : post (kw_nx co set g b w)) : wpY_next post (th, ac, ht, fa, co, sz, kd, ag, fi, tr, ia, ho, ro, di) set (nI w) g (kw_b b) := by
  unfold wpY_next
  dsimp only
  refine kw_lp (fun n i s => wY_next_6 post set (nI w) g (kw_b b) th ac ht fa co sz kd ag fi tr ia ho ro di n s (nI i)) (fun i => kw_mk (fun v => bt set v && (if b then kw_ex (kw_no1 co g w v) 3 else kw_al (kw_na co g w v) 3)) i) 16 0 (by omega) (fun n => ?_) (fun n v hv G => ?_)
  · exact br_t (nI_le (a := 16) (by omega) (by decide)) h
  · rw [kw_mk] at G
    refine br_f (nI_ge (b := 16) hv (by decide)) ?_
    generalize kw_mk (fun v => bt set v && (if b then kw_ex (kw_no1 co g w v) 3 else kw_al (kw_na co g w v) 3)) v = out at G
    refine kw_lp (fun m i (s : Int32 × Int32) => wY_next_22 post (wY_next_6 post set (nI w) g (kw_b b) th ac ht fa co sz kd ag fi tr ia ho ro di n) set (nI w) g (kw_b b) out (nI v) th ac ht fa co sz kd ag fi tr ia ho ro di m s.1 s.2 (nI i)) (fun i => (kw_b (kw_al (kw_na co g w v) i), kw_b (kw_ex (kw_no1 co g w v) i))) 3 0 (by omega) (fun m => ?_) (fun m a ha G' => ?_)
    · refine br_t (nI_le (a := 3) (by omega) (by decide)) (ky_in (by omega) (kw_br _ (fun e => nm_r (nI_1 v) ?_) (fun e => kw_br _ (fun e2 => kw_br _ (fun e3 => nm_r (nI_1 v) ?_) (fun e3 => nm_e (nm_r (nI_1 v) ?_))) (fun e2 => kw_br _ (fun e3 => nm_r (nI_1 v) ?_) (fun e3 => nm_e (nm_r (nI_1 v) ?_))))))
      · rw [e, Bool.false_and, if_neg (by decide)] at G; exact G
      · have E : (bt set v && (if b then kw_ex (kw_no1 co g w v) 3 else kw_al (kw_na co g w v) 3)) = false := by simp [e, e2, e3]
        rw [E, if_neg (by decide)] at G; exact G
      · have E : (bt set v && (if b then kw_ex (kw_no1 co g w v) 3 else kw_al (kw_na co g w v) 3)) = true := by simp [e, e2, e3]
        rw [E, if_pos rfl] at G; exact G
      · have E : (bt set v && (if b then kw_ex (kw_no1 co g w v) 3 else kw_al (kw_na co g w v) 3)) = false := by simp [e, e2, e3]
        rw [E, if_neg (by decide)] at G; exact G
      · have E : (bt set v && (if b then kw_ex (kw_no1 co g w v) 3 else kw_al (kw_na co g w v) 3)) = true := by simp [e, e2, e3]
        rw [E, if_pos rfl] at G; exact G
    · dsimp only at G'
      rw [kw_al, kw_ex, kw_na, kw_no1] at G'
      refine br_f (nI_ge (b := 3) ha (by decide)) (ky_same ha hw hv (kw_br _ (fun e => ky_64 ha ?_) (fun e => kw_br _ (fun e2 => ky_in (by omega) (kw_br _ (fun e3 => ky_64 ha ?_) (fun e3 => ky_64 ha ?_))) (fun e2 => ky_64 ha ?_))))
      · rw [e] at G'; exact G'
      · rw [e, e3, show kw_R co a w v = false from e2] at G'
        rw [e3, e2]; exact G'
      · rw [e, e3, show kw_R co a w v = false from e2] at G'
        rw [e3, e2]; exact G'
      · rw [e, show kw_R co a w v = true from e2] at G'
        rw [e2]; exact G'
def kw_rc (co : Nat → Int32) (set g : Int32) (w : Nat) : Nat → Int32
  | 0 => (1 : Int32) <<< (nI w &&& 31)
  | t + 1 => if bt (kw_rc co set g w t) (t % 16) then kw_rc co set g w t ||| kw_nx co set g true (t % 16) else kw_rc co set g w t
theorem ky_reached {post : Int32 → Prop} {set g : Int32} {w : Nat} (hw : w < 16) (h : post (kw_rc co set g w 256)) : wpY_reached post (th, ac, ht, fa, co, sz, kd, ag, fi, tr, ia, ho, ro, di) set (nI w) g := by
  unfold wpY_reached
  dsimp only
  refine nm_e ?_
  refine kw_lp (fun n i s => wY_reached_8 post set g th ac ht fa co sz kd ag fi tr ia ho ro di n s (nI i)) (fun i => kw_rc co set g w i) 256 0 (by omega) (fun n => ?_) (fun n t ht G => ?_)
  · exact br_t (nI_le (a := 256) (by omega) (by decide)) h
  · rw [kw_rc] at G
    refine br_f (nI_ge (b := 256) ht (by decide)) ⟨kw_n16, nm_r (e' := nI (t % 16)) (by rw [kw_d16 ht, kw_r16 ht]) (ky_in (by omega) (kw_br _ (fun e => nm_r (nI_1 t) ?_) (fun e => ky_next (b := true) (by omega) (nm_e (nm_r (nI_1 t) ?_)))))⟩
    · rw [e, if_neg (by decide)] at G; exact G
    · rw [e, if_pos rfl] at G; exact G
def kw_seen (co : Nat → Int32) (set a : Int32) (w κ : Nat) : Int32 := if κ = 5 then kw_nx co set ((1 : Int32) <<< (a &&& 31)) false w else if κ = 6 then kw_nx co set a true w else if κ = 7 then kw_rc co set a w 256 else kw_nx co set a false w
theorem ky_74 {post : Int32 → Prop} {p s : Int32} (h : post (kw_b (decide (s &&& (p ^^^ (-1)) = 0)))) : wY_seesOnly_74 post p s th ac ht fa co sz kd ag fi tr ia ho ro di := by
  unfold wY_seesOnly_74
  by_cases z : s &&& (p ^^^ (-1)) = 0
  · rw [decide_eq_true z] at h; exact br_t z h
  · rw [decide_eq_false z] at h; exact br_f z h
theorem ky_sees {post : Int32 → Prop} {a set p : Int32} {w κ : Nat} (hw : w < 16) (hκ : κ = 5 ∨ κ = 6 ∨ κ = 7 ∨ κ = 8) (h : post (kw_b (decide (kw_seen co set a w κ &&& (p ^^^ (-1)) = 0)))) : wpY_seesOnly post (th, ac, ht, fa, co, sz, kd, ag, fi, tr, ia, ho, ro, di) (nI κ) a set (nI w) p := by
  unfold wpY_seesOnly
  dsimp only
  rcases hκ with rfl | rfl | rfl | rfl
  · exact br_t (by decide) (ky_next (b := false) hw (ky_74 h))
  · exact br_f (by decide) (br_t (by decide) (ky_next (b := true) hw (ky_74 h)))
  · exact br_f (by decide) (br_f (by decide) (br_t (by decide) (ky_reached hw (ky_74 h))))
  · exact br_f (by decide) (br_f (by decide) (br_f (by decide) (ky_next (b := false) hw (ky_74 h))))
def kw_iY (fa co : Nat → Int32) (a set f g : Int32) (w κ : Nat) : Bool :=
  if κ = 0 then bt (fa w) a.toNatClampNeg else if κ = 1 then !bt f w else if κ = 2 then bt f w && bt g w else if κ = 3 then bt f w || bt g w else if κ = 4 then bt f w == bt g w else if κ = 9 then !bt f w || bt g w else decide (kw_seen co set a w κ &&& (f ^^^ (-1)) = 0)
theorem ky_isIn {post : Int32 → Prop} {a set f g : Int32} {w : Nat} (hw : w < 16) : ∀ κ, κ ≤ 9 → (κ = 0 → ∃ p, p < 4 ∧ a = nI p) → post (kw_b (kw_iY fa co a set f g w κ)) → wpY_isIn post (th, ac, ht, fa, co, sz, kd, ag, fi, tr, ia, ho, ro, di) (nI κ) a set (nI w) f g := by
  unfold wpY_isIn
  dsimp only
  refine kw_10 ?_ ?_ ?_ ?_ ?_ ?_ ?_ ?_ ?_ ?_ <;> intro ha h
  · obtain ⟨p, hp, rfl⟩ := ha rfl
    rw [kw_iY, if_pos rfl, nI_clamp (by omega)] at h
    refine br_f (by decide) (br_f (by decide) (br_t (by decide) ⟨vp_in_nI hw (by decide), ?_⟩))
    rw [nI_clamp (by omega)]
    exact ky_in (by omega) ⟨kw_nar _, h⟩
  · exact br_f (by decide) (br_f (by decide) (br_f (by decide) (br_t (by decide) (ky_in (by omega) (kw_pn h)))))
  · exact br_f (by decide) (br_f (by decide) (br_f (by decide) (br_f (by decide) (br_t (by decide) (ky_in (by omega) (kw_br _ (fun e => by
      have e2 : kw_iY fa co a set f g w 2 = false := by show (bt f w && bt g w) = false; rw [e]; rfl
      rw [e2] at h; exact h) (fun e => ky_in (by omega) (kw_pp (by
      have e2 : kw_iY fa co a set f g w 2 = bt g w := by show (bt f w && bt g w) = bt g w; rw [e]; rfl
      rw [e2] at h; exact h)))))))))
  · exact br_f (by decide) (br_f (by decide) (br_f (by decide) (br_f (by decide) (br_f (by decide) (br_t (by decide) (ky_in (by omega) (kw_br _ (fun e => ky_in (by omega) (kw_pp (by
      have e2 : kw_iY fa co a set f g w 3 = bt g w := by show (bt f w || bt g w) = bt g w; rw [e]; rfl
      rw [e2] at h; exact h))) (fun e => by
      have e2 : kw_iY fa co a set f g w 3 = true := by show (bt f w || bt g w) = true; rw [e]; rfl
      rw [e2] at h; exact h))))))))
  · exact br_f (by decide) (br_f (by decide) (br_f (by decide) (br_f (by decide) (br_f (by decide) (br_f (by decide) (br_t (by decide) (ky_in (by omega) (ky_in (by omega) (kw_br2 _ _ (fun e => by
      have e2 : kw_iY fa co a set f g w 4 = true := by show (bt f w == bt g w) = true; rw [e]; exact beq_self_eq_true _
      rw [e2] at h; exact h) (fun e => by
      have e2 : kw_iY fa co a set f g w 4 = false := by show (bt f w == bt g w) = false; exact beq_eq_false_iff_ne.mpr e
      rw [e2] at h; exact h))))))))))
  · exact br_f (by decide) (br_f (by decide) (br_f (by decide) (br_f (by decide) (br_f (by decide) (br_f (by decide) (br_f (by decide) (br_t (by decide) (ky_sees (κ := 5) hw (by omega) ⟨kw_nar _, h⟩))))))))
  · exact br_f (by decide) (br_f (by decide) (br_f (by decide) (br_f (by decide) (br_f (by decide) (br_f (by decide) (br_f (by decide) (br_f (by decide) (br_t (by decide) (ky_sees (κ := 6) hw (by omega) ⟨kw_nar _, h⟩)))))))))
  · exact br_f (by decide) (br_f (by decide) (br_f (by decide) (br_f (by decide) (br_f (by decide) (br_f (by decide) (br_f (by decide) (br_f (by decide) (br_f (by decide) (br_t (by decide) (ky_sees (κ := 7) hw (by omega) ⟨kw_nar _, h⟩))))))))))
  · exact br_f (by decide) (br_f (by decide) (br_f (by decide) (br_f (by decide) (br_f (by decide) (br_f (by decide) (br_f (by decide) (br_f (by decide) (br_f (by decide) (br_f (by decide) (br_t (by decide) (ky_sees (κ := 8) hw (by omega) ⟨kw_nar _, h⟩)))))))))))
  · exact br_f (by decide) (br_f (by decide) (br_f (by decide) (br_f (by decide) (br_f (by decide) (br_f (by decide) (br_f (by decide) (br_f (by decide) (br_f (by decide) (br_f (by decide) (br_f (by decide) (br_t (by decide) (ky_in (by omega) (kw_br _ (fun e => by
      have e2 : kw_iY fa co a set f g w 9 = true := by show (!bt f w || bt g w) = true; rw [e]; rfl
      rw [e2] at h; exact h) (fun e => ky_in (by omega) (kw_pp (by
      have e2 : kw_iY fa co a set f g w 9 = bt g w := by show (!bt f w || bt g w) = bt g w; rw [e]; rfl
      rw [e2] at h; exact h))))))))))))))))
end
