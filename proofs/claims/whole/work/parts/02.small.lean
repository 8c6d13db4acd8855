section
variable {Q : Int32 → Prop} {P : SX → Prop} {f : Int32} {m w c : Nat → Int32}
theorem xa_sp0 {x : Int32} (b : ps_NS x) (h : Q 0) : wpX_isSpace Q x := br_f b.1 (br_f b.2.1 h)
theorem xa_sp1 {s : Nat} (hs : s < 2) (h : Q 1) : wpX_isSpace Q (nI s) := by
  by_cases z : s = 0
  · subst z
    exact br_t rfl h
  · have e : s = 1 := by omega
    subst e
    exact br_f (by decide) (br_t rfl h)
theorem ya_sp1 {x : Int32} (b : ps_NS x) (h : Q 1) : wpY_badSpace Q (f, m, w, c) x :=
  b.2.2.elim (fun z => br_t z h) (fun z => br_f z.1 (br_f z.2 h))
theorem ya_sp0 {s : Nat} (hs : s < 2) (h : Q 0) : wpY_badSpace Q (f, m, w, c) (nI s) :=
  br_f (nI_pos (by omega)) (br_t (nI_le (b := 1) (by omega) (by omega)) h)
theorem xa_pg0 {x : Int32} (b : ps_NP x) (h : Q 0) : wpX_isPage Q x :=
  b.elim (fun z => br_t z h) (fun z => br_f z.1 (br_t z.2.2 h))
theorem xa_pg1 {p : Nat} (hp : p < 32) (h : Q 1) : wpX_isPage Q (nI p) :=
  br_f (nI_pos (by omega)) (br_f (nI_ge (b := 32) hp (by omega)) h)
theorem ya_pg1 {x : Int32} (b : ps_NP x) (h : Q 1) : wpY_badPage Q (f, m, w, c) x :=
  b.elim (fun z => br_t z h) (fun z => br_f z.1 (br_f z.2.1 h))
theorem ya_pg0 {p : Nat} (hp : p < 32) (h : Q 0) : wpY_badPage Q (f, m, w, c) (nI p) :=
  br_f (nI_pos (by omega)) (br_t (nI_le (b := 31) (by omega) (by omega)) h)
theorem xa_gr0 {x y : Int32} (b : ps_NR x y) (h : Q 0) : wpX_isGoodRange Q x y :=
  b.elim (fun z => br_t z h) (fun z => z.elim (fun z => br_f z.1 (br_t z.2.2 h))
    (fun z => br_f z.1 (br_f z.2.2.1 (z.2.2.2.elim (fun z => br_t z h) (fun z => br_f z.1 (br_t z.2.2 h))))))
theorem xa_gr1 {a b : Nat} (h1 : 1 ≤ b) (h2 : a + b ≤ 32) (h : Q 1) : wpX_isGoodRange Q (nI a) (nI b) := by
  refine br_f (nI_nlt (b := 1) h1 (by omega)) (br_f (nI_nlt (a := 32) (by omega) (by omega)) (br_f (nI_pos (by omega)) (br_f ?_ h)))
  rw [ps_32 (by omega)]
  exact nI_nlt (by omega) (by omega)
theorem ya_br1 {x y : Int32} (b : ps_NR x y) (h : Q 1) : wpY_badRange Q (f, m, w, c) x y :=
  b.elim (fun z => br_t z h) (fun z => z.elim (fun z => br_f z.1 (br_f z.2.1 h))
    (fun z => br_f z.1 (br_t z.2.1 (z.2.2.2.elim (fun z => br_t z h) (fun z => br_f z.1 (br_f z.2.1 h))))))
theorem ya_br0 {a b : Nat} (h1 : 1 ≤ b) (h2 : a + b ≤ 32) (h : Q 0) : wpY_badRange Q (f, m, w, c) (nI a) (nI b) := by
  refine br_f (nI_nlt (b := 1) h1 (by omega)) (br_t (nI_le (b := 32) (by omega) (by omega)) (br_f (nI_pos (by omega)) (br_t ?_ h)))
  rw [ps_32 (by omega)]
  exact nI_le (by omega) (by omega)
theorem xa_rp_1 {x y : Int32} (b : ps_NS x) (h : Q (-1)) : wpX_refusalOfPage Q x y := by
  unfold wpX_refusalOfPage
  exact xa_sp0 b (br_t rfl h)
theorem xa_rp_2 {s : Nat} {y : Int32} (hs : s < 2) (b : ps_NP y) (h : Q (-2)) : wpX_refusalOfPage Q (nI s) y := by
  unfold wpX_refusalOfPage
  exact xa_sp1 hs (br_f (by decide) (xa_pg0 b (br_t rfl h)))
theorem xa_rp_0 {s p : Nat} (hs : s < 2) (hp : p < 32) (h : Q 0) : wpX_refusalOfPage Q (nI s) (nI p) := by
  unfold wpX_refusalOfPage
  exact xa_sp1 hs (br_f (by decide) (xa_pg1 hp (br_f (by decide) h)))
theorem xa_rr_1 {x y z : Int32} (b : ps_NS x) (h : Q (-1)) : wpX_refusalOfRange Q x y z := by
  unfold wpX_refusalOfRange
  exact xa_sp0 b (br_t rfl h)
theorem xa_rr_2 {s : Nat} {y z : Int32} (hs : s < 2) (b : ps_NR y z) (h : Q (-2)) : wpX_refusalOfRange Q (nI s) y z := by
  unfold wpX_refusalOfRange
  exact xa_sp1 hs (br_f (by decide) (xa_gr0 b (br_t rfl h)))
theorem xa_rr_0 {s a b : Nat} (hs : s < 2) (h1 : 1 ≤ b) (h2 : a + b ≤ 32) (h : Q 0) : wpX_refusalOfRange Q (nI s) (nI a) (nI b) := by
  unfold wpX_refusalOfRange
  exact xa_sp1 hs (br_f (by decide) (xa_gr1 h1 h2 (br_f (by decide) h)))
theorem xa_sl (s p : Nat) (h : Q (nI (s * 32 + p))) : wpX_slotOf Q (nI s) (nI p) := by
  unfold wpX_slotOf
  rw [ps_slot]
  exact h
theorem xa_sl3 {x y : Int32} {i : Nat} (e : x * 32 + y = nI i) (h : Q (nI i)) : wpX_slotOf Q x y := by
  unfold wpX_slotOf
  rw [e]
  exact h
theorem xa_fill {x v v' y y' : Int32} {i : Nat} (e : x = nI i) (hi : i < 64) (hv : vp_nar .boolean v = v') (hy : y = y') (h : P (f, upd m i 1, upd w i v', upd c i y')) : wpX_fillSlot P (f, m, w, c) x v y :=
  And.intro (ps_in e hi) (nm_r (ps_s e hi ps_b1) (And.intro (ps_in e hi) (nm_r (ps_s e hi hv) (And.intro (ps_in e hi) (nm_r (ps_s e hi hy) h)))))
theorem ya_make {x y : Int32} {i : Nat} (e : x = nI i) (hi : i < 64) (h : P (f, upd m i 1, upd w i 1, upd c i y)) : wpY_make P (f, m, w, c) x y :=
  And.intro (ps_in e hi) (nm_r (ps_s e hi ps_b1) (And.intro (ps_in e hi) (nm_r (ps_s e hi ps_b1) (And.intro (ps_in e hi) (nm_r (ps_s e hi rfl) h)))))
theorem ya_copy {x y : Int32} {i j : Nat} (ex : x = nI i) (hi : i < 64) (ey : y = nI j) (hj : j < 64) (hm : ps_B m) (hw : ps_B w) {t : Int32} (et : m i = t) (h : P (f, upd m j t, upd w j (w i), upd c j (c i))) : wpY_copy P (f, m, w, c) x y := by
  have e1 : vp_nar .boolean (m x.toNatClampNeg) = t := by rw [ps_v (m := m) ex hi, ps_bv (hm i), et]
  have e2 : vp_nar .boolean (w x.toNatClampNeg) = w i := by rw [ps_v (m := w) ex hi, ps_bv (hw i)]
  exact And.intro (ps_in ex hi) (And.intro (ps_in ey hj) (nm_r (ps_s ey hj e1) (And.intro (ps_in ex hi) (And.intro (ps_in ey hj) (nm_r (ps_s ey hj e2) (And.intro (ps_in ex hi) (And.intro (ps_in ey hj) (nm_r (ps_s ey hj (ps_v ex hi)) h))))))))
theorem xa_cl {e : Nat} (he : e ≤ 64) : ∀ d i k t : Nat, i + d = e → t = k + ps_cnt m i d → Q (nI t) → wX_countMapped_5 Q (nI e) f m w c (d + 1) (nI k) (nI i) := by
  intro d
  induction d with
  | zero =>
    intro i k t hi ht h
    have e0 : t = k := ht
    subst e0
    exact br_t (nI_le (by omega) (by omega)) h
  | succ d ih =>
    intro i k t hi ht h
    have h64 : i < 64 := by omega
    refine br_f (nI_ge (by omega) (by omega)) ⟨ps_in rfl h64, ?_⟩
    by_cases z : m i = 0
    · exact br_t (ps_z rfl h64 z) (nm_r (nI_1 i) (ih (i + 1) k t (by omega) (by rw [ps_cnt_f z] at ht; exact ht) h))
    · exact br_f (ps_n rfl h64 z) (nm_r (nI_1 k) (nm_r (nI_1 i) (ih (i + 1) (k + 1) t (by omega) (by rw [ps_cnt_t z] at ht; omega) h)))
theorem xa_cm {x y : Int32} (a d : Nat) (ex : x = nI a) (ey : y = nI (a + d)) (h64 : a + d ≤ 64) (h : Q (nI (ps_cnt m a d))) : wpX_countMapped Q (f, m, w, c) x y := by
  subst ex ey
  exact ⟨d + 1, xa_cl h64 d a 0 _ rfl (Nat.zero_add _).symm h⟩
theorem xa_used (h : Q (nI (ps_cnt m 0 64))) : wpX_used Q (f, m, w, c) := by
  unfold wpX_used
  exact xa_cm 0 64 rfl rfl (by omega) h
theorem xa_free (h : Q (f - nI (ps_cnt m 0 64))) : wpX_freeFrames Q (f, m, w, c) := by
  unfold wpX_freeFrames
  exact xa_cm 0 64 rfl rfl (by omega) h
theorem ya_ul : ∀ d i k t : Nat, i + d = 64 → t = k + ps_cnt m i d → Q (nI t) → wY_used_4 Q f m w c (d + 1) (nI k) (nI i) := by
  intro d
  induction d with
  | zero =>
    intro i k t hi ht h
    have e0 : t = k := ht
    subst e0
    exact br_t (nI_le (a := 64) (by omega) (by omega)) h
  | succ d ih =>
    intro i k t hi ht h
    have h64 : i < 64 := by omega
    refine br_f (nI_ge (b := 64) (by omega) (by omega)) ⟨ps_in rfl h64, ?_⟩
    by_cases z : m i = 0
    · exact br_t (ps_z rfl h64 z) (nm_r (nI_1 i) (ih (i + 1) k t (by omega) (by rw [ps_cnt_f z] at ht; exact ht) h))
    · exact br_f (ps_n rfl h64 z) (nm_r (nI_1 k) (nm_r (nI_1 i) (ih (i + 1) (k + 1) t (by omega) (by rw [ps_cnt_t z] at ht; omega) h)))
theorem ya_used (h : Q (nI (ps_cnt m 0 64))) : wpY_used Q (f, m, w, c) := by
  exact ⟨65, ya_ul 64 0 0 _ rfl (Nat.zero_add _).symm h⟩
theorem ya_ml {s : Nat} (hs : s < 2) : ∀ d p k t : Nat, p + d = 32 → t = k + ps_cnt m (s * 32 + p) d → Q (nI t) → wY_mappedIn_14 Q (nI s) f m w c (d + 1) (nI k) (nI p) := by
  intro d
  induction d with
  | zero =>
    intro p k t hi ht h
    have e0 : t = k := ht
    subst e0
    exact br_t (nI_le (a := 32) (by omega) (by omega)) h
  | succ d ih =>
    intro p k t hi ht h
    have h64 : s * 32 + p < 64 := by omega
    refine br_f (nI_ge (b := 32) (by omega) (by omega)) ⟨ps_in (ps_slot' s p) h64, ?_⟩
    by_cases z : m (s * 32 + p) = 0
    · exact br_t (ps_z (ps_slot' s p) h64 z) (nm_r (nI_1 p) (ih (p + 1) k t (by omega) (by rw [ps_cnt_f z] at ht; exact ht) h))
    · exact br_f (ps_n (ps_slot' s p) h64 z) (nm_r (nI_1 k) (nm_r (nI_1 p) (ih (p + 1) (k + 1) t (by omega) (by rw [ps_cnt_t z] at ht; exact ht.trans (Nat.add_assoc k 1 _).symm) h)))
theorem xa_mappedIn {s : Nat} (hs : s < 2) (h : Q (nI (ps_cnt m (s * 32) 32))) : wpX_mappedIn Q (f, m, w, c) (nI s) := by
  unfold wpX_mappedIn
  exact xa_sp1 hs (br_f (by decide) (xa_sl s 0 (xa_cm (s * 32) 32 rfl (nI_add (s * 32) 32) (by omega) h)))
theorem ya_mappedIn {s : Nat} (hs : s < 2) (h : Q (nI (ps_cnt m (s * 32) 32))) : wpY_mappedIn Q (f, m, w, c) (nI s) := by
  unfold wpY_mappedIn
  exact ya_sp0 hs (br_t rfl ⟨33, ya_ml hs 32 0 0 _ rfl (Nat.zero_add _).symm h⟩)
end
