section
theorem pk_us {f : Nat → Int32} {k : Nat} {x : Int32} : upd f k x k = x := if_pos rfl
theorem pk_un {f : Nat → Int32} {k j : Nat} {x : Int32} (h : j ≠ k) : upd f k x j = f j := if_neg h
theorem pk_sub {a b : Nat} (h : b ≤ a) : nI a - nI b = nI (a - b) := by
  obtain ⟨c, rfl⟩ : ∃ c, a = c + b := ⟨a - b, by omega⟩
  rw [← nI_add, Int32.add_sub_cancel, Nat.add_sub_cancel]
theorem pk_mul (a b : Nat) : nI a * nI b = nI (a * b) := (Int32.ofNat_mul a b).symm
theorem pk_div {a d : Nat} (ha : a < 2 ^ 31) (h0 : 0 < d) (hd : d < 2 ^ 31) : nI a / nI d = nI (a / d) := by
  apply Int32.toInt_inj.mp
  rw [lg_idiv_nonneg (by rw [nI_toInt ha]; omega) (by rw [nI_toInt hd]; omega), nI_toInt ha, nI_toInt hd, nI_toInt (Nat.lt_of_le_of_lt (Nat.div_le_self a d) ha)]
  first | rfl | exact (Int.natCast_ediv _ _).symm
theorem pk_rem {a d : Nat} (ha : a < 2 ^ 31) (h0 : 0 < d) (hd : d < 2 ^ 31) : nI a - nI a / nI d * nI d = nI (a % d) := by
  rw [pk_div ha h0 hd, pk_mul, pk_sub (Nat.div_mul_le_self a d)]
  exact congrArg nI (by have := Nat.div_add_mod' a d; omega)
theorem pk_sub_toInt {a b : Nat} (ha : a < 2 ^ 30) (hb : b < 2 ^ 30) : (nI a - nI b).toInt = (a : Int) - b := by
  rw [Int32.toInt_sub, nI_toInt (by omega), nI_toInt (by omega)]
  exact Int.bmod_eq_of_le (by omega) (by omega)
theorem pk_ix (x : Int32) {n : Nat} (hn : n < 2 ^ 31) : x < 0 ∨ nI n ≤ x ∨ ∃ j : Nat, j < n ∧ x = nI j := by
  by_cases h : x < 0
  · exact Or.inl h
  · obtain ⟨j, hj, rfl⟩ := nI_of h
    by_cases h2 : j < n
    · exact Or.inr (Or.inr ⟨j, h2, rfl⟩)
    · exact Or.inr (Or.inl (nI_le (by omega) hj))
theorem pk_le {x y : Int32} {A B : Prop} (a b : Nat) (f : a ≤ b → A) (g : b < a → B) (hx : x = nI a := by rfl) (hy : y = nI b := by rfl) (ha : a < 2 ^ 31 := by omega) (hb : b < 2 ^ 31 := by omega) : (x ≤ y → A) ∧ (¬ x ≤ y → B) := by
  subst hx hy
  rw [nI_leI ha hb]
  exact ⟨f, fun z => g (by omega)⟩
theorem pk_lt {x y : Int32} {A B : Prop} (a b : Nat) (f : a < b → A) (g : b ≤ a → B) (hx : x = nI a := by rfl) (hy : y = nI b := by rfl) (ha : a < 2 ^ 31 := by omega) (hb : b < 2 ^ 31 := by omega) : (x < y → A) ∧ (¬ x < y → B) := by
  subst hx hy
  rw [nI_ltI ha hb]
  exact ⟨f, fun z => g (by omega)⟩
theorem pk_eq {x y : Int32} {A B : Prop} (a b : Nat) (f : a = b → A) (g : a ≠ b → B) (hx : x = nI a := by rfl) (hy : y = nI b := by rfl) (ha : a < 2 ^ 31 := by omega) (hb : b < 2 ^ 31 := by omega) : (x = y → A) ∧ (¬ x = y → B) := by
  subst hx hy
  rw [nI_eq ha hb]
  exact ⟨f, g⟩
theorem pk_in {x : Int32} (n N : Nat) (h : n < N) (hx : x = nI n := by rfl) (hN : N < 2 ^ 31 := by omega) : vp_in x N := by
  subst hx
  exact vp_in_nI h hN
theorem pk_cl {x : Int32} (n : Nat) (hx : x = nI n := by rfl) (h : n < 2 ^ 31 := by omega) : x.toNatClampNeg = n := by
  subst hx
  exact nI_clamp h
theorem ps_b0 : vp_nar .boolean 0 = 0 := rfl
theorem ps_b1 : vp_nar .boolean 1 = 1 := rfl
theorem ps_bv {x : Int32} (h : x = 0 ∨ x = 1) : vp_nar .boolean x = x := by
  cases h with
  | inl h => subst h; rfl
  | inr h => subst h; rfl
theorem ps_nb {x : Int32} (h : x = 0 ∨ x = 1) : narrow .boolean (.int x) = .int x := by
  cases h with
  | inl h => subst h; rfl
  | inr h => subst h; rfl
theorem ps_us {f : Nat → Int32} {k : Nat} {x : Int32} (h : f k = x) : upd f k x = f := by
  funext j
  show (if j = k then x else f j) = f j
  split
  · next e => rw [e, h]
  · rfl
/-- every cell of a boolean array holds 0 or 1 -/
def ps_B (m : Nat → Int32) : Prop := ∀ i, m i = 0 ∨ m i = 1
theorem ps_B0 : ps_B (fun _ => 0) := fun _ => Or.inl rfl
theorem ps_Bu {m : Nat → Int32} (h : ps_B m) (k : Nat) {x : Int32} (hx : x = 0 ∨ x = 1) : ps_B (upd m k x) := by
  intro j
  show (if j = k then x else m j) = 0 ∨ (if j = k then x else m j) = 1
  split
  · exact hx
  · exact h j
theorem ps_B1 {m : Nat → Int32} (h : ps_B m) {i : Nat} (z : ¬ m i = 0) : m i = 1 := (h i).resolve_left z
/-- how many of the d cells from s on are not 0 -/
def ps_cnt (m : Nat → Int32) : Nat → Nat → Nat
  | _, 0 => 0
  | s, d + 1 => (if m s = 0 then 0 else 1) + ps_cnt m (s + 1) d
theorem ps_cnt_t {m : Nat → Int32} {s d : Nat} (h : ¬ m s = 0) : ps_cnt m s (d + 1) = 1 + ps_cnt m (s + 1) d := by
  rw [ps_cnt, if_neg h]
theorem ps_cnt_f {m : Nat → Int32} {s d : Nat} (h : m s = 0) : ps_cnt m s (d + 1) = ps_cnt m (s + 1) d := by
  rw [ps_cnt, if_pos h, Nat.zero_add]
theorem ps_cnt_le (m : Nat → Int32) : ∀ d s, ps_cnt m s d ≤ d := by
  intro d
  induction d with
  | zero => intro s; exact Nat.le_refl 0
  | succ d ih =>
    intro s
    have h := ih (s + 1)
    by_cases z : m s = 0
    · rw [ps_cnt_f z]; omega
    · rw [ps_cnt_t z]; omega
theorem ps_cnt_u (m : Nat → Int32) (k : Nat) (x : Int32) : ∀ d s, k < s → ps_cnt (upd m k x) s d = ps_cnt m s d := by
  intro d
  induction d with
  | zero => intro s _; rfl
  | succ d ih =>
    intro s h
    rw [ps_cnt, ps_cnt, ih (s + 1) (by omega), pk_un (by omega : s ≠ k)]
theorem ps_le_free {a f n : Nat} (ha : a ≤ 64) (hf : f ≤ 64) (hn : n ≤ 64) : nI a ≤ nI f - nI n ↔ n + a ≤ f := by
  rw [Int32.le_iff_toInt_le, pk_sub_toInt (by omega) (by omega), nI_toInt (by omega)]
  omega
theorem ps_free0 {f n : Nat} (hf : f ≤ 64) (hn : n ≤ 64) : nI f - nI n = 0 ↔ n = f := by
  rw [← Int32.toInt_inj, pk_sub_toInt (by omega) (by omega), show (0 : Int32).toInt = 0 from by decide]
  omega
theorem ps_slot (s p : Nat) : nI s * 32 + nI p = nI (s * 32 + p) := by
  rw [show (32 : Int32) = nI 32 from rfl, pk_mul, nI_add]
theorem ps_slot' (s p : Nat) : 32 * nI s + nI p = nI (s * 32 + p) := by
  rw [show (32 : Int32) = nI 32 from rfl, pk_mul, nI_add, Nat.mul_comm]
/-- no space: it is below 0 or above 1 -/
def ps_NS (x : Int32) : Prop := ¬ x = 0 ∧ ¬ x = 1 ∧ (x < 0 ∨ ¬ x < 0 ∧ ¬ x ≤ 1)
theorem ps_sp (x : Int32) : (∃ s : Nat, s < 2 ∧ x = nI s) ∨ ps_NS x := by
  by_cases h : x < 0
  · refine Or.inr ⟨?_, ?_, Or.inl h⟩
    · intro e; subst e; exact absurd h (by decide)
    · intro e; subst e; exact absurd h (by decide)
  · obtain ⟨j, hj, rfl⟩ := nI_of h
    by_cases h2 : j < 2
    · exact Or.inl ⟨j, h2, rfl⟩
    · refine Or.inr ⟨nI_ne0 (by omega) hj, ?_, Or.inr ⟨h, nI_ge (b := j) (a := 1) (by omega) hj⟩⟩
      intro e
      exact absurd ((nI_eq (a := j) (b := 1) hj (by omega)).mp e) (by omega)
/-- no page: it is below 0 or above 31 -/
def ps_NP (x : Int32) : Prop := x < 0 ∨ ¬ x < 0 ∧ ¬ x ≤ 31 ∧ 32 ≤ x
theorem ps_pg (x : Int32) : (∃ p : Nat, p < 32 ∧ x = nI p) ∨ ps_NP x := by
  by_cases h : x < 0
  · exact Or.inr (Or.inl h)
  · obtain ⟨j, hj, rfl⟩ := nI_of h
    by_cases h2 : j < 32
    · exact Or.inl ⟨j, h2, rfl⟩
    · exact Or.inr (Or.inr ⟨h, nI_ge (b := j) (a := 31) (by omega) hj, nI_le (a := 32) (b := j) (by omega) hj⟩)
/-- no range of pages -/
def ps_NR (p c : Int32) : Prop := c < 1 ∨ (¬ c < 1 ∧ ¬ c ≤ 32 ∧ 32 < c) ∨ (¬ c < 1 ∧ c ≤ 32 ∧ ¬ 32 < c ∧ (p < 0 ∨ ¬ p < 0 ∧ ¬ p ≤ 32 - c ∧ 32 - c < p))
theorem ps_32 {b : Nat} (h : b ≤ 32) : 32 - nI b = nI (32 - b) := pk_sub (a := 32) h
theorem ps_rg (p c : Int32) : (∃ a b : Nat, 1 ≤ b ∧ a + b ≤ 32 ∧ p = nI a ∧ c = nI b) ∨ ps_NR p c := by
  by_cases h1 : c < 1
  · exact Or.inr (Or.inl h1)
  · by_cases h2 : c ≤ 32
    · have h0 : ¬ c < 0 := fun z => h1 (Int32.lt_of_lt_of_le z (by decide))
      have h2' : ¬ 32 < c := Int32.not_lt.mpr h2
      obtain ⟨b, hb, rfl⟩ := nI_of h0
      have hb1 : 1 ≤ b := by
        have : ¬ b < 1 := fun z => h1 ((nI_ltI (a := b) (b := 1) hb (by omega)).mpr z)
        omega
      have hb2 : b ≤ 32 := (nI_leI (a := b) (b := 32) hb (by omega)).mp h2
      by_cases h3 : p < 0
      · exact Or.inr (Or.inr (Or.inr ⟨h1, h2, h2', Or.inl h3⟩))
      · by_cases h4 : p ≤ 32 - nI b
        · obtain ⟨a, ha, rfl⟩ := nI_of h3
          rw [ps_32 hb2, nI_leI ha (by omega)] at h4
          exact Or.inl ⟨a, b, hb1, by omega, rfl, rfl⟩
        · exact Or.inr (Or.inr (Or.inr ⟨h1, h2, h2', Or.inr ⟨h3, h4, Int32.not_le.mp h4⟩⟩))
    · exact Or.inr (Or.inr (Or.inl ⟨h1, h2, Int32.not_le.mp h2⟩))
theorem ps_in {x : Int32} {i : Nat} (e : x = nI i) (hi : i < 64) : vp_in x 64 := by
  subst e
  exact vp_in_nI hi (by omega)
theorem ps_v {x : Int32} {i : Nat} {m : Nat → Int32} (e : x = nI i) (hi : i < 64) : m x.toNatClampNeg = m i := by
  subst e
  rw [nI_clamp (by omega)]
theorem ps_z {x : Int32} {i : Nat} {m : Nat → Int32} (e : x = nI i) (hi : i < 64) (z : m i = 0) : m x.toNatClampNeg = 0 := (ps_v e hi).trans z
theorem ps_n {x : Int32} {i : Nat} {m : Nat → Int32} (e : x = nI i) (hi : i < 64) (z : ¬ m i = 0) : ¬ m x.toNatClampNeg = 0 := fun y => z ((ps_v e hi).symm.trans y)
theorem ps_s {x y y' : Int32} {i : Nat} {m : Nat → Int32} (e : x = nI i) (hi : i < 64) (hy : y = y') : upd m x.toNatClampNeg y = upd m i y' := by
  subst e hy
  rw [nI_clamp (by omega)]
theorem ps_yle {a b p : Nat} (h : a + b ≤ p) (hp : p < 2 ^ 31) : nI a + nI b ≤ nI p := by
  rw [nI_add]
  exact nI_le h hp
theorem ps_ynle {a b p : Nat} (h : p < a + b) (hb : a + b < 2 ^ 31) : ¬ nI a + nI b ≤ nI p := by
  rw [nI_add]
  exact nI_ge h hb
end
section
section
variable {Q : Int32 → Prop} {P : SX → Prop} {f : Int32} {m w c : Nat → Int32}
theorem xa_sp0 {x : Int32} (b : ps_NS x) (h : Q 0) : wpX_isSpace Q x := br_f b.1 (br_f b.2.1 h)
theorem xa_sp1 {s : Nat} (hs : s < 2) (h : Q 1) : wpX_isSpace Q (nI s) := by
  by_cases z : s = 0
  · subst z
    exact br_t rfl h
  · have e : s = 1 := by omega
    subst e
    exact br_f (by decide) (br_t rfl h)
theorem ya_sp1 {x : Int32} (b : ps_NS x) (h : Q 1) : wpY_badSpace Q (f, m, w, c) x :=
  b.2.2.elim (fun z => br_t z h) (fun z => br_f z.1 (br_f z.2 h))
theorem ya_sp0 {s : Nat} (hs : s < 2) (h : Q 0) : wpY_badSpace Q (f, m, w, c) (nI s) :=
  br_f (nI_pos (by omega)) (br_t (nI_le (b := 1) (by omega) (by omega)) h)
theorem xa_pg0 {x : Int32} (b : ps_NP x) (h : Q 0) : wpX_isPage Q x :=
  b.elim (fun z => br_t z h) (fun z => br_f z.1 (br_t z.2.2 h))
theorem xa_pg1 {p : Nat} (hp : p < 32) (h : Q 1) : wpX_isPage Q (nI p) :=
  br_f (nI_pos (by omega)) (br_f (nI_ge (b := 32) hp (by omega)) h)
theorem ya_pg1 {x : Int32} (b : ps_NP x) (h : Q 1) : wpY_badPage Q (f, m, w, c) x :=
  b.elim (fun z => br_t z h) (fun z => br_f z.1 (br_f z.2.1 h))
theorem ya_pg0 {p : Nat} (hp : p < 32) (h : Q 0) : wpY_badPage Q (f, m, w, c) (nI p) :=
  br_f (nI_pos (by omega)) (br_t (nI_le (b := 31) (by omega) (by omega)) h)
theorem xa_gr0 {x y : Int32} (b : ps_NR x y) (h : Q 0) : wpX_isGoodRange Q x y :=
  b.elim (fun z => br_t z h) (fun z => z.elim (fun z => br_f z.1 (br_t z.2.2 h))
    (fun z => br_f z.1 (br_f z.2.2.1 (z.2.2.2.elim (fun z => br_t z h) (fun z => br_f z.1 (br_t z.2.2 h))))))
theorem xa_gr1 {a b : Nat} (h1 : 1 ≤ b) (h2 : a + b ≤ 32) (h : Q 1) : wpX_isGoodRange Q (nI a) (nI b) := by
  refine br_f (nI_nlt (b := 1) h1 (by omega)) (br_f (nI_nlt (a := 32) (by omega) (by omega)) (br_f (nI_pos (by omega)) (br_f ?_ h)))
  rw [ps_32 (by omega)]
  exact nI_nlt (by omega) (by omega)
theorem ya_br1 {x y : Int32} (b : ps_NR x y) (h : Q 1) : wpY_badRange Q (f, m, w, c) x y :=
  b.elim (fun z => br_t z h) (fun z => z.elim (fun z => br_f z.1 (br_f z.2.1 h))
    (fun z => br_f z.1 (br_t z.2.1 (z.2.2.2.elim (fun z => br_t z h) (fun z => br_f z.1 (br_f z.2.1 h))))))
theorem ya_br0 {a b : Nat} (h1 : 1 ≤ b) (h2 : a + b ≤ 32) (h : Q 0) : wpY_badRange Q (f, m, w, c) (nI a) (nI b) := by
  refine br_f (nI_nlt (b := 1) h1 (by omega)) (br_t (nI_le (b := 32) (by omega) (by omega)) (br_f (nI_pos (by omega)) (br_t ?_ h)))
  rw [ps_32 (by omega)]
  exact nI_le (by omega) (by omega)
theorem xa_rp_1 {x y : Int32} (b : ps_NS x) (h : Q (-1)) : wpX_refusalOfPage Q x y := by
  unfold wpX_refusalOfPage
  exact xa_sp0 b (br_t rfl h)
theorem xa_rp_2 {s : Nat} {y : Int32} (hs : s < 2) (b : ps_NP y) (h : Q (-2)) : wpX_refusalOfPage Q (nI s) y := by
  unfold wpX_refusalOfPage
  exact xa_sp1 hs (br_f (by decide) (xa_pg0 b (br_t rfl h)))
theorem xa_rp_0 {s p : Nat} (hs : s < 2) (hp : p < 32) (h : Q 0) : wpX_refusalOfPage Q (nI s) (nI p) := by
  unfold wpX_refusalOfPage
  exact xa_sp1 hs (br_f (by decide) (xa_pg1 hp (br_f (by decide) h)))
theorem xa_rr_1 {x y z : Int32} (b : ps_NS x) (h : Q (-1)) : wpX_refusalOfRange Q x y z := by
  unfold wpX_refusalOfRange
  exact xa_sp0 b (br_t rfl h)
theorem xa_rr_2 {s : Nat} {y z : Int32} (hs : s < 2) (b : ps_NR y z) (h : Q (-2)) : wpX_refusalOfRange Q (nI s) y z := by
  unfold wpX_refusalOfRange
  exact xa_sp1 hs (br_f (by decide) (xa_gr0 b (br_t rfl h)))
theorem xa_rr_0 {s a b : Nat} (hs : s < 2) (h1 : 1 ≤ b) (h2 : a + b ≤ 32) (h : Q 0) : wpX_refusalOfRange Q (nI s) (nI a) (nI b) := by
  unfold wpX_refusalOfRange
  exact xa_sp1 hs (br_f (by decide) (xa_gr1 h1 h2 (br_f (by decide) h)))
theorem xa_sl (s p : Nat) (h : Q (nI (s * 32 + p))) : wpX_slotOf Q (nI s) (nI p) := by
  unfold wpX_slotOf
  rw [ps_slot]
  exact h
theorem xa_sl3 {x y : Int32} {i : Nat} (e : x * 32 + y = nI i) (h : Q (nI i)) : wpX_slotOf Q x y := by
  unfold wpX_slotOf
  rw [e]
  exact h
theorem xa_fill {x v v' y y' : Int32} {i : Nat} (e : x = nI i) (hi : i < 64) (hv : vp_nar .boolean v = v') (hy : y = y') (h : P (f, upd m i 1, upd w i v', upd c i y')) : wpX_fillSlot P (f, m, w, c) x v y :=
  And.intro (ps_in e hi) (nm_r (ps_s e hi ps_b1) (And.intro (ps_in e hi) (nm_r (ps_s e hi hv) (And.intro (ps_in e hi) (nm_r (ps_s e hi hy) h)))))
theorem ya_make {x y : Int32} {i : Nat} (e : x = nI i) (hi : i < 64) (h : P (f, upd m i 1, upd w i 1, upd c i y)) : wpY_make P (f, m, w, c) x y :=
  And.intro (ps_in e hi) (nm_r (ps_s e hi ps_b1) (And.intro (ps_in e hi) (nm_r (ps_s e hi ps_b1) (And.intro (ps_in e hi) (nm_r (ps_s e hi rfl) h)))))
theorem ya_copy {x y : Int32} {i j : Nat} (ex : x = nI i) (hi : i < 64) (ey : y = nI j) (hj : j < 64) (hm : ps_B m) (hw : ps_B w) {t : Int32} (et : m i = t) (h : P (f, upd m j t, upd w j (w i), upd c j (c i))) : wpY_copy P (f, m, w, c) x y := by
  have e1 : vp_nar .boolean (m x.toNatClampNeg) = t := by rw [ps_v (m := m) ex hi, ps_bv (hm i), et]
  have e2 : vp_nar .boolean (w x.toNatClampNeg) = w i := by rw [ps_v (m := w) ex hi, ps_bv (hw i)]
  exact And.intro (ps_in ex hi) (And.intro (ps_in ey hj) (nm_r (ps_s ey hj e1) (And.intro (ps_in ex hi) (And.intro (ps_in ey hj) (nm_r (ps_s ey hj e2) (And.intro (ps_in ex hi) (And.intro (ps_in ey hj) (nm_r (ps_s ey hj (ps_v ex hi)) h))))))))
theorem xa_cl {e : Nat} (he : e ≤ 64) : ∀ d i k t : Nat, i + d = e → t = k + ps_cnt m i d → Q (nI t) → wX_countMapped_5 Q (nI e) f m w c (d + 1) (nI k) (nI i) := by
  intro d
  induction d with
  | zero =>
    intro i k t hi ht h
    have e0 : t = k := ht
    subst e0
    exact br_t (nI_le (by omega) (by omega)) h
  | succ d ih =>
    intro i k t hi ht h
    have h64 : i < 64 := by omega
    refine br_f (nI_ge (by omega) (by omega)) ⟨ps_in rfl h64, ?_⟩
    by_cases z : m i = 0
    · exact br_t (ps_z rfl h64 z) (nm_r (nI_1 i) (ih (i + 1) k t (by omega) (by rw [ps_cnt_f z] at ht; exact ht) h))
    · exact br_f (ps_n rfl h64 z) (nm_r (nI_1 k) (nm_r (nI_1 i) (ih (i + 1) (k + 1) t (by omega) (by rw [ps_cnt_t z] at ht; omega) h)))
theorem xa_cm {x y : Int32} (a d : Nat) (ex : x = nI a) (ey : y = nI (a + d)) (h64 : a + d ≤ 64) (h : Q (nI (ps_cnt m a d))) : wpX_countMapped Q (f, m, w, c) x y := by
  subst ex ey
  exact ⟨d + 1, xa_cl h64 d a 0 _ rfl (Nat.zero_add _).symm h⟩
theorem xa_used (h : Q (nI (ps_cnt m 0 64))) : wpX_used Q (f, m, w, c) := by
  unfold wpX_used
  exact xa_cm 0 64 rfl rfl (by omega) h
theorem xa_free (h : Q (f - nI (ps_cnt m 0 64))) : wpX_freeFrames Q (f, m, w, c) := by
  unfold wpX_freeFrames
  exact xa_cm 0 64 rfl rfl (by omega) h
theorem ya_ul : ∀ d i k t : Nat, i + d = 64 → t = k + ps_cnt m i d → Q (nI t) → wY_used_4 Q f m w c (d + 1) (nI k) (nI i) := by
  intro d
  induction d with
  | zero =>
    intro i k t hi ht h
    have e0 : t = k := ht
    subst e0
    exact br_t (nI_le (a := 64) (by omega) (by omega)) h
  | succ d ih =>
    intro i k t hi ht h
    have h64 : i < 64 := by omega
    refine br_f (nI_ge (b := 64) (by omega) (by omega)) ⟨ps_in rfl h64, ?_⟩
    by_cases z : m i = 0
    · exact br_t (ps_z rfl h64 z) (nm_r (nI_1 i) (ih (i + 1) k t (by omega) (by rw [ps_cnt_f z] at ht; exact ht) h))
    · exact br_f (ps_n rfl h64 z) (nm_r (nI_1 k) (nm_r (nI_1 i) (ih (i + 1) (k + 1) t (by omega) (by rw [ps_cnt_t z] at ht; omega) h)))
theorem ya_used (h : Q (nI (ps_cnt m 0 64))) : wpY_used Q (f, m, w, c) := by
  exact ⟨65, ya_ul 64 0 0 _ rfl (Nat.zero_add _).symm h⟩
theorem ya_ml {s : Nat} (hs : s < 2) : ∀ d p k t : Nat, p + d = 32 → t = k + ps_cnt m (s * 32 + p) d → Q (nI t) → wY_mappedIn_14 Q (nI s) f m w c (d + 1) (nI k) (nI p) := by
  intro d
  induction d with
  | zero =>
    intro p k t hi ht h
    have e0 : t = k := ht
    subst e0
    exact br_t (nI_le (a := 32) (by omega) (by omega)) h
  | succ d ih =>
    intro p k t hi ht h
    have h64 : s * 32 + p < 64 := by omega
    refine br_f (nI_ge (b := 32) (by omega) (by omega)) ⟨ps_in (ps_slot' s p) h64, ?_⟩
    by_cases z : m (s * 32 + p) = 0
    · exact br_t (ps_z (ps_slot' s p) h64 z) (nm_r (nI_1 p) (ih (p + 1) k t (by omega) (by rw [ps_cnt_f z] at ht; exact ht) h))
    · exact br_f (ps_n (ps_slot' s p) h64 z) (nm_r (nI_1 k) (nm_r (nI_1 p) (ih (p + 1) (k + 1) t (by omega) (by rw [ps_cnt_t z] at ht; exact ht.trans (Nat.add_assoc k 1 _).symm) h)))
theorem xa_mappedIn {s : Nat} (hs : s < 2) (h : Q (nI (ps_cnt m (s * 32) 32))) : wpX_mappedIn Q (f, m, w, c) (nI s) := by
  unfold wpX_mappedIn
  exact xa_sp1 hs (br_f (by decide) (xa_sl s 0 (xa_cm (s * 32) 32 rfl (nI_add (s * 32) 32) (by omega) h)))
theorem ya_mappedIn {s : Nat} (hs : s < 2) (h : Q (nI (ps_cnt m (s * 32) 32))) : wpY_mappedIn Q (f, m, w, c) (nI s) := by
  unfold wpY_mappedIn
  exact ya_sp0 hs (br_t rfl ⟨33, ya_ml hs 32 0 0 _ rfl (Nat.zero_add _).symm h⟩)
end
end
section
section
variable {f : Int32}
/-- map's filling loops, in lockstep -/
theorem ps_mapL {s a b e : Nat} (hs : s < 2) (x : Int32) (hab : a + b ≤ 32) (he : e = s * 32 + (a + b)) : ∀ (d p : Nat) (m w c : Nat → Int32), p + d = a + b → ps_B m → ps_B w →
    ∃ m' w' c' : Nat → Int32, ps_B m' ∧ ps_B w' ∧
      (∀ P : Int32 → SX → Prop, P x (f, m', w', c') → wX_map_57 P (nI e) x (d + 1) (nI (s * 32 + p)) f m w c) ∧
      (∀ P : Int32 → SY → Prop, P x (f, m', w', c') → wY_map_80 P (nI s) (nI a) (nI b) x (d + 1) (nI p) f m w c) := by
  intro d
  induction d with
  | zero =>
    intro p m w c hp hm hw
    exact ⟨m, w, c, hm, hw, fun P h => br_t (nI_le (by omega) (by omega)) h, fun P h => br_t (ps_yle (by omega) (by omega)) h⟩
  | succ d ih =>
    intro p m w c hp hm hw
    have h64 : s * 32 + p < 64 := by omega
    have hX : ¬ nI e ≤ nI (s * 32 + p) := nI_ge (by omega) (by omega)
    have hY : ¬ nI a + nI b ≤ nI p := ps_ynle (by omega) (by omega)
    by_cases z : m (s * 32 + p) = 0
    · obtain ⟨m', w', c', hm', hw', iX, iY⟩ := ih (p + 1) (upd m (s * 32 + p) 1) (upd w (s * 32 + p) 1) (upd c (s * 32 + p) 0) (by omega) (ps_Bu hm _ (Or.inr rfl)) (ps_Bu hw _ (Or.inr rfl))
      exact ⟨m', w', c', hm', hw',
        fun P h => br_f hX ⟨ps_in rfl h64, br_t (ps_z rfl h64 z) (xa_fill rfl h64 ps_b1 rfl (nm_r (nI_1 _) (iX P h)))⟩,
        fun P h => br_f hY ⟨ps_in (ps_slot' s p) h64, br_t (ps_z (ps_slot' s p) h64 z) (ya_make (ps_slot' s p) h64 (nm_r (nI_1 _) (iY P h)))⟩⟩
    · obtain ⟨m', w', c', hm', hw', iX, iY⟩ := ih (p + 1) m w c (by omega) hm hw
      exact ⟨m', w', c', hm', hw',
        fun P h => br_f hX ⟨ps_in rfl h64, br_f (ps_n rfl h64 z) (nm_r (nI_1 _) (iX P h))⟩,
        fun P h => br_f hY ⟨ps_in (ps_slot' s p) h64, br_f (ps_n (ps_slot' s p) h64 z) (nm_r (nI_1 _) (iY P h))⟩⟩
/-- the reference counts what is not there -/
theorem ya_m28 {s a b : Nat} {m w c : Nat → Int32} {P : Int32 → SY → Prop} (hs : s < 2) (hab : a + b ≤ 32) : ∀ d p k t : Nat, p + d = a + b → t + ps_cnt m (s * 32 + p) d = k + d →
    ((nI (ps_cnt m 0 64) + nI t ≤ f → ∃ n : Nat, wY_map_80 P (nI s) (nI a) (nI b) (nI t) n (nI a) f m w c) ∧ (¬ nI (ps_cnt m 0 64) + nI t ≤ f → P (-3) (f, m, w, c))) →
    wY_map_28 P (nI s) (nI a) (nI b) f m w c (d + 1) (nI k) (nI p) := by
  intro d
  induction d with
  | zero =>
    intro p k t hp ht h
    have e0 : t = k := ht
    subst e0
    exact br_t (ps_yle (by omega) (by omega)) (ya_used h)
  | succ d ih =>
    intro p k t hp ht h
    have h64 : s * 32 + p < 64 := by omega
    have hY : ¬ nI a + nI b ≤ nI p := ps_ynle (by omega) (by omega)
    have hc := ps_cnt_le m d (s * 32 + p + 1)
    refine br_f hY ⟨ps_in (ps_slot' s p) h64, ?_⟩
    by_cases z : m (s * 32 + p) = 0
    · rw [ps_cnt_f z] at ht
      exact br_t (ps_z (ps_slot' s p) h64 z) (nm_r (nI_1 k) (nm_r (nI_1 p) (ih (p + 1) (k + 1) t (by omega) (ht.trans (by omega)) h)))
    · rw [ps_cnt_t z] at ht
      have ht' : t + ps_cnt m (s * 32 + p + 1) d = k + d := by omega
      exact br_f (ps_n (ps_slot' s p) h64 z) (nm_r (nI_1 p) (ih (p + 1) k t (by omega) ht' h))
/-- unmap's loops, in lockstep; the reference counts as it goes -/
theorem ps_unL {s a b e : Nat} {w c : Nat → Int32} (hs : s < 2) (x : Int32) (hab : a + b ≤ 32) (he : e = s * 32 + (a + b)) : ∀ (d p k t : Nat) (m : Nat → Int32), p + d = a + b → t = k + ps_cnt m (s * 32 + p) d → ps_B m →
    ∃ m' : Nat → Int32, ps_B m' ∧
      (∀ P : Int32 → SX → Prop, P x (f, m', w, c) → wX_unmap_43 P (nI e) x f (d + 1) (nI (s * 32 + p)) m w c) ∧
      (∀ P : Int32 → SY → Prop, P (nI t) (f, m', w, c) → wY_unmap_28 P (nI s) (nI a) (nI b) f (d + 1) (nI k) (nI p) m w c) := by
  intro d
  induction d with
  | zero =>
    intro p k t m hp ht hm
    have e0 : t = k := ht
    subst e0
    exact ⟨m, hm, fun P h => br_t (nI_le (by omega) (by omega)) h, fun P h => br_t (ps_yle (by omega) (by omega)) h⟩
  | succ d ih =>
    intro p k t m hp ht hm
    have h64 : s * 32 + p < 64 := by omega
    have hX : ¬ nI e ≤ nI (s * 32 + p) := nI_ge (by omega) (by omega)
    have hY : ¬ nI a + nI b ≤ nI p := ps_ynle (by omega) (by omega)
    have hu : ps_cnt (upd m (s * 32 + p) 0) (s * 32 + p + 1) d = ps_cnt m (s * 32 + p + 1) d := ps_cnt_u m _ 0 d _ (by omega)
    by_cases z : m (s * 32 + p) = 0
    · rw [ps_cnt_f z, ← hu] at ht
      obtain ⟨m', hm', iX, iY⟩ := ih (p + 1) k t (upd m (s * 32 + p) 0) (by omega) ht (ps_Bu hm _ (Or.inl rfl))
      exact ⟨m', hm',
        fun P h => br_f hX ⟨ps_in rfl h64, nm_r (ps_s rfl h64 ps_b0) (nm_r (nI_1 _) (iX P h))⟩,
        fun P h => br_f hY ⟨ps_in (ps_slot' s p) h64, br_t (ps_z (ps_slot' s p) h64 z) (And.intro (ps_in (ps_slot' s p) h64) (nm_r (ps_s (ps_slot' s p) h64 ps_b0) (nm_r (nI_1 _) (iY P h))))⟩⟩
    · rw [ps_cnt_t z, ← hu, ← Nat.add_assoc] at ht
      obtain ⟨m', hm', iX, iY⟩ := ih (p + 1) (k + 1) t (upd m (s * 32 + p) 0) (by omega) ht (ps_Bu hm _ (Or.inl rfl))
      exact ⟨m', hm',
        fun P h => br_f hX ⟨ps_in rfl h64, nm_r (ps_s rfl h64 ps_b0) (nm_r (nI_1 _) (iX P h))⟩,
        fun P h => br_f hY ⟨ps_in (ps_slot' s p) h64, br_f (ps_n (ps_slot' s p) h64 z) (nm_r (nI_1 k) (And.intro (ps_in (ps_slot' s p) h64) (nm_r (ps_s (ps_slot' s p) h64 ps_b0) (nm_r (nI_1 _) (iY P h)))))⟩⟩
/-- protect's loops, in lockstep -/
theorem ps_prL {s a b e : Nat} {m c : Nat → Int32} {g : Int32} (hs : s < 2) (hg : g = 0 ∨ g = 1) (hab : a + b ≤ 32) (he : e = s * 32 + (a + b)) : ∀ (d p : Nat) (k : Int32) (w : Nat → Int32), p + d = a + b → ps_B w →
    ∃ (r : Int32) (w' : Nat → Int32), ps_B w' ∧
      (∀ P : Int32 → SX → Prop, P r (f, m, w', c) → wX_protect_48 P g (nI e) f (d + 1) k (nI (s * 32 + p)) m w c) ∧
      (∀ P : Int32 → SY → Prop, P r (f, m, w', c) → wY_protect_40 P (nI s) (nI a) (nI b) g f (d + 1) k (nI p) m w c) := by
  intro d
  induction d with
  | zero =>
    intro p k w hp hw
    exact ⟨k, w, hw, fun P h => br_t (nI_le (by omega) (by omega)) h, fun P h => br_t (ps_yle (by omega) (by omega)) h⟩
  | succ d ih =>
    intro p k w hp hw
    have h64 : s * 32 + p < 64 := by omega
    have hX : ¬ nI e ≤ nI (s * 32 + p) := nI_ge (by omega) (by omega)
    have hY : ¬ nI a + nI b ≤ nI p := ps_ynle (by omega) (by omega)
    have hv : w (nI (s * 32 + p)).toNatClampNeg = w (s * 32 + p) := ps_v rfl h64
    by_cases z : m (s * 32 + p) = 0
    · obtain ⟨r, w', hw', iX, iY⟩ := ih (p + 1) k w (by omega) hw
      exact ⟨r, w', hw',
        fun P h => br_f hX ⟨ps_in rfl h64, br_t (ps_z rfl h64 z) (nm_r (nI_1 _) (iX P h))⟩,
        fun P h => br_f hY (nm_r (ps_slot' s p) ⟨ps_in rfl h64, br_t (ps_z rfl h64 z) (nm_r (nI_1 _) (iY P h))⟩)⟩
    · by_cases y : w (s * 32 + p) = g
      · obtain ⟨r, w', hw', iX, iY⟩ := ih (p + 1) k w (by omega) hw
        exact ⟨r, w', hw',
          fun P h => br_f hX ⟨ps_in rfl h64, br_f (ps_n rfl h64 z) ⟨ps_in rfl h64, br_t (hv.trans y) (nm_r (nI_1 _) (iX P h))⟩⟩,
          fun P h => br_f hY (nm_r (ps_slot' s p) ⟨ps_in rfl h64, br_f (ps_n rfl h64 z) ⟨ps_in rfl h64, br_t (hv.trans y) (nm_r (nI_1 _) (iY P h))⟩⟩)⟩
      · obtain ⟨r, w', hw', iX, iY⟩ := ih (p + 1) (k + 1) (upd w (s * 32 + p) g) (by omega) (ps_Bu hw _ hg)
        have y' : ¬ w (nI (s * 32 + p)).toNatClampNeg = g := fun q => y (hv.symm.trans q)
        exact ⟨r, w', hw',
          fun P h => br_f hX ⟨ps_in rfl h64, br_f (ps_n rfl h64 z) ⟨ps_in rfl h64, br_f y' ⟨ps_in rfl h64, nm_r (ps_s rfl h64 (ps_bv hg)) (nm_e (nm_r (nI_1 _) (iX P h)))⟩⟩⟩,
          fun P h => br_f hY (nm_r (ps_slot' s p) ⟨ps_in rfl h64, br_f (ps_n rfl h64 z) ⟨ps_in rfl h64, br_f y' ⟨ps_in rfl h64, nm_r (ps_s rfl h64 (ps_bv hg)) (nm_e (nm_r (nI_1 _) (iY P h)))⟩⟩⟩)⟩
/-- stamp's loops, in lockstep -/
theorem ps_stL {s a b e : Nat} {m w : Nat → Int32} {v : Int32} (hs : s < 2) (hab : a + b ≤ 32) (he : e = s * 32 + (a + b)) : ∀ (d p : Nat) (k : Int32) (c : Nat → Int32), p + d = a + b →
    ∃ (r : Int32) (c' : Nat → Int32),
      (∀ P : Int32 → SX → Prop, P r (f, m, w, c') → wX_stamp_60 P v (nI e) f (d + 1) k (nI (s * 32 + p)) m w c) ∧
      (∀ P : Int32 → SY → Prop, P r (f, m, w, c') → wY_stamp_50 P (nI s) v (nI a) (nI b) f (d + 1) k (nI p) m w c) := by
  intro d
  induction d with
  | zero =>
    intro p k c hp
    exact ⟨k, c, fun P h => br_t (nI_le (by omega) (by omega)) h, fun P h => br_t (ps_yle (by omega) (by omega)) h⟩
  | succ d ih =>
    intro p k c hp
    have h64 : s * 32 + p < 64 := by omega
    have hX : ¬ nI e ≤ nI (s * 32 + p) := nI_ge (by omega) (by omega)
    have hY : ¬ nI a + nI b ≤ nI p := ps_ynle (by omega) (by omega)
    by_cases z : m (s * 32 + p) = 0
    · obtain ⟨r, c', iX, iY⟩ := ih (p + 1) k c (by omega)
      exact ⟨r, c',
        fun P h => br_f hX ⟨ps_in rfl h64, br_t (ps_z rfl h64 z) (nm_r (nI_1 _) (iX P h))⟩,
        fun P h => br_f hY (nm_r (ps_slot' s p) ⟨ps_in rfl h64, br_t (ps_z rfl h64 z) (nm_r (nI_1 _) (iY P h))⟩)⟩
    · obtain ⟨r, c', iX, iY⟩ := ih (p + 1) (k + 1) (upd c (s * 32 + p) (v + k)) (by omega)
      exact ⟨r, c',
        fun P h => br_f hX ⟨ps_in rfl h64, br_f (ps_n rfl h64 z) ⟨ps_in rfl h64, nm_r (ps_s rfl h64 rfl) (nm_e (nm_r (nI_1 _) (iX P h)))⟩⟩,
        fun P h => br_f hY (nm_r (ps_slot' s p) ⟨ps_in rfl h64, br_f (ps_n rfl h64 z) ⟨ps_in rfl h64, nm_r (ps_s rfl h64 rfl) (nm_e (nm_r (nI_1 _) (iY P h)))⟩⟩)⟩
/-- sum's loops, in lockstep -/
theorem ps_suL {s e : Nat} {m w c : Nat → Int32} (hs : s < 2) (he : e = s * 32 + 32) : ∀ (d p : Nat) (k : Int32), p + d = 32 →
    ∃ r : Int32,
      (∀ Q : Int32 → Prop, Q r → wX_sum_26 Q (nI e) f m w c (d + 1) k (nI (s * 32 + p))) ∧
      (∀ Q : Int32 → Prop, Q r → wY_sum_14 Q (nI s) f m w c (d + 1) k (nI p)) := by
  intro d
  induction d with
  | zero =>
    intro p k hp
    exact ⟨k, fun Q h => br_t (nI_le (by omega) (by omega)) h, fun Q h => br_t (nI_le (a := 32) (by omega) (by omega)) h⟩
  | succ d ih =>
    intro p k hp
    have h64 : s * 32 + p < 64 := by omega
    have hX : ¬ nI e ≤ nI (s * 32 + p) := nI_ge (by omega) (by omega)
    have hY : ¬ (32 : Int32) ≤ nI p := nI_ge (b := 32) (by omega) (by omega)
    by_cases z : m (s * 32 + p) = 0
    · obtain ⟨r, iX, iY⟩ := ih (p + 1) k (by omega)
      exact ⟨r,
        fun Q h => br_f hX ⟨ps_in rfl h64, br_t (ps_z rfl h64 z) (nm_r (nI_1 _) (iX Q h))⟩,
        fun Q h => br_f hY ⟨ps_in (ps_slot' s p) h64, br_t (ps_z (ps_slot' s p) h64 z) (nm_r (nI_1 _) (iY Q h))⟩⟩
    · obtain ⟨r, iX, iY⟩ := ih (p + 1) (k + c (s * 32 + p)) (by omega)
      exact ⟨r,
        fun Q h => br_f hX ⟨ps_in rfl h64, br_f (ps_n rfl h64 z) ⟨ps_in rfl h64, nm_r (congrArg (k + ·) (ps_v rfl h64)) (nm_r (nI_1 _) (iX Q h))⟩⟩,
        fun Q h => br_f hY ⟨ps_in (ps_slot' s p) h64, br_f (ps_n (ps_slot' s p) h64 z) ⟨ps_in (ps_slot' s p) h64, nm_r (congrArg (k + ·) (ps_v (ps_slot' s p) h64)) (nm_r (nI_1 _) (iY Q h))⟩⟩⟩
/-- nextMapped's loops, in lockstep -/
theorem ps_nxL {s : Nat} {m w c : Nat → Int32} (hs : s < 2) : ∀ (d p : Nat), p + d = 32 →
    ∃ r : Int32,
      (∀ Q : Int32 → Prop, Q r → wX_nextMapped_15 Q (nI s) f m w c (d + 1) (nI p)) ∧
      (∀ Q : Int32 → Prop, Q r → wY_nextMapped_23 Q (nI s) f m w c (d + 1) (nI p)) := by
  intro d
  induction d with
  | zero =>
    intro p hp
    exact ⟨-3, fun Q h => br_t (nI_le (a := 32) (by omega) (by omega)) h, fun Q h => br_t (nI_le (a := 32) (by omega) (by omega)) h⟩
  | succ d ih =>
    intro p hp
    have h64 : s * 32 + p < 64 := by omega
    have hY : ¬ (32 : Int32) ≤ nI p := nI_ge (b := 32) (by omega) (by omega)
    by_cases z : m (s * 32 + p) = 0
    · obtain ⟨r, iX, iY⟩ := ih (p + 1) (by omega)
      exact ⟨r,
        fun Q h => br_f hY (xa_sl s p ⟨ps_in rfl h64, br_t (ps_z rfl h64 z) (nm_r (nI_1 _) (iX Q h))⟩),
        fun Q h => br_f hY ⟨ps_in (ps_slot' s p) h64, br_t (ps_z (ps_slot' s p) h64 z) (nm_r (nI_1 _) (iY Q h))⟩⟩
    · exact ⟨nI p,
        fun Q h => br_f hY (xa_sl s p ⟨ps_in rfl h64, br_f (ps_n rfl h64 z) h⟩),
        fun Q h => br_f hY ⟨ps_in (ps_slot' s p) h64, br_f (ps_n (ps_slot' s p) h64 z) h⟩⟩
end
end
section
section
variable {f : Int32} {m w c : Nat → Int32}
theorem ps_map {F s a b : Nat} (hF : F ≤ 48) (hs : s < 2) (h1 : 1 ≤ b) (hab : a + b ≤ 32) (hm : ps_B m) (hw : ps_B w) :
    ∃ (r : Int32) (m' w' c' : Nat → Int32), ps_B m' ∧ ps_B w' ∧
      (∀ P : Int32 → SX → Prop, P r (nI F, m', w', c') → wpX_map P (nI F, m, w, c) (nI s) (nI a) (nI b)) ∧
      (∀ P : Int32 → SY → Prop, P r (nI F, m', w', c') → wpY_map P (nI F, m, w, c) (nI s) (nI a) (nI b)) := by
  have hc := ps_cnt_le m b (s * 32 + a)
  have hU := ps_cnt_le m 64 0
  have ht : (b - ps_cnt m (s * 32 + a) b) + ps_cnt m (s * 32 + a) b = 0 + b := by omega
  have hx : nI b - nI (ps_cnt m (s * 32 + a) b) = nI (b - ps_cnt m (s * 32 + a) b) := pk_sub hc
  have ht64 : b - ps_cnt m (s * 32 + a) b ≤ 64 := by omega
  generalize b - ps_cnt m (s * 32 + a) b = t at ht hx ht64
  by_cases hf : ps_cnt m 0 64 + t ≤ F
  · obtain ⟨m', w', c', hm', hw', iX, iY⟩ := ps_mapL (f := nI F) (e := s * 32 + a + b) hs (nI t) hab (by omega) b a m w c rfl hm hw
    refine ⟨nI t, m', w', c', hm', hw', ?_, ?_⟩
    · intro P h
      unfold wpX_map
      exact xa_rr_0 hs h1 hab (br_t rfl (xa_sl s a (nm_r (nI_add _ _) (xa_cm (s * 32 + a) b rfl rfl (by omega) (nm_r hx (xa_free (br_t ((ps_le_free ht64 (by omega) hU).mpr hf) ⟨_, iX P h⟩)))))))
    · intro P h
      unfold wpY_map
      exact ya_sp0 hs (br_t rfl (ya_br0 h1 hab (br_t rfl ⟨b + 1, ya_m28 hs hab b a 0 t rfl ht (br_t (ps_yle hf (by omega)) ⟨_, iY P h⟩)⟩)))
  · refine ⟨-3, m, w, c, hm, hw, ?_, ?_⟩
    · intro P h
      unfold wpX_map
      exact xa_rr_0 hs h1 hab (br_t rfl (xa_sl s a (nm_r (nI_add _ _) (xa_cm (s * 32 + a) b rfl rfl (by omega) (nm_r hx (xa_free (br_f (fun z => hf ((ps_le_free ht64 (by omega) hU).mp z)) h)))))))
    · intro P h
      unfold wpY_map
      exact ya_sp0 hs (br_t rfl (ya_br0 h1 hab (br_t rfl ⟨b + 1, ya_m28 hs hab b a 0 t rfl ht (br_f (ps_ynle (by omega) (by omega)) h)⟩)))
theorem ps_unmap {s a b : Nat} (hs : s < 2) (h1 : 1 ≤ b) (hab : a + b ≤ 32) (hm : ps_B m) :
    ∃ (r : Int32) (m' : Nat → Int32), ps_B m' ∧
      (∀ P : Int32 → SX → Prop, P r (f, m', w, c) → wpX_unmap P (f, m, w, c) (nI s) (nI a) (nI b)) ∧
      (∀ P : Int32 → SY → Prop, P r (f, m', w, c) → wpY_unmap P (f, m, w, c) (nI s) (nI a) (nI b)) := by
  obtain ⟨m', hm', iX, iY⟩ := ps_unL (f := f) (w := w) (c := c) (e := s * 32 + a + b) hs (nI (ps_cnt m (s * 32 + a) b)) hab (by omega) b a 0 _ m rfl (Nat.zero_add _).symm hm
  refine ⟨nI (ps_cnt m (s * 32 + a) b), m', hm', ?_, ?_⟩
  · intro P h
    unfold wpX_unmap
    exact xa_rr_0 hs h1 hab (br_t rfl (xa_sl s a (nm_r (nI_add _ _) (xa_cm (s * 32 + a) b rfl rfl (by omega) ⟨_, iX P h⟩))))
  · intro P h
    unfold wpY_unmap
    exact ya_sp0 hs (br_t rfl (ya_br0 h1 hab (br_t rfl ⟨_, iY P h⟩)))
theorem ps_protect {s a b : Nat} (hs : s < 2) (h1 : 1 ≤ b) (hab : a + b ≤ 32) (hw : ps_B w) (v : Int32) :
    ∃ (r : Int32) (w' : Nat → Int32), ps_B w' ∧
      (∀ P : Int32 → SX → Prop, P r (f, m, w', c) → wpX_protect P (f, m, w, c) (nI s) (nI a) (nI b) v) ∧
      (∀ P : Int32 → SY → Prop, P r (f, m, w', c) → wpY_protect P (f, m, w, c) (nI s) (nI a) (nI b) v) := by
  by_cases z : v = 0
  · obtain ⟨r, w', hw', iX, iY⟩ := ps_prL (f := f) (m := m) (c := c) (g := 0) (e := s * 32 + a + b) hs (Or.inl rfl) hab (by omega) b a 0 w rfl hw
    refine ⟨r, w', hw', ?_, ?_⟩
    · intro P h
      unfold wpX_protect
      refine xa_rr_0 hs h1 hab (br_t rfl (br_t z ?_))
      unfold wX_protect_26
      exact xa_sl s a (nm_r (nI_add _ _) ⟨_, iX P h⟩)
    · intro P h
      unfold wpY_protect
      exact ya_sp0 hs (br_t rfl (ya_br0 h1 hab (br_t rfl (br_t z ⟨_, iY P h⟩))))
  · obtain ⟨r, w', hw', iX, iY⟩ := ps_prL (f := f) (m := m) (c := c) (g := 1) (e := s * 32 + a + b) hs (Or.inr rfl) hab (by omega) b a 0 w rfl hw
    refine ⟨r, w', hw', ?_, ?_⟩
    · intro P h
      unfold wpX_protect
      refine xa_rr_0 hs h1 hab (br_t rfl (br_f z ?_))
      unfold wX_protect_26
      exact xa_sl s a (nm_r (nI_add _ _) ⟨_, iX P h⟩)
    · intro P h
      unfold wpY_protect
      exact ya_sp0 hs (br_t rfl (ya_br0 h1 hab (br_t rfl (br_f z ⟨_, iY P h⟩))))
theorem ps_mapped {s p : Nat} (hs : s < 2) (hp : p < 32) :
    ∃ r : Int32, (∀ Q : Int32 → Prop, Q r → wpX_mapped Q (f, m, w, c) (nI s) (nI p)) ∧
      (∀ Q : Int32 → Prop, Q r → wpY_mapped Q (f, m, w, c) (nI s) (nI p)) := by
  have h64 : s * 32 + p < 64 := by omega
  by_cases z : m (s * 32 + p) = 0
  · refine ⟨0, ?_, ?_⟩
    · intro Q h
      unfold wpX_mapped
      exact xa_rp_0 hs hp (br_t rfl (xa_sl s p ⟨ps_in rfl h64, br_t (ps_z rfl h64 z) h⟩))
    · intro Q h
      unfold wpY_mapped
      exact ya_sp0 hs (br_t rfl (ya_pg0 hp (br_t rfl ⟨ps_in (ps_slot' s p) h64, br_t (ps_z (ps_slot' s p) h64 z) h⟩)))
  · refine ⟨1, ?_, ?_⟩
    · intro Q h
      unfold wpX_mapped
      exact xa_rp_0 hs hp (br_t rfl (xa_sl s p ⟨ps_in rfl h64, br_f (ps_n rfl h64 z) h⟩))
    · intro Q h
      unfold wpY_mapped
      exact ya_sp0 hs (br_t rfl (ya_pg0 hp (br_t rfl ⟨ps_in (ps_slot' s p) h64, br_f (ps_n (ps_slot' s p) h64 z) h⟩)))
theorem ps_writable {s p : Nat} (hs : s < 2) (hp : p < 32) :
    ∃ r : Int32, (∀ Q : Int32 → Prop, Q r → wpX_writable Q (f, m, w, c) (nI s) (nI p)) ∧
      (∀ Q : Int32 → Prop, Q r → wpY_writable Q (f, m, w, c) (nI s) (nI p)) := by
  have h64 : s * 32 + p < 64 := by omega
  by_cases z : m (s * 32 + p) = 0
  · refine ⟨0, ?_, ?_⟩
    · intro Q h
      unfold wpX_writable
      exact xa_rp_0 hs hp (br_t rfl (xa_sl s p ⟨ps_in rfl h64, br_t (ps_z rfl h64 z) h⟩))
    · intro Q h
      unfold wpY_writable
      exact ya_sp0 hs (br_t rfl (ya_pg0 hp (br_t rfl ⟨ps_in (ps_slot' s p) h64, br_t (ps_z (ps_slot' s p) h64 z) h⟩)))
  · by_cases y : w (s * 32 + p) = 0
    · refine ⟨0, ?_, ?_⟩
      · intro Q h
        unfold wpX_writable
        exact xa_rp_0 hs hp (br_t rfl (xa_sl s p ⟨ps_in rfl h64, br_f (ps_n rfl h64 z) ⟨ps_in rfl h64, br_t (ps_z rfl h64 y) h⟩⟩))
      · intro Q h
        unfold wpY_writable
        exact ya_sp0 hs (br_t rfl (ya_pg0 hp (br_t rfl ⟨ps_in (ps_slot' s p) h64, br_f (ps_n (ps_slot' s p) h64 z) ⟨ps_in (ps_slot' s p) h64, br_t (ps_z (ps_slot' s p) h64 y) h⟩⟩)))
    · refine ⟨1, ?_, ?_⟩
      · intro Q h
        unfold wpX_writable
        exact xa_rp_0 hs hp (br_t rfl (xa_sl s p ⟨ps_in rfl h64, br_f (ps_n rfl h64 z) ⟨ps_in rfl h64, br_f (ps_n rfl h64 y) h⟩⟩))
      · intro Q h
        unfold wpY_writable
        exact ya_sp0 hs (br_t rfl (ya_pg0 hp (br_t rfl ⟨ps_in (ps_slot' s p) h64, br_f (ps_n (ps_slot' s p) h64 z) ⟨ps_in (ps_slot' s p) h64, br_f (ps_n (ps_slot' s p) h64 y) h⟩⟩)))
theorem ps_at {Q : Int32 → Prop} {x y : Int32} (e : x = y) (h : Q y) : Q x := e ▸ h
theorem ps_read {s p : Nat} (hs : s < 2) (hp : p < 32) :
    ∃ r : Int32, (∀ Q : Int32 → Prop, Q r → wpX_read Q (f, m, w, c) (nI s) (nI p)) ∧
      (∀ Q : Int32 → Prop, Q r → wpY_read Q (f, m, w, c) (nI s) (nI p)) := by
  have h64 : s * 32 + p < 64 := by omega
  by_cases z : m (s * 32 + p) = 0
  · refine ⟨0, ?_, ?_⟩
    · intro Q h
      unfold wpX_read
      exact xa_rp_0 hs hp (br_t rfl (xa_sl s p ⟨ps_in rfl h64, br_t (ps_z rfl h64 z) h⟩))
    · intro Q h
      unfold wpY_read
      exact ya_sp0 hs (br_t rfl (ya_pg0 hp (br_t rfl ⟨ps_in (ps_slot' s p) h64, br_t (ps_z (ps_slot' s p) h64 z) h⟩)))
  · refine ⟨c (s * 32 + p), ?_, ?_⟩
    · intro Q h
      unfold wpX_read
      exact xa_rp_0 hs hp (br_t rfl (xa_sl s p ⟨ps_in rfl h64, br_f (ps_n rfl h64 z) ⟨ps_in rfl h64, ps_at (Q := Q) (ps_v rfl h64) h⟩⟩))
    · intro Q h
      unfold wpY_read
      exact ya_sp0 hs (br_t rfl (ya_pg0 hp (br_t rfl ⟨ps_in (ps_slot' s p) h64, br_f (ps_n (ps_slot' s p) h64 z) ⟨ps_in (ps_slot' s p) h64, ps_at (Q := Q) (ps_v (ps_slot' s p) h64) h⟩⟩)))
theorem ps_write {s p : Nat} (hs : s < 2) (hp : p < 32) (v : Int32) :
    ∃ (r : Int32) (c' : Nat → Int32), (∀ P : Int32 → SX → Prop, P r (f, m, w, c') → wpX_write P (f, m, w, c) (nI s) (nI p) v) ∧
      (∀ P : Int32 → SY → Prop, P r (f, m, w, c') → wpY_write P (f, m, w, c) (nI s) (nI p) v) := by
  have h64 : s * 32 + p < 64 := by omega
  by_cases z : m (s * 32 + p) = 0
  · refine ⟨-3, c, ?_, ?_⟩
    · intro P h
      unfold wpX_write
      exact xa_rp_0 hs hp (br_t rfl (xa_sl s p ⟨ps_in rfl h64, br_t (ps_z rfl h64 z) h⟩))
    · intro P h
      unfold wpY_write
      exact ya_sp0 hs (br_t rfl (ya_pg0 hp (br_t rfl (nm_r (ps_slot' s p) ⟨ps_in rfl h64, br_t (ps_z rfl h64 z) h⟩))))
  · by_cases y : w (s * 32 + p) = 0
    · refine ⟨-4, c, ?_, ?_⟩
      · intro P h
        unfold wpX_write
        exact xa_rp_0 hs hp (br_t rfl (xa_sl s p ⟨ps_in rfl h64, br_f (ps_n rfl h64 z) ⟨ps_in rfl h64, br_t (ps_z rfl h64 y) h⟩⟩))
      · intro P h
        unfold wpY_write
        exact ya_sp0 hs (br_t rfl (ya_pg0 hp (br_t rfl (nm_r (ps_slot' s p) ⟨ps_in rfl h64, br_f (ps_n rfl h64 z) ⟨ps_in rfl h64, br_t (ps_z rfl h64 y) h⟩⟩))))
    · refine ⟨0, upd c (s * 32 + p) v, ?_, ?_⟩
      · intro P h
        unfold wpX_write
        exact xa_rp_0 hs hp (br_t rfl (xa_sl s p ⟨ps_in rfl h64, br_f (ps_n rfl h64 z) ⟨ps_in rfl h64, br_f (ps_n rfl h64 y) ⟨ps_in rfl h64, nm_r (ps_s rfl h64 rfl) h⟩⟩⟩))
      · intro P h
        unfold wpY_write
        exact ya_sp0 hs (br_t rfl (ya_pg0 hp (br_t rfl (nm_r (ps_slot' s p) ⟨ps_in rfl h64, br_f (ps_n rfl h64 z) ⟨ps_in rfl h64, br_f (ps_n rfl h64 y) ⟨ps_in rfl h64, nm_r (ps_s rfl h64 rfl) h⟩⟩⟩))))
end
end
section
section
variable {f : Int32} {m w c : Nat → Int32}
theorem xa_t72_1 {P : Int32 → SX → Prop} {i : Nat} {v : Int32} (hi : i < 64) (h : P 1 (f, upd m i 1, upd w i 1, upd c i v)) : wX_touch_72 P v (nI i) 1 f m w c := by
  unfold wX_touch_72
  exact xa_fill rfl hi ps_b1 rfl (br_f (by decide) h)
theorem xa_t72_0 {P : Int32 → SX → Prop} {i : Nat} {v : Int32} (hi : i < 64) (h : P 0 (f, upd m i 1, upd w i 1, upd c i v)) : wX_touch_72 P v (nI i) 0 f m w c := by
  unfold wX_touch_72
  exact xa_fill rfl hi ps_b1 rfl (br_t rfl h)
theorem ps_touch {F s p : Nat} (hF : F ≤ 48) (hs : s < 2) (hp : p < 32) (hm : ps_B m) (hw : ps_B w) (v : Int32) :
    ∃ (r : Int32) (m' w' c' : Nat → Int32), ps_B m' ∧ ps_B w' ∧
      (∀ P : Int32 → SX → Prop, P r (nI F, m', w', c') → wpX_touch P (nI F, m, w, c) (nI s) (nI p) v) ∧
      (∀ P : Int32 → SY → Prop, P r (nI F, m', w', c') → wpY_touch P (nI F, m, w, c) (nI s) (nI p) v) := by
  have h64 : s * 32 + p < 64 := by omega
  have hU := ps_cnt_le m 64 0
  by_cases z : m (s * 32 + p) = 0
  · by_cases hf : ps_cnt m 0 64 = F
    · refine ⟨-3, m, w, c, hm, hw, ?_, ?_⟩
      · intro P h
        unfold wpX_touch
        exact xa_rp_0 hs hp (br_t rfl (xa_sl s p ⟨ps_in rfl h64, br_t (ps_z rfl h64 z) (br_f (by decide) (xa_free (br_t ((ps_free0 (by omega) hU).mpr hf) h)))⟩))
      · intro P h
        unfold wpY_touch
        exact ya_sp0 hs (br_t rfl (ya_pg0 hp (br_t rfl (nm_r (ps_slot' s p) ⟨ps_in rfl h64, br_t (ps_z rfl h64 z) (ya_used (br_t (congrArg nI hf) h))⟩))))
    · have hf' : ¬ nI (ps_cnt m 0 64) = nI F := fun q => hf ((nI_eq (by omega) (by omega)).mp q)
      refine ⟨1, upd m (s * 32 + p) 1, upd w (s * 32 + p) 1, upd c (s * 32 + p) v, ps_Bu hm _ (Or.inr rfl), ps_Bu hw _ (Or.inr rfl), ?_, ?_⟩
      · intro P h
        unfold wpX_touch
        exact xa_rp_0 hs hp (br_t rfl (xa_sl s p ⟨ps_in rfl h64, br_t (ps_z rfl h64 z) (br_f (by decide) (xa_free (br_f (fun q => hf ((ps_free0 (by omega) hU).mp q)) (br_f (by decide) (xa_t72_1 h64 h)))))⟩))
      · intro P h
        unfold wpY_touch
        exact ya_sp0 hs (br_t rfl (ya_pg0 hp (br_t rfl (nm_r (ps_slot' s p) ⟨ps_in rfl h64, br_t (ps_z rfl h64 z) (ya_used (br_f hf' (ya_make rfl h64 h)))⟩))))
  · by_cases y : w (s * 32 + p) = 0
    · refine ⟨-4, m, w, c, hm, hw, ?_, ?_⟩
      · intro P h
        unfold wpX_touch
        exact xa_rp_0 hs hp (br_t rfl (xa_sl s p ⟨ps_in rfl h64, br_f (ps_n rfl h64 z) (br_t rfl (br_t rfl ⟨ps_in rfl h64, br_t (ps_z rfl h64 y) h⟩))⟩))
      · intro P h
        unfold wpY_touch
        exact ya_sp0 hs (br_t rfl (ya_pg0 hp (br_t rfl (nm_r (ps_slot' s p) ⟨ps_in rfl h64, br_f (ps_n rfl h64 z) ⟨ps_in rfl h64, br_t (ps_z rfl h64 y) h⟩⟩))))
    · refine ⟨0, m, w, upd c (s * 32 + p) v, hm, hw, ?_, ?_⟩
      · intro P h
        unfold wpX_touch
        refine xa_rp_0 hs hp (br_t rfl (xa_sl s p ⟨ps_in rfl h64, br_f (ps_n rfl h64 z) (br_t rfl (br_t rfl ⟨ps_in rfl h64, br_f (ps_n rfl h64 y) (xa_t72_0 h64 ?_)⟩))⟩))
        rw [ps_us (ps_B1 hm z), ps_us (ps_B1 hw y)]
        exact h
      · intro P h
        unfold wpY_touch
        exact ya_sp0 hs (br_t rfl (ya_pg0 hp (br_t rfl (nm_r (ps_slot' s p) ⟨ps_in rfl h64, br_f (ps_n rfl h64 z) ⟨ps_in rfl h64, br_f (ps_n rfl h64 y) ⟨ps_in rfl h64, nm_r (ps_s rfl h64 rfl) h⟩⟩⟩))))
theorem ps_stamp {s a b : Nat} {q : Int32} (hs : s < 2) (h0 : ¬ q < 0) (h1 : 1 ≤ b) (hab : a + b ≤ 32) (ea : q / 64 = nI a) (eb : q - q / 64 * 64 = nI b) (v : Int32) :
    ∃ (r : Int32) (c' : Nat → Int32),
      (∀ P : Int32 → SX → Prop, P r (f, m, w, c') → wpX_stamp P (f, m, w, c) (nI s) q v) ∧
      (∀ P : Int32 → SY → Prop, P r (f, m, w, c') → wpY_stamp P (f, m, w, c) (nI s) q v) := by
  obtain ⟨r, c', iX, iY⟩ := ps_stL (f := f) (m := m) (w := w) (v := v) (e := s * 32 + a + b) hs hab (by omega) b a 0 c rfl
  refine ⟨r, c', ?_, ?_⟩
  · intro P h
    unfold wpX_stamp
    exact xa_sp1 hs (br_f (by decide) ⟨by decide, nm_r ea ⟨by decide, nm_r eb (br_f h0 (xa_gr1 h1 hab (br_f (by decide) (xa_sl s a (nm_r (nI_add _ _) ⟨_, iX P h⟩)))))⟩⟩)
  · intro P h
    unfold wpY_stamp
    exact ya_sp0 hs (br_t rfl (br_t (Int32.not_lt.mp h0) ⟨by decide, nm_r ea ⟨by decide, nm_r eb (ya_br0 h1 hab (br_t rfl ⟨_, iY P h⟩))⟩⟩))
theorem ps_remap {s p q : Nat} (hs : s < 2) (hp : p < 32) (hq : q < 32) (hm : ps_B m) (hw : ps_B w) :
    ∃ (r : Int32) (m' w' c' : Nat → Int32), ps_B m' ∧ ps_B w' ∧
      (∀ P : Int32 → SX → Prop, P r (f, m', w', c') → wpX_remap P (f, m, w, c) (nI s) (nI p) (nI q)) ∧
      (∀ P : Int32 → SY → Prop, P r (f, m', w', c') → wpY_remap P (f, m, w, c) (nI s) (nI p) (nI q)) := by
  have hi : s * 32 + p < 64 := by omega
  have hj : s * 32 + q < 64 := by omega
  by_cases z : m (s * 32 + p) = 0
  · refine ⟨-3, m, w, c, hm, hw, ?_, ?_⟩
    · intro P h
      unfold wpX_remap
      exact xa_rp_0 hs hp (br_t rfl (xa_pg1 hq (br_f (by decide) (xa_sl s p (xa_sl s q ⟨ps_in rfl hi, br_t (ps_z rfl hi z) h⟩)))))
    · intro P h
      unfold wpY_remap
      exact ya_sp0 hs (br_t rfl (ya_pg0 hp (br_t rfl (ya_pg0 hq (br_t rfl ⟨ps_in (ps_slot' s p) hi, br_t (ps_z (ps_slot' s p) hi z) h⟩)))))
  · by_cases y : m (s * 32 + q) = 0
    · refine ⟨0, upd (upd m (s * 32 + q) 1) (s * 32 + p) 0, upd w (s * 32 + q) (w (s * 32 + p)), upd c (s * 32 + q) (c (s * 32 + p)), ps_Bu (ps_Bu hm _ (Or.inr rfl)) _ (Or.inl rfl), ps_Bu hw _ (hw _), ?_, ?_⟩
      · intro P h
        unfold wpX_remap
        have ew : vp_nar .boolean (w (nI (s * 32 + p)).toNatClampNeg) = w (s * 32 + p) := by rw [ps_v (m := w) rfl hi, ps_bv (hw _)]
        exact xa_rp_0 hs hp (br_t rfl (xa_pg1 hq (br_f (by decide) (xa_sl s p (xa_sl s q ⟨ps_in rfl hi, br_f (ps_n rfl hi z) ⟨ps_in rfl hj, br_t (ps_z rfl hj y) ⟨ps_in rfl hi, ps_in rfl hi, xa_fill rfl hj ew (ps_v rfl hi) ⟨ps_in rfl hi, nm_r (ps_s rfl hi ps_b0) h⟩⟩⟩⟩)))))
      · intro P h
        unfold wpY_remap
        exact ya_sp0 hs (br_t rfl (ya_pg0 hp (br_t rfl (ya_pg0 hq (br_t rfl ⟨ps_in (ps_slot' s p) hi, br_f (ps_n (ps_slot' s p) hi z) ⟨ps_in (ps_slot' s q) hj, br_t (ps_z (ps_slot' s q) hj y) (ya_copy (ps_slot' s p) hi (ps_slot' s q) hj hm hw (ps_B1 hm z) ⟨ps_in (ps_slot' s p) hi, nm_r (ps_s (ps_slot' s p) hi ps_b0) h⟩)⟩⟩)))))
    · refine ⟨-4, m, w, c, hm, hw, ?_, ?_⟩
      · intro P h
        unfold wpX_remap
        exact xa_rp_0 hs hp (br_t rfl (xa_pg1 hq (br_f (by decide) (xa_sl s p (xa_sl s q ⟨ps_in rfl hi, br_f (ps_n rfl hi z) ⟨ps_in rfl hj, br_f (ps_n rfl hj y) h⟩⟩)))))
      · intro P h
        unfold wpY_remap
        exact ya_sp0 hs (br_t rfl (ya_pg0 hp (br_t rfl (ya_pg0 hq (br_t rfl ⟨ps_in (ps_slot' s p) hi, br_f (ps_n (ps_slot' s p) hi z) ⟨ps_in (ps_slot' s q) hj, br_f (ps_n (ps_slot' s q) hj y) h⟩⟩)))))
theorem ps_duplicate {F s p : Nat} (hF : F ≤ 48) (hs : s < 2) (hp : p < 32) (hm : ps_B m) (hw : ps_B w) :
    ∃ (r : Int32) (m' w' c' : Nat → Int32), ps_B m' ∧ ps_B w' ∧
      (∀ P : Int32 → SX → Prop, P r (nI F, m', w', c') → wpX_duplicate P (nI F, m, w, c) (nI s) (nI p)) ∧
      (∀ P : Int32 → SY → Prop, P r (nI F, m', w', c') → wpY_duplicate P (nI F, m, w, c) (nI s) (nI p)) := by
  have hi : s * 32 + p < 64 := by omega
  have hj : (1 - s) * 32 + p < 64 := by omega
  have hU := ps_cnt_le m 64 0
  have e1 : 1 - nI s = nI (1 - s) := pk_sub (a := 1) (by omega)
  have eX : (1 - nI s) * 32 + nI p = nI ((1 - s) * 32 + p) := by rw [e1, ps_slot]
  have eY : 32 * (1 - nI s) + nI p = nI ((1 - s) * 32 + p) := by rw [e1, ps_slot']
  generalize (1 - s) * 32 + p = j at hj eX eY
  by_cases z : m (s * 32 + p) = 0
  · refine ⟨-3, m, w, c, hm, hw, ?_, ?_⟩
    · intro P h
      unfold wpX_duplicate
      exact xa_rp_0 hs hp (br_t rfl (xa_sl s p (xa_sl3 eX ⟨ps_in rfl hi, br_t (ps_z rfl hi z) h⟩)))
    · intro P h
      unfold wpY_duplicate
      exact ya_sp0 hs (br_t rfl (ya_pg0 hp (br_t rfl ⟨ps_in (ps_slot' s p) hi, br_t (ps_z (ps_slot' s p) hi z) h⟩)))
  · by_cases y : m j = 0
    · by_cases hf : ps_cnt m 0 64 = F
      · refine ⟨-5, m, w, c, hm, hw, ?_, ?_⟩
        · intro P h
          unfold wpX_duplicate
          exact xa_rp_0 hs hp (br_t rfl (xa_sl s p (xa_sl3 eX ⟨ps_in rfl hi, br_f (ps_n rfl hi z) ⟨ps_in rfl hj, br_t (ps_z rfl hj y) (xa_free (br_t ((ps_free0 (by omega) hU).mpr hf) h))⟩⟩)))
        · intro P h
          unfold wpY_duplicate
          exact ya_sp0 hs (br_t rfl (ya_pg0 hp (br_t rfl ⟨ps_in (ps_slot' s p) hi, br_f (ps_n (ps_slot' s p) hi z) ⟨ps_in eY hj, br_t (ps_z eY hj y) (ya_used (br_t (congrArg nI hf) h))⟩⟩)))
      · have hf' : ¬ nI (ps_cnt m 0 64) = nI F := fun q => hf ((nI_eq (by omega) (by omega)).mp q)
        have ew : vp_nar .boolean (w (nI (s * 32 + p)).toNatClampNeg) = w (s * 32 + p) := by rw [ps_v (m := w) rfl hi, ps_bv (hw _)]
        refine ⟨0, upd m j 1, upd w j (w (s * 32 + p)), upd c j (c (s * 32 + p)), ps_Bu hm _ (Or.inr rfl), ps_Bu hw _ (hw _), ?_, ?_⟩
        · intro P h
          unfold wpX_duplicate
          exact xa_rp_0 hs hp (br_t rfl (xa_sl s p (xa_sl3 eX ⟨ps_in rfl hi, br_f (ps_n rfl hi z) ⟨ps_in rfl hj, br_t (ps_z rfl hj y) (xa_free (br_f (fun q => hf ((ps_free0 (by omega) hU).mp q)) ⟨ps_in rfl hi, ps_in rfl hi, xa_fill rfl hj ew (ps_v rfl hi) h⟩))⟩⟩)))
        · intro P h
          unfold wpY_duplicate
          exact ya_sp0 hs (br_t rfl (ya_pg0 hp (br_t rfl ⟨ps_in (ps_slot' s p) hi, br_f (ps_n (ps_slot' s p) hi z) ⟨ps_in eY hj, br_t (ps_z eY hj y) (ya_used (br_f hf' (ya_copy (ps_slot' s p) hi eY hj hm hw (ps_B1 hm z) h)))⟩⟩)))
    · refine ⟨-4, m, w, c, hm, hw, ?_, ?_⟩
      · intro P h
        unfold wpX_duplicate
        exact xa_rp_0 hs hp (br_t rfl (xa_sl s p (xa_sl3 eX ⟨ps_in rfl hi, br_f (ps_n rfl hi z) ⟨ps_in rfl hj, br_f (ps_n rfl hj y) h⟩⟩)))
      · intro P h
        unfold wpY_duplicate
        exact ya_sp0 hs (br_t rfl (ya_pg0 hp (br_t rfl ⟨ps_in (ps_slot' s p) hi, br_f (ps_n (ps_slot' s p) hi z) ⟨ps_in eY hj, br_f (ps_n eY hj y) h⟩⟩)))
theorem ps_exchange {p : Nat} (hp : p < 32) (hm : ps_B m) (hw : ps_B w) :
    ∃ (r : Int32) (m' w' c' : Nat → Int32), ps_B m' ∧ ps_B w' ∧
      (∀ P : Int32 → SX → Prop, P r (f, m', w', c') → wpX_exchange P (f, m, w, c) (nI p)) ∧
      (∀ P : Int32 → SY → Prop, P r (f, m', w', c') → wpY_exchange P (f, m, w, c) (nI p)) := by
  have hi : p < 64 := by omega
  have hj : 32 + p < 64 := by omega
  have e0 : 0 * 32 + nI p = nI p := by rw [show (0 : Int32) * 32 = nI 0 from rfl, nI_add, Nat.zero_add]
  have e1 : 1 * 32 + nI p = nI (32 + p) := by rw [show (1 : Int32) * 32 = nI 32 from rfl, nI_add]
  have eY : 32 + nI p = nI (32 + p) := nI_add 32 p
  have em : vp_nar .boolean (m (nI (32 + p)).toNatClampNeg) = m (32 + p) := by rw [ps_v (m := m) rfl hj, ps_bv (hm _)]
  have ew : vp_nar .boolean (w (nI (32 + p)).toNatClampNeg) = w (32 + p) := by rw [ps_v (m := w) rfl hj, ps_bv (hw _)]
  refine ⟨0, upd (upd m p (m (32 + p))) (32 + p) (m p), upd (upd w p (w (32 + p))) (32 + p) (w p), upd (upd c p (c (32 + p))) (32 + p) (c p), ps_Bu (ps_Bu hm _ (hm _)) _ (hm _), ps_Bu (ps_Bu hw _ (hw _)) _ (hw _), ?_, ?_⟩
  · intro P h
    unfold wpX_exchange
    exact xa_pg1 hp (br_f (by decide) (xa_sl3 e0 (xa_sl3 e1 ⟨ps_in rfl hi, nm_r (ps_v rfl hi) ⟨ps_in rfl hi, nm_r (ps_v rfl hi) ⟨ps_in rfl hi, nm_r (ps_v rfl hi)
      ⟨ps_in rfl hj, ps_in rfl hi, nm_r (ps_s rfl hi em) ⟨ps_in rfl hj, ps_in rfl hi, nm_r (ps_s rfl hi ew) ⟨ps_in rfl hj, ps_in rfl hi, nm_r (ps_s rfl hi (ps_v rfl hj))
      ⟨ps_in rfl hj, nm_r (ps_s rfl hj (ps_bv (hm p))) ⟨ps_in rfl hj, nm_r (ps_s rfl hj (ps_bv (hw p))) ⟨ps_in rfl hj, nm_r (ps_s rfl hj rfl) h⟩⟩⟩⟩⟩⟩⟩⟩⟩)))
  · intro P h
    unfold wpY_exchange
    exact ya_pg0 hp (br_t rfl ⟨ps_in rfl hi, nm_r (ps_v rfl hi) ⟨ps_in rfl hi, nm_r (ps_v rfl hi) ⟨ps_in rfl hi, nm_r (ps_v rfl hi)
      (ya_copy eY hj rfl hi hm hw rfl ⟨ps_in eY hj, nm_r (ps_s eY hj (ps_bv (hm p))) ⟨ps_in eY hj, nm_r (ps_s eY hj (ps_bv (hw p))) ⟨ps_in eY hj, nm_r (ps_s eY hj rfl) h⟩⟩⟩)⟩⟩⟩)
theorem ps_sum {s : Nat} (hs : s < 2) :
    ∃ r : Int32, (∀ Q : Int32 → Prop, Q r → wpX_sum Q (f, m, w, c) (nI s)) ∧
      (∀ Q : Int32 → Prop, Q r → wpY_sum Q (f, m, w, c) (nI s)) := by
  obtain ⟨r, iX, iY⟩ := ps_suL (f := f) (m := m) (w := w) (c := c) (e := s * 32 + 0 + 32) hs (by omega) 32 0 0 rfl
  refine ⟨r, ?_, ?_⟩
  · intro Q h
    unfold wpX_sum
    exact xa_sp1 hs (br_f (by decide) (xa_sl s 0 (nm_r (nI_add (s * 32 + 0) 32) ⟨_, iX Q h⟩)))
  · intro Q h
    unfold wpY_sum
    exact ya_sp0 hs (br_t rfl ⟨_, iY Q h⟩)
theorem ps_next {s p : Nat} (hs : s < 2) (hp : p < 32) :
    ∃ r : Int32, (∀ Q : Int32 → Prop, Q r → wpX_nextMapped Q (f, m, w, c) (nI s) (nI p)) ∧
      (∀ Q : Int32 → Prop, Q r → wpY_nextMapped Q (f, m, w, c) (nI s) (nI p)) := by
  obtain ⟨r, iX, iY⟩ := ps_nxL (f := f) (m := m) (w := w) (c := c) hs (32 - p) p (by omega)
  refine ⟨r, ?_, ?_⟩
  · intro Q h
    unfold wpX_nextMapped
    exact xa_rp_0 hs hp (br_t rfl ⟨_, iX Q h⟩)
  · intro Q h
    unfold wpY_nextMapped
    exact ya_sp0 hs (br_t rfl (ya_pg0 hp (br_t rfl ⟨_, iY Q h⟩)))
end
end
section
theorem xr_map_1 {f : Int32} {m w c : Nat → Int32} {P : Int32 → SX → Prop} {x y z : Int32} (b : ps_NS x) (h : P (-1) (f, m, w, c)) : wpX_map P (f, m, w, c) x y z := by
  unfold wpX_map
  exact xa_rr_1 b (br_f (by decide) h)
theorem yr_map_1 {f : Int32} {m w c : Nat → Int32} {P : Int32 → SX → Prop} {x y z : Int32} (b : ps_NS x) (h : P (-1) (f, m, w, c)) : wpY_map P (f, m, w, c) x y z := by
  unfold wpY_map
  exact ya_sp1 b (br_f (by decide) h)
theorem xr_map_2 {f : Int32} {m w c : Nat → Int32} {P : Int32 → SX → Prop} {s : Nat} {y z : Int32} (hs : s < 2) (b : ps_NR y z) (h : P (-2) (f, m, w, c)) : wpX_map P (f, m, w, c) (nI s) y z := by
  unfold wpX_map
  exact xa_rr_2 hs b (br_f (by decide) h)
theorem yr_map_2 {f : Int32} {m w c : Nat → Int32} {P : Int32 → SX → Prop} {s : Nat} {y z : Int32} (hs : s < 2) (b : ps_NR y z) (h : P (-2) (f, m, w, c)) : wpY_map P (f, m, w, c) (nI s) y z := by
  unfold wpY_map
  exact ya_sp0 hs (br_t rfl (ya_br1 b (br_f (by decide) h)))
theorem xr_unmap_1 {f : Int32} {m w c : Nat → Int32} {P : Int32 → SX → Prop} {x y z : Int32} (b : ps_NS x) (h : P (-1) (f, m, w, c)) : wpX_unmap P (f, m, w, c) x y z := by
  unfold wpX_unmap
  exact xa_rr_1 b (br_f (by decide) h)
theorem yr_unmap_1 {f : Int32} {m w c : Nat → Int32} {P : Int32 → SX → Prop} {x y z : Int32} (b : ps_NS x) (h : P (-1) (f, m, w, c)) : wpY_unmap P (f, m, w, c) x y z := by
  unfold wpY_unmap
  exact ya_sp1 b (br_f (by decide) h)
theorem xr_unmap_2 {f : Int32} {m w c : Nat → Int32} {P : Int32 → SX → Prop} {s : Nat} {y z : Int32} (hs : s < 2) (b : ps_NR y z) (h : P (-2) (f, m, w, c)) : wpX_unmap P (f, m, w, c) (nI s) y z := by
  unfold wpX_unmap
  exact xa_rr_2 hs b (br_f (by decide) h)
theorem yr_unmap_2 {f : Int32} {m w c : Nat → Int32} {P : Int32 → SX → Prop} {s : Nat} {y z : Int32} (hs : s < 2) (b : ps_NR y z) (h : P (-2) (f, m, w, c)) : wpY_unmap P (f, m, w, c) (nI s) y z := by
  unfold wpY_unmap
  exact ya_sp0 hs (br_t rfl (ya_br1 b (br_f (by decide) h)))
theorem xr_protect_1 {f : Int32} {m w c : Nat → Int32} {P : Int32 → SX → Prop} {x y z : Int32} {v : Int32} (b : ps_NS x) (h : P (-1) (f, m, w, c)) : wpX_protect P (f, m, w, c) x y z v := by
  unfold wpX_protect
  exact xa_rr_1 b (br_f (by decide) h)
theorem yr_protect_1 {f : Int32} {m w c : Nat → Int32} {P : Int32 → SX → Prop} {x y z : Int32} {v : Int32} (b : ps_NS x) (h : P (-1) (f, m, w, c)) : wpY_protect P (f, m, w, c) x y z v := by
  unfold wpY_protect
  exact ya_sp1 b (br_f (by decide) h)
theorem xr_protect_2 {f : Int32} {m w c : Nat → Int32} {P : Int32 → SX → Prop} {s : Nat} {y z : Int32} {v : Int32} (hs : s < 2) (b : ps_NR y z) (h : P (-2) (f, m, w, c)) : wpX_protect P (f, m, w, c) (nI s) y z v := by
  unfold wpX_protect
  exact xa_rr_2 hs b (br_f (by decide) h)
theorem yr_protect_2 {f : Int32} {m w c : Nat → Int32} {P : Int32 → SX → Prop} {s : Nat} {y z : Int32} {v : Int32} (hs : s < 2) (b : ps_NR y z) (h : P (-2) (f, m, w, c)) : wpY_protect P (f, m, w, c) (nI s) y z v := by
  unfold wpY_protect
  exact ya_sp0 hs (br_t rfl (ya_br1 b (br_f (by decide) h)))
theorem xr_mapped_1 {f : Int32} {m w c : Nat → Int32} {P : Int32 → Prop} {x y : Int32} (b : ps_NS x) (h : P (-1)) : wpX_mapped P (f, m, w, c) x y := by
  unfold wpX_mapped
  exact xa_rp_1 b (br_f (by decide) h)
theorem yr_mapped_1 {f : Int32} {m w c : Nat → Int32} {P : Int32 → Prop} {x y : Int32} (b : ps_NS x) (h : P (-1)) : wpY_mapped P (f, m, w, c) x y := by
  unfold wpY_mapped
  exact ya_sp1 b (br_f (by decide) h)
theorem xr_mapped_2 {f : Int32} {m w c : Nat → Int32} {P : Int32 → Prop} {s : Nat} {y : Int32} (hs : s < 2) (b : ps_NP y) (h : P (-2)) : wpX_mapped P (f, m, w, c) (nI s) y := by
  unfold wpX_mapped
  exact xa_rp_2 hs b (br_f (by decide) h)
theorem yr_mapped_2 {f : Int32} {m w c : Nat → Int32} {P : Int32 → Prop} {s : Nat} {y : Int32} (hs : s < 2) (b : ps_NP y) (h : P (-2)) : wpY_mapped P (f, m, w, c) (nI s) y := by
  unfold wpY_mapped
  exact ya_sp0 hs (br_t rfl (ya_pg1 b (br_f (by decide) h)))
theorem xr_writable_1 {f : Int32} {m w c : Nat → Int32} {P : Int32 → Prop} {x y : Int32} (b : ps_NS x) (h : P (-1)) : wpX_writable P (f, m, w, c) x y := by
  unfold wpX_writable
  exact xa_rp_1 b (br_f (by decide) h)
theorem yr_writable_1 {f : Int32} {m w c : Nat → Int32} {P : Int32 → Prop} {x y : Int32} (b : ps_NS x) (h : P (-1)) : wpY_writable P (f, m, w, c) x y := by
  unfold wpY_writable
  exact ya_sp1 b (br_f (by decide) h)
theorem xr_writable_2 {f : Int32} {m w c : Nat → Int32} {P : Int32 → Prop} {s : Nat} {y : Int32} (hs : s < 2) (b : ps_NP y) (h : P (-2)) : wpX_writable P (f, m, w, c) (nI s) y := by
  unfold wpX_writable
  exact xa_rp_2 hs b (br_f (by decide) h)
theorem yr_writable_2 {f : Int32} {m w c : Nat → Int32} {P : Int32 → Prop} {s : Nat} {y : Int32} (hs : s < 2) (b : ps_NP y) (h : P (-2)) : wpY_writable P (f, m, w, c) (nI s) y := by
  unfold wpY_writable
  exact ya_sp0 hs (br_t rfl (ya_pg1 b (br_f (by decide) h)))
theorem xr_read_1 {f : Int32} {m w c : Nat → Int32} {P : Int32 → Prop} {x y : Int32} (b : ps_NS x) (h : P 0) : wpX_read P (f, m, w, c) x y := by
  unfold wpX_read
  exact xa_rp_1 b (br_f (by decide) h)
theorem yr_read_1 {f : Int32} {m w c : Nat → Int32} {P : Int32 → Prop} {x y : Int32} (b : ps_NS x) (h : P 0) : wpY_read P (f, m, w, c) x y := by
  unfold wpY_read
  exact ya_sp1 b (br_f (by decide) h)
theorem xr_read_2 {f : Int32} {m w c : Nat → Int32} {P : Int32 → Prop} {s : Nat} {y : Int32} (hs : s < 2) (b : ps_NP y) (h : P 0) : wpX_read P (f, m, w, c) (nI s) y := by
  unfold wpX_read
  exact xa_rp_2 hs b (br_f (by decide) h)
theorem yr_read_2 {f : Int32} {m w c : Nat → Int32} {P : Int32 → Prop} {s : Nat} {y : Int32} (hs : s < 2) (b : ps_NP y) (h : P 0) : wpY_read P (f, m, w, c) (nI s) y := by
  unfold wpY_read
  exact ya_sp0 hs (br_t rfl (ya_pg1 b (br_f (by decide) h)))
theorem xr_nextMapped_1 {f : Int32} {m w c : Nat → Int32} {P : Int32 → Prop} {x y : Int32} (b : ps_NS x) (h : P (-1)) : wpX_nextMapped P (f, m, w, c) x y := by
  unfold wpX_nextMapped
  exact xa_rp_1 b (br_f (by decide) h)
theorem yr_nextMapped_1 {f : Int32} {m w c : Nat → Int32} {P : Int32 → Prop} {x y : Int32} (b : ps_NS x) (h : P (-1)) : wpY_nextMapped P (f, m, w, c) x y := by
  unfold wpY_nextMapped
  exact ya_sp1 b (br_f (by decide) h)
theorem xr_nextMapped_2 {f : Int32} {m w c : Nat → Int32} {P : Int32 → Prop} {s : Nat} {y : Int32} (hs : s < 2) (b : ps_NP y) (h : P (-2)) : wpX_nextMapped P (f, m, w, c) (nI s) y := by
  unfold wpX_nextMapped
  exact xa_rp_2 hs b (br_f (by decide) h)
theorem yr_nextMapped_2 {f : Int32} {m w c : Nat → Int32} {P : Int32 → Prop} {s : Nat} {y : Int32} (hs : s < 2) (b : ps_NP y) (h : P (-2)) : wpY_nextMapped P (f, m, w, c) (nI s) y := by
  unfold wpY_nextMapped
  exact ya_sp0 hs (br_t rfl (ya_pg1 b (br_f (by decide) h)))
theorem xr_write_1 {f : Int32} {m w c : Nat → Int32} {P : Int32 → SX → Prop} {x y : Int32} {v : Int32} (b : ps_NS x) (h : P (-1) (f, m, w, c)) : wpX_write P (f, m, w, c) x y v := by
  unfold wpX_write
  exact xa_rp_1 b (br_f (by decide) h)
theorem yr_write_1 {f : Int32} {m w c : Nat → Int32} {P : Int32 → SX → Prop} {x y : Int32} {v : Int32} (b : ps_NS x) (h : P (-1) (f, m, w, c)) : wpY_write P (f, m, w, c) x y v := by
  unfold wpY_write
  exact ya_sp1 b (br_f (by decide) h)
theorem xr_write_2 {f : Int32} {m w c : Nat → Int32} {P : Int32 → SX → Prop} {s : Nat} {y : Int32} {v : Int32} (hs : s < 2) (b : ps_NP y) (h : P (-2) (f, m, w, c)) : wpX_write P (f, m, w, c) (nI s) y v := by
  unfold wpX_write
  exact xa_rp_2 hs b (br_f (by decide) h)
theorem yr_write_2 {f : Int32} {m w c : Nat → Int32} {P : Int32 → SX → Prop} {s : Nat} {y : Int32} {v : Int32} (hs : s < 2) (b : ps_NP y) (h : P (-2) (f, m, w, c)) : wpY_write P (f, m, w, c) (nI s) y v := by
  unfold wpY_write
  exact ya_sp0 hs (br_t rfl (ya_pg1 b (br_f (by decide) h)))
theorem xr_touch_1 {f : Int32} {m w c : Nat → Int32} {P : Int32 → SX → Prop} {x y : Int32} {v : Int32} (b : ps_NS x) (h : P (-1) (f, m, w, c)) : wpX_touch P (f, m, w, c) x y v := by
  unfold wpX_touch
  exact xa_rp_1 b (br_f (by decide) h)
theorem yr_touch_1 {f : Int32} {m w c : Nat → Int32} {P : Int32 → SX → Prop} {x y : Int32} {v : Int32} (b : ps_NS x) (h : P (-1) (f, m, w, c)) : wpY_touch P (f, m, w, c) x y v := by
  unfold wpY_touch
  exact ya_sp1 b (br_f (by decide) h)
theorem xr_touch_2 {f : Int32} {m w c : Nat → Int32} {P : Int32 → SX → Prop} {s : Nat} {y : Int32} {v : Int32} (hs : s < 2) (b : ps_NP y) (h : P (-2) (f, m, w, c)) : wpX_touch P (f, m, w, c) (nI s) y v := by
  unfold wpX_touch
  exact xa_rp_2 hs b (br_f (by decide) h)
theorem yr_touch_2 {f : Int32} {m w c : Nat → Int32} {P : Int32 → SX → Prop} {s : Nat} {y : Int32} {v : Int32} (hs : s < 2) (b : ps_NP y) (h : P (-2) (f, m, w, c)) : wpY_touch P (f, m, w, c) (nI s) y v := by
  unfold wpY_touch
  exact ya_sp0 hs (br_t rfl (ya_pg1 b (br_f (by decide) h)))
theorem xr_remap_1 {f : Int32} {m w c : Nat → Int32} {P : Int32 → SX → Prop} {x y : Int32} {v : Int32} (b : ps_NS x) (h : P (-1) (f, m, w, c)) : wpX_remap P (f, m, w, c) x y v := by
  unfold wpX_remap
  exact xa_rp_1 b (br_f (by decide) h)
theorem yr_remap_1 {f : Int32} {m w c : Nat → Int32} {P : Int32 → SX → Prop} {x y : Int32} {v : Int32} (b : ps_NS x) (h : P (-1) (f, m, w, c)) : wpY_remap P (f, m, w, c) x y v := by
  unfold wpY_remap
  exact ya_sp1 b (br_f (by decide) h)
theorem xr_remap_2 {f : Int32} {m w c : Nat → Int32} {P : Int32 → SX → Prop} {s : Nat} {y : Int32} {v : Int32} (hs : s < 2) (b : ps_NP y) (h : P (-2) (f, m, w, c)) : wpX_remap P (f, m, w, c) (nI s) y v := by
  unfold wpX_remap
  exact xa_rp_2 hs b (br_f (by decide) h)
theorem yr_remap_2 {f : Int32} {m w c : Nat → Int32} {P : Int32 → SX → Prop} {s : Nat} {y : Int32} {v : Int32} (hs : s < 2) (b : ps_NP y) (h : P (-2) (f, m, w, c)) : wpY_remap P (f, m, w, c) (nI s) y v := by
  unfold wpY_remap
  exact ya_sp0 hs (br_t rfl (ya_pg1 b (br_f (by decide) h)))
theorem xr_duplicate_1 {f : Int32} {m w c : Nat → Int32} {P : Int32 → SX → Prop} {x y : Int32} (b : ps_NS x) (h : P (-1) (f, m, w, c)) : wpX_duplicate P (f, m, w, c) x y := by
  unfold wpX_duplicate
  exact xa_rp_1 b (br_f (by decide) h)
theorem yr_duplicate_1 {f : Int32} {m w c : Nat → Int32} {P : Int32 → SX → Prop} {x y : Int32} (b : ps_NS x) (h : P (-1) (f, m, w, c)) : wpY_duplicate P (f, m, w, c) x y := by
  unfold wpY_duplicate
  exact ya_sp1 b (br_f (by decide) h)
theorem xr_duplicate_2 {f : Int32} {m w c : Nat → Int32} {P : Int32 → SX → Prop} {s : Nat} {y : Int32} (hs : s < 2) (b : ps_NP y) (h : P (-2) (f, m, w, c)) : wpX_duplicate P (f, m, w, c) (nI s) y := by
  unfold wpX_duplicate
  exact xa_rp_2 hs b (br_f (by decide) h)
theorem yr_duplicate_2 {f : Int32} {m w c : Nat → Int32} {P : Int32 → SX → Prop} {s : Nat} {y : Int32} (hs : s < 2) (b : ps_NP y) (h : P (-2) (f, m, w, c)) : wpY_duplicate P (f, m, w, c) (nI s) y := by
  unfold wpY_duplicate
  exact ya_sp0 hs (br_t rfl (ya_pg1 b (br_f (by decide) h)))
theorem xr_remap_3 {f : Int32} {m w c : Nat → Int32} {P : Int32 → SX → Prop} {s p : Nat} {v : Int32} (hs : s < 2) (hp : p < 32) (b : ps_NP v) (h : P (-2) (f, m, w, c)) : wpX_remap P (f, m, w, c) (nI s) (nI p) v := by
  unfold wpX_remap
  exact xa_rp_0 hs hp (br_t rfl (xa_pg0 b (br_t rfl h)))
theorem yr_remap_3 {f : Int32} {m w c : Nat → Int32} {P : Int32 → SX → Prop} {s p : Nat} {v : Int32} (hs : s < 2) (hp : p < 32) (b : ps_NP v) (h : P (-2) (f, m, w, c)) : wpY_remap P (f, m, w, c) (nI s) (nI p) v := by
  unfold wpY_remap
  exact ya_sp0 hs (br_t rfl (ya_pg0 hp (br_t rfl (ya_pg1 b (br_f (by decide) h)))))
theorem xr_mappedIn_1 {f : Int32} {m w c : Nat → Int32} {P : Int32 → Prop} {x : Int32} (b : ps_NS x) (h : P (-1)) : wpX_mappedIn P (f, m, w, c) x := by
  unfold wpX_mappedIn
  exact xa_sp0 b (br_t rfl h)
theorem yr_mappedIn_1 {f : Int32} {m w c : Nat → Int32} {P : Int32 → Prop} {x : Int32} (b : ps_NS x) (h : P (-1)) : wpY_mappedIn P (f, m, w, c) x := by
  unfold wpY_mappedIn
  exact ya_sp1 b (br_f (by decide) h)
theorem xr_sum_1 {f : Int32} {m w c : Nat → Int32} {P : Int32 → Prop} {x : Int32} (b : ps_NS x) (h : P 0) : wpX_sum P (f, m, w, c) x := by
  unfold wpX_sum
  exact xa_sp0 b (br_t rfl h)
theorem yr_sum_1 {f : Int32} {m w c : Nat → Int32} {P : Int32 → Prop} {x : Int32} (b : ps_NS x) (h : P 0) : wpY_sum P (f, m, w, c) x := by
  unfold wpY_sum
  exact ya_sp1 b (br_f (by decide) h)
theorem xr_exchange_1 {f : Int32} {m w c : Nat → Int32} {P : Int32 → SX → Prop} {x : Int32} (b : ps_NP x) (h : P (-1) (f, m, w, c)) : wpX_exchange P (f, m, w, c) x := by
  unfold wpX_exchange
  exact xa_pg0 b (br_t rfl h)
theorem yr_exchange_1 {f : Int32} {m w c : Nat → Int32} {P : Int32 → SX → Prop} {x : Int32} (b : ps_NP x) (h : P (-1) (f, m, w, c)) : wpY_exchange P (f, m, w, c) x := by
  unfold wpY_exchange
  exact ya_pg1 b (br_f (by decide) h)
theorem xr_stamp_1 {f : Int32} {m w c : Nat → Int32} {P : Int32 → SX → Prop} {x q v : Int32} (b : ps_NS x) (h : P (-1) (f, m, w, c)) : wpX_stamp P (f, m, w, c) x q v := by
  unfold wpX_stamp
  exact xa_sp0 b (br_t rfl h)
theorem yr_stamp_1 {f : Int32} {m w c : Nat → Int32} {P : Int32 → SX → Prop} {x q v : Int32} (b : ps_NS x) (h : P (-1) (f, m, w, c)) : wpY_stamp P (f, m, w, c) x q v := by
  unfold wpY_stamp
  exact ya_sp1 b (br_f (by decide) h)
theorem xr_stamp_2 {f : Int32} {m w c : Nat → Int32} {P : Int32 → SX → Prop} {s : Nat} {q v : Int32} (hs : s < 2) (b : q < 0) (h : P (-2) (f, m, w, c)) : wpX_stamp P (f, m, w, c) (nI s) q v := by
  unfold wpX_stamp
  exact xa_sp1 hs (br_f (by decide) ⟨by decide, nm_e ⟨by decide, nm_e (br_t b h)⟩⟩)
theorem yr_stamp_2 {f : Int32} {m w c : Nat → Int32} {P : Int32 → SX → Prop} {s : Nat} {q v : Int32} (hs : s < 2) (b : q < 0) (h : P (-2) (f, m, w, c)) : wpY_stamp P (f, m, w, c) (nI s) q v := by
  unfold wpY_stamp
  exact ya_sp0 hs (br_t rfl (br_f (Int32.not_le.mpr b) h))
theorem xr_stamp_3 {f : Int32} {m w c : Nat → Int32} {P : Int32 → SX → Prop} {s : Nat} {q v : Int32} (hs : s < 2) (h0 : ¬ q < 0) (b : ps_NR (q / 64) (q - q / 64 * 64)) (h : P (-2) (f, m, w, c)) : wpX_stamp P (f, m, w, c) (nI s) q v := by
  unfold wpX_stamp
  exact xa_sp1 hs (br_f (by decide) ⟨by decide, nm_e ⟨by decide, nm_e (br_f h0 (xa_gr0 b (br_t rfl h)))⟩⟩)
theorem yr_stamp_3 {f : Int32} {m w c : Nat → Int32} {P : Int32 → SX → Prop} {s : Nat} {q v : Int32} (hs : s < 2) (h0 : ¬ q < 0) (b : ps_NR (q / 64) (q - q / 64 * 64)) (h : P (-2) (f, m, w, c)) : wpY_stamp P (f, m, w, c) (nI s) q v := by
  unfold wpY_stamp
  exact ya_sp0 hs (br_t rfl (br_t (Int32.not_lt.mp h0) ⟨by decide, nm_e ⟨by decide, nm_e (ya_br1 b (br_f (by decide) h))⟩⟩))
end
section
/-- both sides hold the same frames, at most 48, and the same three arrays; the two boolean arrays hold 0 and 1 alone -/
def i_Rel (_ : Nat) (u : SX) (v : SY) : Prop := ∃ (F : Nat) (m w c : Nat → Int32), u = (nI F, m, w, c) ∧ v = (nI F, m, w, c) ∧ F ≤ 48 ∧ ps_B m ∧ ps_B w
theorem ps_fin {k F : Nat} {m w c : Nat → Int32} (hF : F ≤ 48) (hm : ps_B m) (hw : ps_B w) : i_Rel k (nI F, m, w, c) (nI F, m, w, c) := ⟨F, m, w, c, rfl, rfl, hF, hm, hw⟩
theorem i_up {k : Nat} {u : SX} {v : SY} (h : i_Rel k u v) : i_Rel (k + 5) u v := h
theorem ps_fr {n : Nat} (hn : n ≤ 48) : nI n - (nI n - nI n / 8 * 8) = nI (n - n % 8) := by
  rw [show nI n - nI n / 8 * 8 = nI (n % 8) from pk_rem (d := 8) (by omega) (by omega) (by omega), pk_sub (Nat.mod_le n 8)]
theorem i_vc0 (k0 : Int32) : wpX_init (fun u => wpY_init (fun v => i_Rel 1 u v) k0) k0 := by
  by_cases h8 : 8 ≤ k0
  · by_cases h48 : k0 ≤ 48
    · have h0 : ¬ k0 < 0 := Int32.not_lt.mpr (Int32.le_trans (by decide) h8)
      obtain ⟨n, hn, rfl⟩ := nI_of h0
      have hn48 : n ≤ 48 := (nI_leI (b := 48) hn (by omega)).mp h48
      exact br_t h8 (br_t h48 (And.intro (by decide) (nm_r (ps_fr hn48) (br_t h8 (br_t h48 (And.intro (by decide) (nm_r (ps_fr hn48) (ps_fin (by omega) ps_B0 ps_B0))))))))
    · exact br_t h8 (br_f h48 (And.intro (by decide) (nm_r (ps_fr (n := 48) (by omega)) (br_t h8 (br_f h48 (And.intro (by decide) (nm_r (ps_fr (n := 48) (by omega)) (ps_fin (by omega) ps_B0 ps_B0))))))))
  · exact br_f h8 (br_t (by decide) (And.intro (by decide) (nm_r (ps_fr (n := 8) (by omega)) (br_f h8 (And.intro (by decide) (nm_r (ps_fr (n := 8) (by omega)) (ps_fin (by omega) ps_B0 ps_B0)))))))
theorem i_vc_frames {k : Nat} {u : SX} {v : SY} (I : i_Rel k u v) (hk : k + 5 ≤ 2561) : wpX_frames (fun r => wpY_frames (fun r' => r' = r ∧ i_Rel (k + 5) u v) v) u := by
  obtain ⟨F, m, w, c, rfl, rfl, hF, hm, hw⟩ := I
  exact ⟨rfl, ps_fin hF hm hw⟩
theorem i_vc_used {k : Nat} {u : SX} {v : SY} (I : i_Rel k u v) (hk : k + 5 ≤ 2561) : wpX_used (fun r => wpY_used (fun r' => r' = r ∧ i_Rel (k + 5) u v) v) u := by
  obtain ⟨F, m, w, c, rfl, rfl, hF, hm, hw⟩ := I
  exact xa_used (ya_used ⟨rfl, ps_fin hF hm hw⟩)
theorem i_vc_mappedIn {k : Nat} {u : SX} {v : SY} (I : i_Rel k u v) (hk : k + 5 ≤ 2561) (v1 : Int32) : wpX_mappedIn (fun r => wpY_mappedIn (fun r' => r' = r ∧ i_Rel (k + 5) u v) v v1) u v1 := by
  obtain ⟨F, m, w, c, rfl, rfl, hF, hm, hw⟩ := I
  rcases ps_sp v1 with ⟨s, hs, rfl⟩ | b1
  · exact xa_mappedIn hs (ya_mappedIn hs ⟨rfl, ps_fin hF hm hw⟩)
  · exact xr_mappedIn_1 b1 (yr_mappedIn_1 b1 ⟨rfl, ps_fin hF hm hw⟩)
theorem i_vc_map {k : Nat} {u : SX} {v : SY} (I : i_Rel k u v) (hk : k + 5 ≤ 2561) (v1 : Int32) (v2 : Int32) (v3 : Int32) : wpX_map (fun r u' => wpY_map (fun r' v' => r' = r ∧ i_Rel (k + 5) u' v') v v1 v2 v3) u v1 v2 v3 := by
  obtain ⟨F, m, w, c, rfl, rfl, hF, hm, hw⟩ := I
  rcases ps_sp v1 with ⟨s, hs, rfl⟩ | b1
  · rcases ps_rg v2 v3 with ⟨a, b, h1, h2, rfl, rfl⟩ | b2
    · obtain ⟨r, m', w', c', hm', hw', iX, iY⟩ := ps_map (c := c) hF hs h1 h2 hm hw
      exact iX _ (iY _ ⟨rfl, ps_fin hF hm' hw'⟩)
    · exact xr_map_2 hs b2 (yr_map_2 hs b2 ⟨rfl, ps_fin hF hm hw⟩)
  · exact xr_map_1 b1 (yr_map_1 b1 ⟨rfl, ps_fin hF hm hw⟩)
theorem i_vc_unmap {k : Nat} {u : SX} {v : SY} (I : i_Rel k u v) (hk : k + 5 ≤ 2561) (v1 : Int32) (v2 : Int32) (v3 : Int32) : wpX_unmap (fun r u' => wpY_unmap (fun r' v' => r' = r ∧ i_Rel (k + 5) u' v') v v1 v2 v3) u v1 v2 v3 := by
  obtain ⟨F, m, w, c, rfl, rfl, hF, hm, hw⟩ := I
  rcases ps_sp v1 with ⟨s, hs, rfl⟩ | b1
  · rcases ps_rg v2 v3 with ⟨a, b, h1, h2, rfl, rfl⟩ | b2
    · obtain ⟨r, m', hm', iX, iY⟩ := ps_unmap (f := nI F) (w := w) (c := c) hs h1 h2 hm
      exact iX _ (iY _ ⟨rfl, ps_fin hF hm' hw⟩)
    · exact xr_unmap_2 hs b2 (yr_unmap_2 hs b2 ⟨rfl, ps_fin hF hm hw⟩)
  · exact xr_unmap_1 b1 (yr_unmap_1 b1 ⟨rfl, ps_fin hF hm hw⟩)
theorem i_vc_protect {k : Nat} {u : SX} {v : SY} (I : i_Rel k u v) (hk : k + 5 ≤ 2561) (v1 : Int32) (v2 : Int32) (v3 : Int32) (v4 : Int32) : wpX_protect (fun r u' => wpY_protect (fun r' v' => r' = r ∧ i_Rel (k + 5) u' v') v v1 v2 v3 v4) u v1 v2 v3 v4 := by
  obtain ⟨F, m, w, c, rfl, rfl, hF, hm, hw⟩ := I
  rcases ps_sp v1 with ⟨s, hs, rfl⟩ | b1
  · rcases ps_rg v2 v3 with ⟨a, b, h1, h2, rfl, rfl⟩ | b2
    · obtain ⟨r, w', hw', iX, iY⟩ := ps_protect (f := nI F) (m := m) (c := c) hs h1 h2 hw v4
      exact iX _ (iY _ ⟨rfl, ps_fin hF hm hw'⟩)
    · exact xr_protect_2 hs b2 (yr_protect_2 hs b2 ⟨rfl, ps_fin hF hm hw⟩)
  · exact xr_protect_1 b1 (yr_protect_1 b1 ⟨rfl, ps_fin hF hm hw⟩)
theorem i_vc_mapped {k : Nat} {u : SX} {v : SY} (I : i_Rel k u v) (hk : k + 5 ≤ 2561) (v1 : Int32) (v2 : Int32) : wpX_mapped (fun r => wpY_mapped (fun r' => r' = r ∧ i_Rel (k + 5) u v) v v1 v2) u v1 v2 := by
  obtain ⟨F, m, w, c, rfl, rfl, hF, hm, hw⟩ := I
  rcases ps_sp v1 with ⟨s, hs, rfl⟩ | b1
  · rcases ps_pg v2 with ⟨p, hp, rfl⟩ | b2
    · obtain ⟨r, iX, iY⟩ := ps_mapped (f := nI F) (m := m) (w := w) (c := c) hs hp
      exact iX _ (iY _ ⟨rfl, ps_fin hF hm hw⟩)
    · exact xr_mapped_2 hs b2 (yr_mapped_2 hs b2 ⟨rfl, ps_fin hF hm hw⟩)
  · exact xr_mapped_1 b1 (yr_mapped_1 b1 ⟨rfl, ps_fin hF hm hw⟩)
theorem i_vc_writable {k : Nat} {u : SX} {v : SY} (I : i_Rel k u v) (hk : k + 5 ≤ 2561) (v1 : Int32) (v2 : Int32) : wpX_writable (fun r => wpY_writable (fun r' => r' = r ∧ i_Rel (k + 5) u v) v v1 v2) u v1 v2 := by
  obtain ⟨F, m, w, c, rfl, rfl, hF, hm, hw⟩ := I
  rcases ps_sp v1 with ⟨s, hs, rfl⟩ | b1
  · rcases ps_pg v2 with ⟨p, hp, rfl⟩ | b2
    · obtain ⟨r, iX, iY⟩ := ps_writable (f := nI F) (m := m) (w := w) (c := c) hs hp
      exact iX _ (iY _ ⟨rfl, ps_fin hF hm hw⟩)
    · exact xr_writable_2 hs b2 (yr_writable_2 hs b2 ⟨rfl, ps_fin hF hm hw⟩)
  · exact xr_writable_1 b1 (yr_writable_1 b1 ⟨rfl, ps_fin hF hm hw⟩)
theorem i_vc_read {k : Nat} {u : SX} {v : SY} (I : i_Rel k u v) (hk : k + 5 ≤ 2561) (v1 : Int32) (v2 : Int32) : wpX_read (fun r => wpY_read (fun r' => r' = r ∧ i_Rel (k + 5) u v) v v1 v2) u v1 v2 := by
  obtain ⟨F, m, w, c, rfl, rfl, hF, hm, hw⟩ := I
  rcases ps_sp v1 with ⟨s, hs, rfl⟩ | b1
  · rcases ps_pg v2 with ⟨p, hp, rfl⟩ | b2
    · obtain ⟨r, iX, iY⟩ := ps_read (f := nI F) (m := m) (w := w) (c := c) hs hp
      exact iX _ (iY _ ⟨rfl, ps_fin hF hm hw⟩)
    · exact xr_read_2 hs b2 (yr_read_2 hs b2 ⟨rfl, ps_fin hF hm hw⟩)
  · exact xr_read_1 b1 (yr_read_1 b1 ⟨rfl, ps_fin hF hm hw⟩)
theorem i_vc_nextMapped {k : Nat} {u : SX} {v : SY} (I : i_Rel k u v) (hk : k + 5 ≤ 2561) (v1 : Int32) (v2 : Int32) : wpX_nextMapped (fun r => wpY_nextMapped (fun r' => r' = r ∧ i_Rel (k + 5) u v) v v1 v2) u v1 v2 := by
  obtain ⟨F, m, w, c, rfl, rfl, hF, hm, hw⟩ := I
  rcases ps_sp v1 with ⟨s, hs, rfl⟩ | b1
  · rcases ps_pg v2 with ⟨p, hp, rfl⟩ | b2
    · obtain ⟨r, iX, iY⟩ := ps_next (f := nI F) (m := m) (w := w) (c := c) hs hp
      exact iX _ (iY _ ⟨rfl, ps_fin hF hm hw⟩)
    · exact xr_nextMapped_2 hs b2 (yr_nextMapped_2 hs b2 ⟨rfl, ps_fin hF hm hw⟩)
  · exact xr_nextMapped_1 b1 (yr_nextMapped_1 b1 ⟨rfl, ps_fin hF hm hw⟩)
theorem i_vc_write {k : Nat} {u : SX} {v : SY} (I : i_Rel k u v) (hk : k + 5 ≤ 2561) (v1 : Int32) (v2 : Int32) (v3 : Int32) : wpX_write (fun r u' => wpY_write (fun r' v' => r' = r ∧ i_Rel (k + 5) u' v') v v1 v2 v3) u v1 v2 v3 := by
  obtain ⟨F, m, w, c, rfl, rfl, hF, hm, hw⟩ := I
  rcases ps_sp v1 with ⟨s, hs, rfl⟩ | b1
  · rcases ps_pg v2 with ⟨p, hp, rfl⟩ | b2
    · obtain ⟨r, c', iX, iY⟩ := ps_write (f := nI F) (m := m) (w := w) (c := c) hs hp v3
      exact iX _ (iY _ ⟨rfl, ps_fin hF hm hw⟩)
    · exact xr_write_2 hs b2 (yr_write_2 hs b2 ⟨rfl, ps_fin hF hm hw⟩)
  · exact xr_write_1 b1 (yr_write_1 b1 ⟨rfl, ps_fin hF hm hw⟩)
theorem i_vc_touch {k : Nat} {u : SX} {v : SY} (I : i_Rel k u v) (hk : k + 5 ≤ 2561) (v1 : Int32) (v2 : Int32) (v3 : Int32) : wpX_touch (fun r u' => wpY_touch (fun r' v' => r' = r ∧ i_Rel (k + 5) u' v') v v1 v2 v3) u v1 v2 v3 := by
  obtain ⟨F, m, w, c, rfl, rfl, hF, hm, hw⟩ := I
  rcases ps_sp v1 with ⟨s, hs, rfl⟩ | b1
  · rcases ps_pg v2 with ⟨p, hp, rfl⟩ | b2
    · obtain ⟨r, m', w', c', hm', hw', iX, iY⟩ := ps_touch (c := c) hF hs hp hm hw v3
      exact iX _ (iY _ ⟨rfl, ps_fin hF hm' hw'⟩)
    · exact xr_touch_2 hs b2 (yr_touch_2 hs b2 ⟨rfl, ps_fin hF hm hw⟩)
  · exact xr_touch_1 b1 (yr_touch_1 b1 ⟨rfl, ps_fin hF hm hw⟩)
theorem i_vc_stamp {k : Nat} {u : SX} {v : SY} (I : i_Rel k u v) (hk : k + 5 ≤ 2561) (v1 : Int32) (v2 : Int32) (v3 : Int32) : wpX_stamp (fun r u' => wpY_stamp (fun r' v' => r' = r ∧ i_Rel (k + 5) u' v') v v1 v2 v3) u v1 v2 v3 := by
  obtain ⟨F, m, w, c, rfl, rfl, hF, hm, hw⟩ := I
  rcases ps_sp v1 with ⟨s, hs, rfl⟩ | b1
  · by_cases h0 : v2 < 0
    · exact xr_stamp_2 hs h0 (yr_stamp_2 hs h0 ⟨rfl, ps_fin hF hm hw⟩)
    · rcases ps_rg (v2 / 64) (v2 - v2 / 64 * 64) with ⟨a, b, h1, h2, ea, eb⟩ | b2
      · obtain ⟨r, c', iX, iY⟩ := ps_stamp (f := nI F) (m := m) (w := w) (c := c) hs h0 h1 h2 ea eb v3
        exact iX _ (iY _ ⟨rfl, ps_fin hF hm hw⟩)
      · exact xr_stamp_3 hs h0 b2 (yr_stamp_3 hs h0 b2 ⟨rfl, ps_fin hF hm hw⟩)
  · exact xr_stamp_1 b1 (yr_stamp_1 b1 ⟨rfl, ps_fin hF hm hw⟩)
theorem i_vc_remap {k : Nat} {u : SX} {v : SY} (I : i_Rel k u v) (hk : k + 5 ≤ 2561) (v1 : Int32) (v2 : Int32) (v3 : Int32) : wpX_remap (fun r u' => wpY_remap (fun r' v' => r' = r ∧ i_Rel (k + 5) u' v') v v1 v2 v3) u v1 v2 v3 := by
  obtain ⟨F, m, w, c, rfl, rfl, hF, hm, hw⟩ := I
  rcases ps_sp v1 with ⟨s, hs, rfl⟩ | b1
  · rcases ps_pg v2 with ⟨p, hp, rfl⟩ | b2
    · rcases ps_pg v3 with ⟨q, hq, rfl⟩ | b3
      · obtain ⟨r, m', w', c', hm', hw', iX, iY⟩ := ps_remap (f := nI F) (c := c) hs hp hq hm hw
        exact iX _ (iY _ ⟨rfl, ps_fin hF hm' hw'⟩)
      · exact xr_remap_3 hs hp b3 (yr_remap_3 hs hp b3 ⟨rfl, ps_fin hF hm hw⟩)
    · exact xr_remap_2 hs b2 (yr_remap_2 hs b2 ⟨rfl, ps_fin hF hm hw⟩)
  · exact xr_remap_1 b1 (yr_remap_1 b1 ⟨rfl, ps_fin hF hm hw⟩)
theorem i_vc_duplicate {k : Nat} {u : SX} {v : SY} (I : i_Rel k u v) (hk : k + 5 ≤ 2561) (v1 : Int32) (v2 : Int32) : wpX_duplicate (fun r u' => wpY_duplicate (fun r' v' => r' = r ∧ i_Rel (k + 5) u' v') v v1 v2) u v1 v2 := by
  obtain ⟨F, m, w, c, rfl, rfl, hF, hm, hw⟩ := I
  rcases ps_sp v1 with ⟨s, hs, rfl⟩ | b1
  · rcases ps_pg v2 with ⟨p, hp, rfl⟩ | b2
    · obtain ⟨r, m', w', c', hm', hw', iX, iY⟩ := ps_duplicate (c := c) hF hs hp hm hw
      exact iX _ (iY _ ⟨rfl, ps_fin hF hm' hw'⟩)
    · exact xr_duplicate_2 hs b2 (yr_duplicate_2 hs b2 ⟨rfl, ps_fin hF hm hw⟩)
  · exact xr_duplicate_1 b1 (yr_duplicate_1 b1 ⟨rfl, ps_fin hF hm hw⟩)
theorem i_vc_exchange {k : Nat} {u : SX} {v : SY} (I : i_Rel k u v) (hk : k + 5 ≤ 2561) (v1 : Int32) : wpX_exchange (fun r u' => wpY_exchange (fun r' v' => r' = r ∧ i_Rel (k + 5) u' v') v v1) u v1 := by
  obtain ⟨F, m, w, c, rfl, rfl, hF, hm, hw⟩ := I
  rcases ps_pg v1 with ⟨p, hp, rfl⟩ | b1
  · obtain ⟨r, m', w', c', hm', hw', iX, iY⟩ := ps_exchange (f := nI F) (c := c) hp hm hw
    exact iX _ (iY _ ⟨rfl, ps_fin hF hm' hw'⟩)
  · exact xr_exchange_1 b1 (yr_exchange_1 b1 ⟨rfl, ps_fin hF hm hw⟩)
theorem i_vc_sum {k : Nat} {u : SX} {v : SY} (I : i_Rel k u v) (hk : k + 5 ≤ 2561) (v1 : Int32) : wpX_sum (fun r => wpY_sum (fun r' => r' = r ∧ i_Rel (k + 5) u v) v v1) u v1 := by
  obtain ⟨F, m, w, c, rfl, rfl, hF, hm, hw⟩ := I
  rcases ps_sp v1 with ⟨s, hs, rfl⟩ | b1
  · obtain ⟨r, iX, iY⟩ := ps_sum (f := nI F) (m := m) (w := w) (c := c) hs
    exact iX _ (iY _ ⟨rfl, ps_fin hF hm hw⟩)
  · exact xr_sum_1 b1 (yr_sum_1 b1 ⟨rfl, ps_fin hF hm hw⟩)
end
