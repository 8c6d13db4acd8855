theorem pk_us {f : Nat → Int32} {k : Nat} {x : Int32} : upd f k x k = x := if_pos rfl
theorem pk_un {f : Nat → Int32} {k j : Nat} {x : Int32} (h : j ≠ k) : upd f k x j = f j := if_neg h
theorem pk_sub {a b : Nat} (h : b ≤ a) : nI a - nI b = nI (a - b) := by
  obtain ⟨c, rfl⟩ : ∃ c, a = c + b := ⟨a - b, by omega⟩
  rw [← nI_add, Int32.add_sub_cancel, Nat.add_sub_cancel]
theorem pk_mul (a b : Nat) : nI a * nI b = nI (a * b) := (Int32.ofNat_mul a b).symm
theorem pk_div {a d : Nat} (ha : a < 2 ^ 31) (h0 : 0 < d) (hd : d < 2 ^ 31) : nI a / nI d = nI (a / d) := by
  apply Int32.toInt_inj.mp
  rw [lg_idiv_nonneg (by rw [nI_toInt ha]; omega) (by rw [nI_toInt hd]; omega), nI_toInt ha, nI_toInt hd, nI_toInt (Nat.lt_of_le_of_lt (Nat.div_le_self a d) ha)]
  first | rfl | exact (Int.natCast_ediv _ _).symm
theorem pk_rem {a d : Nat} (ha : a < 2 ^ 31) (h0 : 0 < d) (hd : d < 2 ^ 31) : nI a - nI a / nI d * nI d = nI (a % d) := by
  rw [pk_div ha h0 hd, pk_mul, pk_sub (Nat.div_mul_le_self a d)]
  exact congrArg nI (by have := Nat.div_add_mod' a d; omega)
theorem pk_sub_toInt {a b : Nat} (ha : a < 2 ^ 30) (hb : b < 2 ^ 30) : (nI a - nI b).toInt = (a : Int) - b := by
  rw [Int32.toInt_sub, nI_toInt (by omega), nI_toInt (by omega)]
  exact Int.bmod_eq_of_le (by omega) (by omega)
theorem pk_ix (x : Int32) {n : Nat} (hn : n < 2 ^ 31) : x < 0 ∨ nI n ≤ x ∨ ∃ j : Nat, j < n ∧ x = nI j := by
  by_cases h : x < 0
  · exact Or.inl h
  · obtain ⟨j, hj, rfl⟩ := nI_of h
    by_cases h2 : j < n
    · exact Or.inr (Or.inr ⟨j, h2, rfl⟩)
    · exact Or.inr (Or.inl (nI_le (by omega) hj))
theorem pk_le {x y : Int32} {A B : Prop} (a b : Nat) (f : a ≤ b → A) (g : b < a → B) (hx : x = nI a := by rfl) (hy : y = nI b := by rfl) (ha : a < 2 ^ 31 := by omega) (hb : b < 2 ^ 31 := by omega) : (x ≤ y → A) ∧ (¬ x ≤ y → B) := by
  subst hx hy
  rw [nI_leI ha hb]
  exact ⟨f, fun z => g (by omega)⟩
theorem pk_lt {x y : Int32} {A B : Prop} (a b : Nat) (f : a < b → A) (g : b ≤ a → B) (hx : x = nI a := by rfl) (hy : y = nI b := by rfl) (ha : a < 2 ^ 31 := by omega) (hb : b < 2 ^ 31 := by omega) : (x < y → A) ∧ (¬ x < y → B) := by
  subst hx hy
  rw [nI_ltI ha hb]
  exact ⟨f, fun z => g (by omega)⟩
theorem pk_eq {x y : Int32} {A B : Prop} (a b : Nat) (f : a = b → A) (g : a ≠ b → B) (hx : x = nI a := by rfl) (hy : y = nI b := by rfl) (ha : a < 2 ^ 31 := by omega) (hb : b < 2 ^ 31 := by omega) : (x = y → A) ∧ (¬ x = y → B) := by
  subst hx hy
  rw [nI_eq ha hb]
  exact ⟨f, g⟩
theorem pk_in {x : Int32} (n N : Nat) (h : n < N) (hx : x = nI n := by rfl) (hN : N < 2 ^ 31 := by omega) : vp_in x N := by
  subst hx
  exact vp_in_nI h hN
theorem pk_cl {x : Int32} (n : Nat) (hx : x = nI n := by rfl) (h : n < 2 ^ 31 := by omega) : x.toNatClampNeg = n := by
  subst hx
  exact nI_clamp h
theorem ps_b0 : vp_nar .boolean 0 = 0 := rfl
theorem ps_b1 : vp_nar .boolean 1 = 1 := rfl
theorem ps_bv {x : Int32} (h : x = 0 ∨ x = 1) : vp_nar .boolean x = x := by
  cases h with
  | inl h => subst h; rfl
  | inr h => subst h; rfl
theorem ps_nb {x : Int32} (h : x = 0 ∨ x = 1) : narrow .boolean (.int x) = .int x := by
  cases h with
  | inl h => subst h; rfl
  | inr h => subst h; rfl
theorem ps_us {f : Nat → Int32} {k : Nat} {x : Int32} (h : f k = x) : upd f k x = f := by
  funext j
  show (if j = k then x else f j) = f j
  split
  · next e => rw [e, h]
  · rfl
/-- every cell of a boolean array holds 0 or 1 -/
def ps_B (m : Nat → Int32) : Prop := ∀ i, m i = 0 ∨ m i = 1
theorem ps_B0 : ps_B (fun _ => 0) := fun _ => Or.inl rfl
theorem ps_Bu {m : Nat → Int32} (h : ps_B m) (k : Nat) {x : Int32} (hx : x = 0 ∨ x = 1) : ps_B (upd m k x) := by
  intro j
  show (if j = k then x else m j) = 0 ∨ (if j = k then x else m j) = 1
  split
  · exact hx
  · exact h j
theorem ps_B1 {m : Nat → Int32} (h : ps_B m) {i : Nat} (z : ¬ m i = 0) : m i = 1 := (h i).resolve_left z
/-- how many of the d cells from s on are not 0 -/
def ps_cnt (m : Nat → Int32) : Nat → Nat → Nat
  | _, 0 => 0
  | s, d + 1 => (if m s = 0 then 0 else 1) + ps_cnt m (s + 1) d
theorem ps_cnt_t {m : Nat → Int32} {s d : Nat} (h : ¬ m s = 0) : ps_cnt m s (d + 1) = 1 + ps_cnt m (s + 1) d := by
  rw [ps_cnt, if_neg h]
theorem ps_cnt_f {m : Nat → Int32} {s d : Nat} (h : m s = 0) : ps_cnt m s (d + 1) = ps_cnt m (s + 1) d := by
  rw [ps_cnt, if_pos h, Nat.zero_add]
theorem ps_cnt_le (m : Nat → Int32) : ∀ d s, ps_cnt m s d ≤ d := by
  intro d
  induction d with
  | zero => intro s; exact Nat.le_refl 0
  | succ d ih =>
    intro s
    have h := ih (s + 1)
    by_cases z : m s = 0
    · rw [ps_cnt_f z]; omega
    · rw [ps_cnt_t z]; omega
theorem ps_cnt_u (m : Nat → Int32) (k : Nat) (x : Int32) : ∀ d s, k < s → ps_cnt (upd m k x) s d = ps_cnt m s d := by
  intro d
  induction d with
  | zero => intro s _; rfl
  | succ d ih =>
    intro s h
    rw [ps_cnt, ps_cnt, ih (s + 1) (by omega), pk_un (by omega : s ≠ k)]
theorem ps_le_free {a f n : Nat} (ha : a ≤ 64) (hf : f ≤ 64) (hn : n ≤ 64) : nI a ≤ nI f - nI n ↔ n + a ≤ f := by
  rw [Int32.le_iff_toInt_le, pk_sub_toInt (by omega) (by omega), nI_toInt (by omega)]
  omega
theorem ps_free0 {f n : Nat} (hf : f ≤ 64) (hn : n ≤ 64) : nI f - nI n = 0 ↔ n = f := by
  rw [← Int32.toInt_inj, pk_sub_toInt (by omega) (by omega), show (0 : Int32).toInt = 0 from by decide]
  omega
theorem ps_slot (s p : Nat) : nI s * 32 + nI p = nI (s * 32 + p) := by
  rw [show (32 : Int32) = nI 32 from rfl, pk_mul, nI_add]
theorem ps_slot' (s p : Nat) : 32 * nI s + nI p = nI (s * 32 + p) := by
  rw [show (32 : Int32) = nI 32 from rfl, pk_mul, nI_add, Nat.mul_comm]
/-- no space: it is below 0 or above 1 -/
def ps_NS (x : Int32) : Prop := ¬ x = 0 ∧ ¬ x = 1 ∧ (x < 0 ∨ ¬ x < 0 ∧ ¬ x ≤ 1)
theorem ps_sp (x : Int32) : (∃ s : Nat, s < 2 ∧ x = nI s) ∨ ps_NS x := by
  by_cases h : x < 0
  · refine Or.inr ⟨?_, ?_, Or.inl h⟩
    · intro e; subst e; exact absurd h (by decide)
    · intro e; subst e; exact absurd h (by decide)
  · obtain ⟨j, hj, rfl⟩ := nI_of h
    by_cases h2 : j < 2
    · exact Or.inl ⟨j, h2, rfl⟩
    · refine Or.inr ⟨nI_ne0 (by omega) hj, ?_, Or.inr ⟨h, nI_ge (b := j) (a := 1) (by omega) hj⟩⟩
      intro e
      exact absurd ((nI_eq (a := j) (b := 1) hj (by omega)).mp e) (by omega)
/-- no page: it is below 0 or above 31 -/
def ps_NP (x : Int32) : Prop := x < 0 ∨ ¬ x < 0 ∧ ¬ x ≤ 31 ∧ 32 ≤ x
theorem ps_pg (x : Int32) : (∃ p : Nat, p < 32 ∧ x = nI p) ∨ ps_NP x := by
  by_cases h : x < 0
  · exact Or.inr (Or.inl h)
  · obtain ⟨j, hj, rfl⟩ := nI_of h
    by_cases h2 : j < 32
    · exact Or.inl ⟨j, h2, rfl⟩
    · exact Or.inr (Or.inr ⟨h, nI_ge (b := j) (a := 31) (by omega) hj, nI_le (a := 32) (b := j) (by omega) hj⟩)
/-- no range of pages -/
def ps_NR (p c : Int32) : Prop := c < 1 ∨ (¬ c < 1 ∧ ¬ c ≤ 32 ∧ 32 < c) ∨ (¬ c < 1 ∧ c ≤ 32 ∧ ¬ 32 < c ∧ (p < 0 ∨ ¬ p < 0 ∧ ¬ p ≤ 32 - c ∧ 32 - c < p))
theorem ps_32 {b : Nat} (h : b ≤ 32) : 32 - nI b = nI (32 - b) := pk_sub (a := 32) h
theorem ps_rg (p c : Int32) : (∃ a b : Nat, 1 ≤ b ∧ a + b ≤ 32 ∧ p = nI a ∧ c = nI b) ∨ ps_NR p c := by
  by_cases h1 : c < 1
  · exact Or.inr (Or.inl h1)
  · by_cases h2 : c ≤ 32
    · have h0 : ¬ c < 0 := fun z => h1 (Int32.lt_of_lt_of_le z (by decide))
      have h2' : ¬ 32 < c := Int32.not_lt.mpr h2
      obtain ⟨b, hb, rfl⟩ := nI_of h0
      have hb1 : 1 ≤ b := by
        have : ¬ b < 1 := fun z => h1 ((nI_ltI (a := b) (b := 1) hb (by omega)).mpr z)
        omega
      have hb2 : b ≤ 32 := (nI_leI (a := b) (b := 32) hb (by omega)).mp h2
      by_cases h3 : p < 0
      · exact Or.inr (Or.inr (Or.inr ⟨h1, h2, h2', Or.inl h3⟩))
      · by_cases h4 : p ≤ 32 - nI b
        · obtain ⟨a, ha, rfl⟩ := nI_of h3
          rw [ps_32 hb2, nI_leI ha (by omega)] at h4
          exact Or.inl ⟨a, b, hb1, by omega, rfl, rfl⟩
        · exact Or.inr (Or.inr (Or.inr ⟨h1, h2, h2', Or.inr ⟨h3, h4, Int32.not_le.mp h4⟩⟩))
    · exact Or.inr (Or.inr (Or.inl ⟨h1, h2, Int32.not_le.mp h2⟩))
theorem ps_in {x : Int32} {i : Nat} (e : x = nI i) (hi : i < 64) : vp_in x 64 := by
  subst e
  exact vp_in_nI hi (by omega)
theorem ps_v {x : Int32} {i : Nat} {m : Nat → Int32} (e : x = nI i) (hi : i < 64) : m x.toNatClampNeg = m i := by
  subst e
  rw [nI_clamp (by omega)]
theorem ps_z {x : Int32} {i : Nat} {m : Nat → Int32} (e : x = nI i) (hi : i < 64) (z : m i = 0) : m x.toNatClampNeg = 0 := (ps_v e hi).trans z
theorem ps_n {x : Int32} {i : Nat} {m : Nat → Int32} (e : x = nI i) (hi : i < 64) (z : ¬ m i = 0) : ¬ m x.toNatClampNeg = 0 := fun y => z ((ps_v e hi).symm.trans y)
theorem ps_s {x y y' : Int32} {i : Nat} {m : Nat → Int32} (e : x = nI i) (hi : i < 64) (hy : y = y') : upd m x.toNatClampNeg y = upd m i y' := by
  subst e hy
  rw [nI_clamp (by omega)]
theorem ps_yle {a b p : Nat} (h : a + b ≤ p) (hp : p < 2 ^ 31) : nI a + nI b ≤ nI p := by
  rw [nI_add]
  exact nI_le h hp
theorem ps_ynle {a b p : Nat} (h : p < a + b) (hb : a + b < 2 ^ 31) : ¬ nI a + nI b ≤ nI p := by
  rw [nI_add]
  exact nI_ge h hb
