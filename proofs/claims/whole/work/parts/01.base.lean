theorem pk_us {f : Nat → Int32} {k : Nat} {x : Int32} : upd f k x k = x := if_pos rfl
theorem pk_un {f : Nat → Int32} {k j : Nat} {x : Int32} (h : j ≠ k) : upd f k x j = f j := if_neg h
theorem pk_sub {a b : Nat} (h : b ≤ a) : nI a - nI b = nI (a - b) := by
  obtain ⟨c, rfl⟩ : ∃ c, a = c + b := ⟨a - b, by omega⟩
  rw [← nI_add, Int32.add_sub_cancel, Nat.add_sub_cancel]
theorem pk_mul (a b : Nat) : nI a * nI b = nI (a * b) := (Int32.ofNat_mul a b).symm
theorem pk_div {a d : Nat} (ha : a < 2 ^ 31) (h0 : 0 < d) (hd : d < 2 ^ 31) : nI a / nI d = nI (a / d) := by
  apply Int32.toInt_inj.mp
  rw [lg_idiv_nonneg (by rw [nI_toInt ha]; omega) (by rw [nI_toInt hd]; omega), nI_toInt ha, nI_toInt hd, nI_toInt (Nat.lt_of_le_of_lt (Nat.div_le_self a d) ha)]
  first | rfl | exact (Int.natCast_ediv _ _).symm
theorem pk_rem {a d : Nat} (ha : a < 2 ^ 31) (h0 : 0 < d) (hd : d < 2 ^ 31) : nI a - nI a / nI d * nI d = nI (a % d) := by
  rw [pk_div ha h0 hd, pk_mul, pk_sub (Nat.div_mul_le_self a d)]
  exact congrArg nI (by have := Nat.div_add_mod' a d; omega)
theorem pk_ix (x : Int32) {n : Nat} (hn : n < 2 ^ 31) : x < 0 ∨ nI n ≤ x ∨ ∃ j : Nat, j < n ∧ x = nI j := by
  by_cases h : x < 0
  · exact Or.inl h
  · obtain ⟨j, hj, rfl⟩ := nI_of h
    by_cases h2 : j < n
    · exact Or.inr (Or.inr ⟨j, h2, rfl⟩)
    · exact Or.inr (Or.inl (nI_le (by omega) hj))
theorem pk_le {x y : Int32} {A B : Prop} (a b : Nat) (f : a ≤ b → A) (g : b < a → B) (hx : x = nI a := by rfl) (hy : y = nI b := by rfl) (ha : a < 2 ^ 31 := by omega) (hb : b < 2 ^ 31 := by omega) : (x ≤ y → A) ∧ (¬ x ≤ y → B) := by
  subst hx hy
  rw [nI_leI ha hb]
  exact ⟨f, fun z => g (by omega)⟩
theorem pk_lt {x y : Int32} {A B : Prop} (a b : Nat) (f : a < b → A) (g : b ≤ a → B) (hx : x = nI a := by rfl) (hy : y = nI b := by rfl) (ha : a < 2 ^ 31 := by omega) (hb : b < 2 ^ 31 := by omega) : (x < y → A) ∧ (¬ x < y → B) := by
  subst hx hy
  rw [nI_ltI ha hb]
  exact ⟨f, fun z => g (by omega)⟩
theorem pk_eq {x y : Int32} {A B : Prop} (a b : Nat) (f : a = b → A) (g : a ≠ b → B) (hx : x = nI a := by rfl) (hy : y = nI b := by rfl) (ha : a < 2 ^ 31 := by omega) (hb : b < 2 ^ 31 := by omega) : (x = y → A) ∧ (¬ x = y → B) := by
  subst hx hy
  rw [nI_eq ha hb]
  exact ⟨f, g⟩
theorem pk_in {x : Int32} (n N : Nat) (h : n < N) (hx : x = nI n := by rfl) (hN : N < 2 ^ 31 := by omega) : vp_in x N := by
  subst hx
  exact vp_in_nI h hN
theorem pk_cl {x : Int32} (n : Nat) (hx : x = nI n := by rfl) (h : n < 2 ^ 31 := by omega) : x.toNatClampNeg = n := by
  subst hx
  exact nI_clamp h
/-- how many numbers below n have the property -/
noncomputable def af_ct (P : Nat → Prop) : Nat → Nat
  | 0 => 0
  | n + 1 => af_ct P n + @ite Nat (P n) (Classical.propDecidable _) 1 0
theorem af_ct_0 {P : Nat → Prop} : af_ct P 0 = 0 := rfl
theorem af_ct_t {P : Nat → Prop} {n : Nat} (h : P n) : af_ct P (n + 1) = af_ct P n + 1 := by
  simp only [af_ct, if_pos h]
theorem af_ct_f {P : Nat → Prop} {n : Nat} (h : ¬ P n) : af_ct P (n + 1) = af_ct P n := by
  simp only [af_ct, if_neg h, Nat.add_zero]
theorem af_ct_le (P : Nat → Prop) : ∀ n, af_ct P n ≤ n := by
  intro n
  induction n with
  | zero => exact Nat.le_refl _
  | succ n ih =>
    by_cases h : P n
    · rw [af_ct_t h]; omega
    · rw [af_ct_f h]; omega
theorem af_ct_congr {P Q : Nat → Prop} : ∀ n, (∀ i, i < n → (P i ↔ Q i)) → af_ct P n = af_ct Q n := by
  intro n
  induction n with
  | zero => intro _; rfl
  | succ n ih =>
    intro h
    have e := ih (fun i hi => h i (by omega))
    by_cases hp : P n
    · rw [af_ct_t hp, af_ct_t ((h n (by omega)).mp hp), e]
    · rw [af_ct_f hp, af_ct_f (fun q => hp ((h n (by omega)).mpr q)), e]
theorem af_ct_mono {P Q : Nat → Prop} : ∀ n, (∀ i, i < n → P i → Q i) → af_ct P n ≤ af_ct Q n := by
  intro n
  induction n with
  | zero => intro _; exact Nat.le_refl _
  | succ n ih =>
    intro h
    have e := ih (fun i hi => h i (by omega))
    by_cases hp : P n
    · rw [af_ct_t hp, af_ct_t (h n (by omega) hp)]; omega
    · rw [af_ct_f hp]
      by_cases hq : Q n
      · rw [af_ct_t hq]; omega
      · rw [af_ct_f hq]; exact e
theorem af_ct_add1 {P Q : Nat → Prop} {j : Nat} (hj : ¬ P j) (hQ : ∀ i, Q i ↔ (P i ∨ i = j)) : ∀ n, j < n → af_ct Q n = af_ct P n + 1 := by
  intro n
  induction n with
  | zero => intro h; omega
  | succ n ih =>
    intro h
    by_cases e : j = n
    · subst e
      rw [af_ct_t ((hQ j).mpr (Or.inr rfl)), af_ct_f hj]
      rw [af_ct_congr (P := Q) (Q := P) j (fun i hi => ⟨fun q => ((hQ i).mp q).resolve_right (by omega), fun p => (hQ i).mpr (Or.inl p)⟩)]
    · have ih := ih (by omega)
      by_cases hp : P n
      · rw [af_ct_t hp, af_ct_t ((hQ n).mpr (Or.inl hp)), ih]
      · rw [af_ct_f hp, af_ct_f (fun q => hp (((hQ n).mp q).resolve_right (by omega))), ih]
theorem af_ct_lt {P Q : Nat → Prop} {j n : Nat} (hm : ∀ i, i < n → P i → Q i) (hn : j < n) (hq : Q j) (hp : ¬ P j) : af_ct P n < af_ct Q n := by
  have h1 := af_ct_add1 (P := P) (Q := fun i => P i ∨ i = j) hp (fun i => Iff.rfl) n hn
  have h2 := af_ct_mono (P := fun i => P i ∨ i = j) (Q := Q) n (fun i hi h => h.elim (hm i hi) (fun e => e ▸ hq))
  omega
theorem af_ct_top {P : Nat → Prop} {j n : Nat} (hn : j < n) (hp : ¬ P j) : af_ct P n < n :=
  Nat.lt_of_lt_of_le (af_ct_lt (Q := fun _ => True) (fun _ _ _ => True.intro) hn True.intro hp) (af_ct_le _ _)
theorem af_ct_pos {P : Nat → Prop} {j n : Nat} (hn : j < n) (hp : P j) : 0 < af_ct P n :=
  Nat.lt_of_le_of_lt (Nat.zero_le _) (af_ct_lt (P := fun _ => False) (Q := P) (fun _ _ h => h.elim) hn hp (fun h => h))
theorem af_ct_zero {P : Nat → Prop} : ∀ n, (∀ i, i < n → ¬ P i) → af_ct P n = 0 := by
  intro n
  induction n with
  | zero => intro _; rfl
  | succ n ih => intro h; rw [af_ct_f (h n (by omega))]; exact ih (fun i hi => h i (by omega))
theorem af_ct_ex {P : Nat → Prop} : ∀ n, 0 < af_ct P n → ∃ j, j < n ∧ P j := by
  intro n h
  refine Classical.byContradiction fun z => ?_
  rw [af_ct_zero n (fun i hi hp => z ⟨i, hi, hp⟩)] at h
  omega
theorem af_ct_inj {P : Nat → Prop} {m : Nat} (r : Nat → Nat → Prop) (hr : ∀ i i' j, r i j → r i' j → i = i') : ∀ (n : Nat) (Q : Nat → Prop), (∀ i, i < n → P i → ∃ j, j < m ∧ Q j ∧ r i j) → af_ct P n ≤ af_ct Q m := by
  intro n
  induction n with
  | zero => intro Q _; exact Nat.zero_le _
  | succ n ih =>
    intro Q h
    by_cases hp : P n
    · obtain ⟨j, hj, hq, hrj⟩ := h n (by omega) hp
      have h1 := ih (fun x => Q x ∧ x ≠ j) (fun i hi hpi => by
        obtain ⟨j', hj', hq', hr'⟩ := h i (by omega) hpi
        refine ⟨j', hj', ⟨hq', fun e => ?_⟩, hr'⟩
        rw [e] at hr'
        have := hr _ _ _ hrj hr'
        omega)
      have h2 := af_ct_add1 (P := fun x => Q x ∧ x ≠ j) (Q := Q) (j := j) (fun z => z.2 rfl) (fun i => ⟨fun q => by
        by_cases e : i = j
        · exact Or.inr e
        · exact Or.inl ⟨q, e⟩, fun z => z.elim (fun z => z.1) (fun e => e ▸ hq)⟩) m hj
      rw [af_ct_t hp]
      omega
    · rw [af_ct_f hp]
      exact ih Q (fun i hi hpi => h i (by omega) hpi)
theorem af_ct_rep (A : Nat → Prop) (m : Nat) : ∀ s j, j ≤ m → af_ct (fun k => A (k % m)) (m * s + j) = s * af_ct A m + af_ct A j := by
  intro s
  induction s with
  | zero =>
    intro j hj
    rw [Nat.mul_zero, Nat.zero_add, Nat.zero_mul, Nat.zero_add]
    exact af_ct_congr j (fun i hi => by rw [Nat.mod_eq_of_lt (by omega)])
  | succ s ih =>
    intro j
    induction j with
    | zero =>
      intro _
      have h := ih m (Nat.le_refl _)
      simp only [af_ct_0, Nat.add_zero, Nat.mul_succ, h, Nat.succ_mul]
    | succ j ih2 =>
      intro hj
      have h := ih2 (by omega)
      have e : (m * (s + 1) + j) % m = j := by
        rw [Nat.mul_add_mod, Nat.mod_eq_of_lt (by omega)]
      by_cases hp : A j
      · rw [af_ct_t hp, ← Nat.add_assoc, af_ct_t (by rw [e]; exact hp), h, Nat.add_assoc]
      · rw [af_ct_f hp, ← Nat.add_assoc, af_ct_f (by rw [e]; exact hp), h]
