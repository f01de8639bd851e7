section
theorem pk_us {f : Nat → Int32} {k : Nat} {x : Int32} : upd f k x k = x := if_pos rfl
theorem pk_un {f : Nat → Int32} {k j : Nat} {x : Int32} (h : j ≠ k) : upd f k x j = f j := if_neg h
theorem pk_sub {a b : Nat} (h : b ≤ a) : nI a - nI b = nI (a - b) := by
  obtain ⟨c, rfl⟩ : ∃ c, a = c + b := ⟨a - b, by omega⟩
  rw [← nI_add, Int32.add_sub_cancel, Nat.add_sub_cancel]
theorem pk_mul (a b : Nat) : nI a * nI b = nI (a * b) := (Int32.ofNat_mul a b).symm
theorem pk_div {a d : Nat} (ha : a < 2 ^ 31) (h0 : 0 < d) (hd : d < 2 ^ 31) : nI a / nI d = nI (a / d) := by
  apply Int32.toInt_inj.mp
  rw [lg_idiv_nonneg (by rw [nI_toInt ha]; omega) (by rw [nI_toInt hd]; omega), nI_toInt ha, nI_toInt hd, nI_toInt (Nat.lt_of_le_of_lt (Nat.div_le_self a d) ha)]
  first | rfl | exact (Int.natCast_ediv _ _).symm
theorem pk_rem {a d : Nat} (ha : a < 2 ^ 31) (h0 : 0 < d) (hd : d < 2 ^ 31) : nI a - nI a / nI d * nI d = nI (a % d) := by
  rw [pk_div ha h0 hd, pk_mul, pk_sub (Nat.div_mul_le_self a d)]
  exact congrArg nI (by have := Nat.div_add_mod' a d; omega)
theorem pk_ix (x : Int32) {n : Nat} (hn : n < 2 ^ 31) : x < 0 ∨ nI n ≤ x ∨ ∃ j : Nat, j < n ∧ x = nI j := by
  by_cases h : x < 0
  · exact Or.inl h
  · obtain ⟨j, hj, rfl⟩ := nI_of h
    by_cases h2 : j < n
    · exact Or.inr (Or.inr ⟨j, h2, rfl⟩)
    · exact Or.inr (Or.inl (nI_le (by omega) hj))
theorem pk_le {x y : Int32} {A B : Prop} (a b : Nat) (f : a ≤ b → A) (g : b < a → B) (hx : x = nI a := by rfl) (hy : y = nI b := by rfl) (ha : a < 2 ^ 31 := by omega) (hb : b < 2 ^ 31 := by omega) : (x ≤ y → A) ∧ (¬ x ≤ y → B) := by
  subst hx hy
  rw [nI_leI ha hb]
  exact ⟨f, fun z => g (by omega)⟩
theorem pk_lt {x y : Int32} {A B : Prop} (a b : Nat) (f : a < b → A) (g : b ≤ a → B) (hx : x = nI a := by rfl) (hy : y = nI b := by rfl) (ha : a < 2 ^ 31 := by omega) (hb : b < 2 ^ 31 := by omega) : (x < y → A) ∧ (¬ x < y → B) := by
  subst hx hy
  rw [nI_ltI ha hb]
  exact ⟨f, fun z => g (by omega)⟩
theorem pk_eq {x y : Int32} {A B : Prop} (a b : Nat) (f : a = b → A) (g : a ≠ b → B) (hx : x = nI a := by rfl) (hy : y = nI b := by rfl) (ha : a < 2 ^ 31 := by omega) (hb : b < 2 ^ 31 := by omega) : (x = y → A) ∧ (¬ x = y → B) := by
  subst hx hy
  rw [nI_eq ha hb]
  exact ⟨f, g⟩
theorem pk_in {x : Int32} (n N : Nat) (h : n < N) (hx : x = nI n := by rfl) (hN : N < 2 ^ 31 := by omega) : vp_in x N := by
  subst hx
  exact vp_in_nI h hN
theorem pk_cl {x : Int32} (n : Nat) (hx : x = nI n := by rfl) (h : n < 2 ^ 31 := by omega) : x.toNatClampNeg = n := by
  subst hx
  exact nI_clamp h
/-- how many numbers below n have the property -/
noncomputable def af_ct (P : Nat → Prop) : Nat → Nat
  | 0 => 0
  | n + 1 => af_ct P n + @ite Nat (P n) (Classical.propDecidable _) 1 0
theorem af_ct_0 {P : Nat → Prop} : af_ct P 0 = 0 := rfl
theorem af_ct_t {P : Nat → Prop} {n : Nat} (h : P n) : af_ct P (n + 1) = af_ct P n + 1 := by
  simp only [af_ct, if_pos h]
theorem af_ct_f {P : Nat → Prop} {n : Nat} (h : ¬ P n) : af_ct P (n + 1) = af_ct P n := by
  simp only [af_ct, if_neg h, Nat.add_zero]
theorem af_ct_le (P : Nat → Prop) : ∀ n, af_ct P n ≤ n := by
  intro n
  induction n with
  | zero => exact Nat.le_refl _
  | succ n ih =>
    by_cases h : P n
    · rw [af_ct_t h]; omega
    · rw [af_ct_f h]; omega
theorem af_ct_congr {P Q : Nat → Prop} : ∀ n, (∀ i, i < n → (P i ↔ Q i)) → af_ct P n = af_ct Q n := by
  intro n
  induction n with
  | zero => intro _; rfl
  | succ n ih =>
    intro h
    have e := ih (fun i hi => h i (by omega))
    by_cases hp : P n
    · rw [af_ct_t hp, af_ct_t ((h n (by omega)).mp hp), e]
    · rw [af_ct_f hp, af_ct_f (fun q => hp ((h n (by omega)).mpr q)), e]
theorem af_ct_mono {P Q : Nat → Prop} : ∀ n, (∀ i, i < n → P i → Q i) → af_ct P n ≤ af_ct Q n := by
  intro n
  induction n with
  | zero => intro _; exact Nat.le_refl _
  | succ n ih =>
    intro h
    have e := ih (fun i hi => h i (by omega))
    by_cases hp : P n
    · rw [af_ct_t hp, af_ct_t (h n (by omega) hp)]; omega
    · rw [af_ct_f hp]
      by_cases hq : Q n
      · rw [af_ct_t hq]; omega
      · rw [af_ct_f hq]; exact e
theorem af_ct_add1 {P Q : Nat → Prop} {j : Nat} (hj : ¬ P j) (hQ : ∀ i, Q i ↔ (P i ∨ i = j)) : ∀ n, j < n → af_ct Q n = af_ct P n + 1 := by
  intro n
  induction n with
  | zero => intro h; omega
  | succ n ih =>
    intro h
    by_cases e : j = n
    · subst e
      rw [af_ct_t ((hQ j).mpr (Or.inr rfl)), af_ct_f hj]
      rw [af_ct_congr (P := Q) (Q := P) j (fun i hi => ⟨fun q => ((hQ i).mp q).resolve_right (by omega), fun p => (hQ i).mpr (Or.inl p)⟩)]
    · have ih := ih (by omega)
      by_cases hp : P n
      · rw [af_ct_t hp, af_ct_t ((hQ n).mpr (Or.inl hp)), ih]
      · rw [af_ct_f hp, af_ct_f (fun q => hp (((hQ n).mp q).resolve_right (by omega))), ih]
theorem af_ct_lt {P Q : Nat → Prop} {j n : Nat} (hm : ∀ i, i < n → P i → Q i) (hn : j < n) (hq : Q j) (hp : ¬ P j) : af_ct P n < af_ct Q n := by
  have h1 := af_ct_add1 (P := P) (Q := fun i => P i ∨ i = j) hp (fun i => Iff.rfl) n hn
  have h2 := af_ct_mono (P := fun i => P i ∨ i = j) (Q := Q) n (fun i hi h => h.elim (hm i hi) (fun e => e ▸ hq))
  omega
theorem af_ct_top {P : Nat → Prop} {j n : Nat} (hn : j < n) (hp : ¬ P j) : af_ct P n < n :=
  Nat.lt_of_lt_of_le (af_ct_lt (Q := fun _ => True) (fun _ _ _ => True.intro) hn True.intro hp) (af_ct_le _ _)
theorem af_ct_pos {P : Nat → Prop} {j n : Nat} (hn : j < n) (hp : P j) : 0 < af_ct P n :=
  Nat.lt_of_le_of_lt (Nat.zero_le _) (af_ct_lt (P := fun _ => False) (Q := P) (fun _ _ h => h.elim) hn hp (fun h => h))
theorem af_ct_zero {P : Nat → Prop} : ∀ n, (∀ i, i < n → ¬ P i) → af_ct P n = 0 := by
  intro n
  induction n with
  | zero => intro _; rfl
  | succ n ih => intro h; rw [af_ct_f (h n (by omega))]; exact ih (fun i hi => h i (by omega))
theorem af_ct_ex {P : Nat → Prop} : ∀ n, 0 < af_ct P n → ∃ j, j < n ∧ P j := by
  intro n h
  refine Classical.byContradiction fun z => ?_
  rw [af_ct_zero n (fun i hi hp => z ⟨i, hi, hp⟩)] at h
  omega
theorem af_ct_inj {P : Nat → Prop} {m : Nat} (r : Nat → Nat → Prop) (hr : ∀ i i' j, r i j → r i' j → i = i') : ∀ (n : Nat) (Q : Nat → Prop), (∀ i, i < n → P i → ∃ j, j < m ∧ Q j ∧ r i j) → af_ct P n ≤ af_ct Q m := by
  intro n
  induction n with
  | zero => intro Q _; exact Nat.zero_le _
  | succ n ih =>
    intro Q h
    by_cases hp : P n
    · obtain ⟨j, hj, hq, hrj⟩ := h n (by omega) hp
      have h1 := ih (fun x => Q x ∧ x ≠ j) (fun i hi hpi => by
        obtain ⟨j', hj', hq', hr'⟩ := h i (by omega) hpi
        refine ⟨j', hj', ⟨hq', fun e => ?_⟩, hr'⟩
        rw [e] at hr'
        have := hr _ _ _ hrj hr'
        omega)
      have h2 := af_ct_add1 (P := fun x => Q x ∧ x ≠ j) (Q := Q) (j := j) (fun z => z.2 rfl) (fun i => ⟨fun q => by
        by_cases e : i = j
        · exact Or.inr e
        · exact Or.inl ⟨q, e⟩, fun z => z.elim (fun z => z.1) (fun e => e ▸ hq)⟩) m hj
      rw [af_ct_t hp]
      omega
    · rw [af_ct_f hp]
      exact ih Q (fun i hi hpi => h i (by omega) hpi)
theorem af_ct_rep (A : Nat → Prop) (m : Nat) : ∀ s j, j ≤ m → af_ct (fun k => A (k % m)) (m * s + j) = s * af_ct A m + af_ct A j := by
  intro s
  induction s with
  | zero =>
    intro j hj
    rw [Nat.mul_zero, Nat.zero_add, Nat.zero_mul, Nat.zero_add]
    exact af_ct_congr j (fun i hi => by rw [Nat.mod_eq_of_lt (by omega)])
  | succ s ih =>
    intro j
    induction j with
    | zero =>
      intro _
      have h := ih m (Nat.le_refl _)
      simp only [af_ct_0, Nat.add_zero, Nat.mul_succ, h, Nat.succ_mul]
    | succ j ih2 =>
      intro hj
      have h := ih2 (by omega)
      have e : (m * (s + 1) + j) % m = j := by
        rw [Nat.mul_add_mod, Nat.mod_eq_of_lt (by omega)]
      by_cases hp : A j
      · rw [af_ct_t hp, ← Nat.add_assoc, af_ct_t (by rw [e]; exact hp), h, Nat.add_assoc]
      · rw [af_ct_f hp, ← Nat.add_assoc, af_ct_f (by rw [e]; exact hp), h]
end
section
/-- a number as a digit modulo 7 -/
def af_ph (n : Nat) : Fin 7 := Fin.ofNat 7 n
theorem af_ph_v (n : Nat) : (af_ph n).val = n % 7 := rfl
theorem af_ph_eq {a b : Nat} : af_ph a = af_ph b ↔ a % 7 = b % 7 :=
  ⟨fun h => congrArg Fin.val h, fun h => Fin.ext h⟩
theorem af_ph_add (a b : Nat) : af_ph (a + b) = af_ph a + af_ph b := by
  apply Fin.ext
  rw [Fin.val_add, af_ph_v, af_ph_v, af_ph_v, Nat.add_mod]
theorem af_ph_mul (a b : Nat) : af_ph (a * b) = af_ph a * af_ph b := by
  apply Fin.ext
  rw [Fin.val_mul, af_ph_v, af_ph_v, af_ph_v, Nat.mul_mod]
theorem af_ph_mod (a : Nat) : af_ph (a % 7) = af_ph a := af_ph_eq.mpr (Nat.mod_mod _ _)
theorem af_ph_val (a : Fin 7) : af_ph a.val = a := Fin.ext (Nat.mod_eq_of_lt a.isLt)
theorem af_ph_7 : af_ph 7 = 0 := rfl
theorem af_ph_0 : af_ph 0 = 0 := rfl
theorem af_ph_1 : af_ph 1 = 1 := rfl
theorem af_inv : ∀ a : Fin 7, a ≠ 0 → ∃ b : Fin 7, a * b = 1 := by decide
/-- the left side of an equation at a triple -/
def af_lf (e t : Nat) : Nat := e % 7 * (t % 7) + e / 7 % 7 * (t / 7 % 7) + e / 49 % 7 * (t / 49 % 7)
/-- a triple keeps to an equation -/
def af_kp (e t : Nat) : Prop := af_lf e t % 7 = e / 343 % 7
/-- a triple with another value of one variable -/
def af_wv (t k v : Nat) : Nat := if k = 0 then t - t % 7 + v else if k = 1 then t % 7 + 7 * v + t / 49 * 49 else t % 49 + 49 * v
/-- a triple moved s times by the way from o to w -/
def af_sh (t s o w : Nat) : Nat := (t % 7 + s * (w % 7 + 7 - o % 7)) % 7 + 7 * ((t / 7 % 7 + s * (w / 7 % 7 + 7 - o / 7 % 7)) % 7) + 49 * ((t / 49 % 7 + s * (w / 49 % 7 + 7 - o / 49 % 7)) % 7)
def af_L (e t : Nat) : Fin 7 := af_ph e * af_ph t + af_ph (e / 7) * af_ph (t / 7) + af_ph (e / 49) * af_ph (t / 49) - af_ph (e / 343)
theorem af_lf_ph (e t : Nat) : af_ph (af_lf e t) = af_ph e * af_ph t + af_ph (e / 7) * af_ph (t / 7) + af_ph (e / 49) * af_ph (t / 49) := by
  unfold af_lf
  simp only [af_ph_add, af_ph_mul, af_ph_mod]
theorem af_kp_iff {e t : Nat} : af_kp e t ↔ af_L e t = 0 := by
  have h : af_kp e t ↔ af_ph (af_lf e t) = af_ph (e / 343) := af_ph_eq.symm
  rw [h, af_lf_ph]
  unfold af_L
  generalize af_ph e * af_ph t + af_ph (e / 7) * af_ph (t / 7) + af_ph (e / 49) * af_ph (t / 49) = x
  generalize af_ph (e / 343) = y
  constructor
  · intro h; rw [h]; grind
  · intro h; grind
theorem af_way (w o : Nat) : af_ph (w % 7 + 7 - o % 7) = af_ph w - af_ph o := by
  have h : af_ph (w % 7 + 7 - o % 7) + af_ph o = af_ph w := by
    rw [← af_ph_add]
    exact af_ph_eq.mpr (by omega)
  grind
theorem af_dig (a b c : Nat) : af_ph (a % 7 + 7 * (b % 7) + 49 * (c % 7)) = af_ph a ∧ af_ph ((a % 7 + 7 * (b % 7) + 49 * (c % 7)) / 7) = af_ph b ∧ af_ph ((a % 7 + 7 * (b % 7) + 49 * (c % 7)) / 49) = af_ph c :=
  ⟨af_ph_eq.mpr (by omega), af_ph_eq.mpr (by omega), af_ph_eq.mpr (by omega)⟩
theorem af_sh_lt (t s o w : Nat) : af_sh t s o w < 343 := by
  unfold af_sh
  generalize t % 7 + s * (w % 7 + 7 - o % 7) = a
  generalize t / 7 % 7 + s * (w / 7 % 7 + 7 - o / 7 % 7) = b
  generalize t / 49 % 7 + s * (w / 49 % 7 + 7 - o / 49 % 7) = c
  omega
theorem af_sh_ph (t s o w : Nat) : af_ph (af_sh t s o w) = af_ph t + af_ph s * (af_ph w - af_ph o) ∧ af_ph (af_sh t s o w / 7) = af_ph (t / 7) + af_ph s * (af_ph (w / 7) - af_ph (o / 7)) ∧ af_ph (af_sh t s o w / 49) = af_ph (t / 49) + af_ph s * (af_ph (w / 49) - af_ph (o / 49)) := by
  have h := af_dig (t % 7 + s * (w % 7 + 7 - o % 7)) (t / 7 % 7 + s * (w / 7 % 7 + 7 - o / 7 % 7)) (t / 49 % 7 + s * (w / 49 % 7 + 7 - o / 49 % 7))
  unfold af_sh
  rw [h.1, h.2.1, h.2.2]
  simp only [af_ph_add, af_ph_mul, af_ph_mod, af_way, and_self]
theorem af_ext {t t' : Nat} (h : t < 343) (h' : t' < 343) (e0 : af_ph t = af_ph t') (e1 : af_ph (t / 7) = af_ph (t' / 7)) (e2 : af_ph (t / 49) = af_ph (t' / 49)) : t = t' := by
  rw [af_ph_eq] at e0 e1 e2
  omega
theorem af_mk (a b c d : Fin 7) : ∃ e, e < 2401 ∧ af_ph e = a ∧ af_ph (e / 7) = b ∧ af_ph (e / 49) = c ∧ af_ph (e / 343) = d := by
  obtain ⟨a, ha⟩ := a
  obtain ⟨b, hb⟩ := b
  obtain ⟨c, hc⟩ := c
  obtain ⟨d, hd⟩ := d
  refine ⟨a + 7 * b + 49 * c + 343 * d, by omega, Fin.ext ?_, Fin.ext ?_, Fin.ext ?_, Fin.ext ?_⟩
  · show (a + 7 * b + 49 * c + 343 * d) % 7 = a
    omega
  · show (a + 7 * b + 49 * c + 343 * d) / 7 % 7 = b
    omega
  · show (a + 7 * b + 49 * c + 343 * d) / 49 % 7 = c
    omega
  · show (a + 7 * b + 49 * c + 343 * d) / 343 % 7 = d
    omega
theorem af_L_sh (e t s o w : Nat) : af_L e (af_sh t s o w) = af_L e t + af_ph s * (af_L e w - af_L e o) := by
  have h := af_sh_ph t s o w
  unfold af_L
  rw [h.1, h.2.1, h.2.2]
  generalize af_ph e = e0
  generalize af_ph (e / 7) = e1
  generalize af_ph (e / 49) = e2
  generalize af_ph (e / 343) = e3
  generalize af_ph t = t0
  generalize af_ph (t / 7) = t1
  generalize af_ph (t / 49) = t2
  generalize af_ph o = o0
  generalize af_ph (o / 7) = o1
  generalize af_ph (o / 49) = o2
  generalize af_ph w = w0
  generalize af_ph (w / 7) = w1
  generalize af_ph (w / 49) = w2
  generalize af_ph s = s0
  clear h
  grind
theorem af_comb (e1 e2 : Nat) (c : Fin 7) : ∃ e, e < 2401 ∧ ∀ t, af_L e t = af_L e1 t - c * af_L e2 t := by
  obtain ⟨e, he, h0, h1, h2, h3⟩ := af_mk (af_ph e1 - c * af_ph e2) (af_ph (e1 / 7) - c * af_ph (e2 / 7)) (af_ph (e1 / 49) - c * af_ph (e2 / 49)) (af_ph (e1 / 343) - c * af_ph (e2 / 343))
  refine ⟨e, he, fun t => ?_⟩
  unfold af_L
  rw [h0, h1, h2, h3]
  generalize af_ph e1 = a0
  generalize af_ph (e1 / 7) = a1
  generalize af_ph (e1 / 49) = a2
  generalize af_ph (e1 / 343) = a3
  generalize af_ph e2 = b0
  generalize af_ph (e2 / 7) = b1
  generalize af_ph (e2 / 49) = b2
  generalize af_ph (e2 / 343) = b3
  generalize af_ph t = t0
  generalize af_ph (t / 7) = t1
  generalize af_ph (t / 49) = t2
  clear h0 h1 h2 h3
  grind
theorem af_dg (a : Fin 7) : ∃ s, s < 7 ∧ af_ph s = a := ⟨a.val, a.isLt, af_ph_val a⟩
theorem af_sh_0 {t o w : Nat} (h : t < 343) : af_sh t 0 o w = t := by
  have p := af_sh_ph t 0 o w
  rw [af_ph_0] at p
  exact af_ext (af_sh_lt _ _ _ _) h (by rw [p.1]; grind) (by rw [p.2.1]; grind) (by rw [p.2.2]; grind)
theorem af_sh_1 {o w : Nat} (h : w < 343) : af_sh o 1 o w = w := by
  have p := af_sh_ph o 1 o w
  rw [af_ph_1] at p
  exact af_ext (af_sh_lt _ _ _ _) h (by rw [p.1]; grind) (by rw [p.2.1]; grind) (by rw [p.2.2]; grind)
theorem af_sh_sh (t s s' o w : Nat) : ∃ q, q < 7 ∧ af_sh (af_sh t s o w) s' o w = af_sh t q o w := by
  obtain ⟨q, hq, e⟩ := af_dg (af_ph s + af_ph s')
  refine ⟨q, hq, ?_⟩
  have p := af_sh_ph t s o w
  have p' := af_sh_ph (af_sh t s o w) s' o w
  have p2 := af_sh_ph t q o w
  exact af_ext (af_sh_lt _ _ _ _) (af_sh_lt _ _ _ _) (by rw [p'.1, p.1, p2.1, e]; grind) (by rw [p'.2.1, p.2.1, p2.2.1, e]; grind) (by rw [p'.2.2, p.2.2, p2.2.2, e]; grind)
/-- whatever lies outside is told apart by an equation that holds inside -/
def af_Sep (A : Nat → Prop) : Prop := ∀ t, t < 343 → ¬ A t → ∃ e, e < 2401 ∧ (∀ a, a < 343 → A a → af_kp e a) ∧ ¬ af_kp e t
/-- the set, widened by the way from o to w -/
def af_Wd (A : Nat → Prop) (o w : Nat) : Nat → Prop := fun t => ∃ a, a < 343 ∧ A a ∧ ∃ s, s < 7 ∧ t = af_sh a s o w
theorem af_sep_none {A : Nat → Prop} (h : ∀ t, t < 343 → ¬ A t) : af_Sep A := by
  intro t _ _
  refine ⟨343, by decide, fun a ha hA => (h a ha hA).elim, ?_⟩
  intro z
  have e : af_lf 343 t = 0 := by
    show 0 * (t % 7) + 0 * (t / 7 % 7) + 0 * (t / 49 % 7) = 0
    omega
  unfold af_kp at z
  rw [e] at z
  exact absurd z (by decide)
theorem af_sep_one {w : Nat} (hw : w < 343) {A : Nat → Prop} (hA : ∀ t, t < 343 → (A t ↔ t = w)) : af_Sep A := by
  intro t ht hn
  have hne : t ≠ w := fun e => hn ((hA t ht).mpr e)
  have go : ∀ x y z : Fin 7, (x * af_ph t + y * af_ph (t / 7) + z * af_ph (t / 49)) ≠ (x * af_ph w + y * af_ph (w / 7) + z * af_ph (w / 49)) → ∃ e, e < 2401 ∧ (∀ a, a < 343 → A a → af_kp e a) ∧ ¬ af_kp e t := by
    intro x y z hd
    obtain ⟨e, he, h0, h1, h2, h3⟩ := af_mk x y z (x * af_ph w + y * af_ph (w / 7) + z * af_ph (w / 49))
    refine ⟨e, he, fun a ha hAa => ?_, fun k => ?_⟩
    · rw [(hA a ha).mp hAa, af_kp_iff]
      unfold af_L
      rw [h0, h1, h2, h3]
      generalize x * af_ph w + y * af_ph (w / 7) + z * af_ph (w / 49) = q
      grind
    · rw [af_kp_iff] at k
      unfold af_L at k
      rw [h0, h1, h2, h3] at k
      apply hd
      revert k
      generalize x * af_ph w + y * af_ph (w / 7) + z * af_ph (w / 49) = q
      generalize x * af_ph t + y * af_ph (t / 7) + z * af_ph (t / 49) = q'
      intro k
      grind
  by_cases e0 : af_ph t = af_ph w
  · by_cases e1 : af_ph (t / 7) = af_ph (w / 7)
    · by_cases e2 : af_ph (t / 49) = af_ph (w / 49)
      · exact absurd (af_ext ht hw e0 e1 e2) hne
      · exact go 0 0 1 (fun k => e2 (by grind))
    · exact go 0 1 0 (fun k => e1 (by grind))
  · exact go 1 0 0 (fun k => e0 (by grind))
theorem af_wd_in {A : Nat → Prop} {o w t : Nat} (ht : t < 343) (h : A t) : af_Wd A o w t := ⟨t, ht, h, 0, by decide, (af_sh_0 ht).symm⟩
theorem af_wd_w {A : Nat → Prop} {o w : Nat} (ho : o < 343) (hw : w < 343) (h : A o) : af_Wd A o w w := ⟨o, ho, h, 1, by decide, (af_sh_1 hw).symm⟩
theorem af_wd_sh {A : Nat → Prop} {o w t s : Nat} (h : af_Wd A o w t) : af_Wd A o w (af_sh t s o w) := by
  obtain ⟨a, ha, hA, q, _, rfl⟩ := h
  obtain ⟨q', hq', e⟩ := af_sh_sh a q s o w
  exact ⟨a, ha, hA, q', hq', e⟩
theorem af_wd_kp {A : Nat → Prop} {o w e : Nat} (hA : ∀ a, a < 343 → A a → af_kp e a) (ho : af_kp e o) (hw : af_kp e w) {t : Nat} (h : af_Wd A o w t) : af_kp e t := by
  obtain ⟨a, ha, hAa, s, _, rfl⟩ := h
  have h1 := af_kp_iff.mp (hA a ha hAa)
  have h2 := af_kp_iff.mp ho
  have h3 := af_kp_iff.mp hw
  rw [af_kp_iff, af_L_sh, h1, h2, h3]
  grind
theorem af_sep_wd {A : Nat → Prop} {o w : Nat} (hS : af_Sep A) (ho : o < 343) (hw : w < 343) (hAo : A o) (hAw : ¬ A w) : af_Sep (af_Wd A o w) := by
  intro t ht hn
  obtain ⟨f, _, hf, hfw⟩ := hS w hw hAw
  rw [af_kp_iff] at hfw
  obtain ⟨b, hb⟩ := af_inv _ hfw
  have hfo := af_kp_iff.mp (hf o ho hAo)
  -- back along the way until f is zero
  obtain ⟨s, hs, es⟩ := af_dg (0 - af_L f t * b)
  obtain ⟨s', _, es'⟩ := af_dg (af_L f t * b)
  have hft : af_L f (af_sh t s o w) = 0 := by
    rw [af_L_sh, es, hfo]
    grind
  have hnA : ¬ A (af_sh t s o w) := by
    intro hA
    apply hn
    refine ⟨_, af_sh_lt t s o w, hA, ?_⟩
    obtain ⟨q, hq, eq⟩ := af_sh_sh t s s' o w
    refine ⟨s', by omega, ?_⟩
    have p := af_sh_ph t s o w
    have p' := af_sh_ph (af_sh t s o w) s' o w
    exact af_ext ht (af_sh_lt _ _ _ _) (by rw [p'.1, p.1, es, es']; grind) (by rw [p'.2.1, p.2.1, es, es']; grind) (by rw [p'.2.2, p.2.2, es, es']; grind)
  obtain ⟨g, _, hg, hgt⟩ := hS _ (af_sh_lt t s o w) hnA
  rw [af_kp_iff] at hgt
  obtain ⟨h, hh, eh⟩ := af_comb g f (af_L g w * b)
  have hgo := af_kp_iff.mp (hg o ho hAo)
  have hho : af_kp h o := by
    rw [af_kp_iff, eh, hgo, hfo]
    grind
  have hhw : af_kp h w := by
    rw [af_kp_iff, eh]
    grind
  refine ⟨h, hh, fun a ha hW => af_wd_kp (A := A) (o := o) (w := w) (fun a ha hAa => ?_) hho hhw hW, ?_⟩
  · rw [af_kp_iff, eh, af_kp_iff.mp (hg a ha hAa), af_kp_iff.mp (hf a ha hAa)]
    grind
  · intro k
    rw [af_kp_iff] at k
    apply hgt
    have e1 := eh (af_sh t s o w)
    rw [hft] at e1
    have e2 := af_L_sh h t s o w
    rw [k, af_kp_iff.mp hho, af_kp_iff.mp hhw] at e2
    grind
theorem af_ct_wd {A : Nat → Prop} {o w : Nat} (hS : af_Sep A) (ho : o < 343) (hw : w < 343) (hAo : A o) (hAw : ¬ A w) : af_ct (af_Wd A o w) 343 = 7 * af_ct A 343 := by
  obtain ⟨f, _, hf, hfw⟩ := hS w hw hAw
  rw [af_kp_iff] at hfw
  obtain ⟨b, hb⟩ := af_inv _ hfw
  have hfo := af_kp_iff.mp (hf o ho hAo)
  have hB : af_ct (fun k => A (k % 343)) 2401 = 7 * af_ct A 343 := by
    have h := af_ct_rep A 343 7 0 (by decide)
    rw [af_ct_0, Nat.add_zero, Nat.add_zero] at h
    exact h
  rw [← hB]
  apply Nat.le_antisymm
  · refine af_ct_inj (P := af_Wd A o w) (m := 2401) (fun i k => i = af_sh (k % 343) (k / 343) o w) (fun i i' j h h' => h.trans h'.symm) 343 _ ?_
    intro i _ hi
    obtain ⟨a, ha, hA, s, hs, e⟩ := hi
    refine ⟨343 * s + a, by omega, ?_, ?_⟩
    · show A ((343 * s + a) % 343)
      rw [show (343 * s + a) % 343 = a from by omega]
      exact hA
    · show i = af_sh ((343 * s + a) % 343) ((343 * s + a) / 343) o w
      rw [show (343 * s + a) % 343 = a from by omega, show (343 * s + a) / 343 = s from by omega]
      exact e
  · refine af_ct_inj (P := fun k => A (k % 343)) (m := 343) (fun k t => k < 2401 ∧ A (k % 343) ∧ t = af_sh (k % 343) (k / 343) o w) ?_ 2401 _ ?_
    · intro k k' t h h'
      obtain ⟨hk, hA, e⟩ := h
      obtain ⟨hk', hA', e'⟩ := h'
      have z := af_kp_iff.mp (hf (k % 343) (by omega) hA)
      have z' := af_kp_iff.mp (hf (k' % 343) (by omega) hA')
      have q := af_L_sh f (k % 343) (k / 343) o w
      have q' := af_L_sh f (k' % 343) (k' / 343) o w
      rw [← e, hfo, z] at q
      rw [← e', hfo, z'] at q'
      have es : af_ph (k / 343) = af_ph (k' / 343) := by
        have e1 : af_ph (k / 343) * af_L f w = af_ph (k' / 343) * af_L f w := by grind
        have e2 : af_ph (k / 343) = af_ph (k / 343) * (af_L f w * b) := by rw [hb]; grind
        have e3 : af_ph (k' / 343) = af_ph (k' / 343) * (af_L f w * b) := by rw [hb]; grind
        rw [e2, e3]
        grind
      have es' := af_ph_eq.mp es
      have p := af_sh_ph (k % 343) (k / 343) o w
      have p' := af_sh_ph (k' % 343) (k' / 343) o w
      rw [← e, es] at p
      rw [← e'] at p'
      have ea : k % 343 = k' % 343 := af_ext (by omega) (by omega) (by have := p.1; have := p'.1; grind) (by have := p.2.1; have := p'.2.1; grind) (by have := p.2.2; have := p'.2.2; grind)
      omega
    · intro k hk hA
      exact ⟨af_sh (k % 343) (k / 343) o w, af_sh_lt _ _ _ _, ⟨k % 343, by omega, hA, k / 343, by omega, rfl⟩, hk, hA, rfl⟩
end
section
theorem af_b1 : vp_nar .boolean 1 = 1 := by rfl
theorem af_b0 : vp_nar .boolean 0 = 0 := by rfl
theorem af_n1 : narrow .boolean (.int 1) = .int 1 := by rfl
theorem af_n0 : narrow .boolean (.int 0) = .int 0 := by rfl
theorem af_10 : ¬ (1 : Int32) = 0 := by decide
theorem af_r7 {a : Nat} (h : a < 2 ^ 31) : nI a - nI a / 7 * 7 = nI (a % 7) := pk_rem h (by decide) (by decide)
theorem af_r8 {a : Nat} (h : a < 2 ^ 31) : nI a - nI a / 8 * 8 = nI (a % 8) := pk_rem h (by decide) (by decide)
theorem af_r49 {a : Nat} (h : a < 2 ^ 31) : nI a - nI a / 49 * 49 = nI (a % 49) := pk_rem h (by decide) (by decide)
theorem af_r343 {a : Nat} (h : a < 2 ^ 31) : nI a - nI a / 343 * 343 = nI (a % 343) := pk_rem h (by decide) (by decide)
theorem af_d7 {a : Nat} (h : a < 2 ^ 31) : nI a / 7 = nI (a / 7) := pk_div h (by decide) (by decide)
theorem af_d8 {a : Nat} (h : a < 2 ^ 31) : nI a / 8 = nI (a / 8) := pk_div h (by decide) (by decide)
theorem af_d49 {a : Nat} (h : a < 2 ^ 31) : nI a / 49 = nI (a / 49) := pk_div h (by decide) (by decide)
theorem af_d343 {a : Nat} (h : a < 2 ^ 31) : nI a / 343 = nI (a / 343) := pk_div h (by decide) (by decide)
theorem af_7m (a : Nat) : 7 * nI a = nI (7 * a) := pk_mul 7 a
theorem af_49m (a : Nat) : 49 * nI a = nI (49 * a) := pk_mul 49 a
theorem af_343m (a : Nat) : 343 * nI a = nI (343 * a) := pk_mul 343 a
theorem af_m343 (a : Nat) : nI a * 343 = nI (343 * a) := by rw [Nat.mul_comm]; exact pk_mul a 343
theorem af_m49 (a : Nat) : nI a * 49 = nI (a * 49) := pk_mul a 49
theorem af_a7 (a : Nat) : nI a + 7 = nI (a + 7) := nI_add a 7
theorem af_m7 (a b : Nat) : a % 7 * (b % 7) ≤ 36 := Nat.mul_le_mul (show a % 7 ≤ 6 by omega) (show b % 7 ≤ 6 by omega)
theorem af_lf_le (e t : Nat) : af_lf e t ≤ 108 := by
  have h1 := af_m7 e t
  have h2 := af_m7 (e / 7) (t / 7)
  have h3 := af_m7 (e / 49) (t / 49)
  unfold af_lf
  omega
theorem ax_left {post : Int32 → Prop} {e t : Nat} (he : e < 2401) (ht : t < 343) (h : post (nI (af_lf e t % 7))) : wpX_leftSide post (nI e) (nI t) := by
  have hb := af_lf_le e t
  refine ⟨by decide, by decide, fun a ea => ⟨by decide, by decide, by decide, by decide, fun b eb => ⟨by decide, by decide, by decide, by decide, fun c ec => ⟨by decide, ?_⟩⟩⟩⟩
  rw [af_r7 (by omega), af_r7 (by omega), pk_mul] at ea
  rw [af_d7 (a := e) (by omega), af_d7 (a := t) (by omega), af_r7 (by omega), af_r7 (by omega), pk_mul] at eb
  rw [af_d49 (a := e) (by omega), af_d49 (a := t) (by omega), af_r7 (by omega), af_r7 (by omega), pk_mul] at ec
  rw [ea, eb, ec, nI_add, nI_add]
  show post (nI (af_lf e t) - nI (af_lf e t) / 7 * 7)
  rw [af_r7 (by omega)]
  exact h
theorem ax_right {post : Int32 → Prop} {e : Nat} (he : e < 2401) (h : post (nI (e / 343 % 7))) : wpX_rightSide post (nI e) := by
  refine ⟨by decide, by decide, ?_⟩
  rw [af_d343 (a := e) (by omega), af_r7 (by omega)]
  exact h
theorem ay_left {post : Int32 → Prop} {u : SY} {e t : Nat} (he : e < 2401) (ht : t < 343) (h : post (nI (af_lf e t))) : wpY_left post u (nI e) (nI t) := by
  refine ⟨by decide, by decide, by decide, by decide, by decide, by decide, by decide, by decide, by decide, ?_⟩
  rw [af_r7 (a := e) (by omega), af_r7 (a := t) (by omega), pk_mul, af_d7 (a := e) (by omega), af_d7 (a := t) (by omega), af_r7 (by omega), af_r7 (by omega), pk_mul, af_d49 (a := e) (by omega), af_d49 (a := t) (by omega), af_r7 (by omega), pk_mul, nI_add, nI_add]
  unfold af_lf at h
  rw [Nat.mod_eq_of_lt (show t / 49 < 7 by omega)] at h
  exact h
theorem af_wv_lt {t k v : Nat} (ht : t < 343) (hv : v < 7) : af_wv t k v < 343 := by
  unfold af_wv
  split
  · omega
  · split <;> omega
theorem af_wv1 {t v : Nat} : nI t + 7 * (nI v - nI (t / 7 % 7)) = nI (t % 7 + 7 * v + t / 49 * 49) := by
  have h1 : nI t = nI (t % 7 + t / 49 * 49) + 7 * nI (t / 7 % 7) := by
    rw [af_7m, nI_add]
    exact congrArg nI (by omega)
  have h2 : nI (t % 7 + 7 * v + t / 49 * 49) = nI (t % 7 + t / 49 * 49) + 7 * nI v := by
    rw [af_7m, nI_add]
    exact congrArg nI (by omega)
  rw [h2]
  generalize nI (t / 7 % 7) = y at *
  generalize nI (t % 7 + t / 49 * 49) = x at *
  rw [h1]
  grind
theorem ax_with {post : Int32 → Prop} {t k v : Nat} (ht : t < 343) (hk : k < 3) (hv : v < 7) (h : post (nI (af_wv t k v))) : wpX_withValue post (nI t) (nI k) (nI v) := by
  refine pk_eq k 0 (fun e => ⟨by decide, ?_⟩) (fun e => pk_eq k 1 (fun e1 => ⟨by decide, by decide, ?_⟩) (fun e1 => ⟨by decide, ?_⟩))
  · unfold af_wv at h
    rw [if_pos e] at h
    rw [af_r7 (by omega), pk_sub (by omega), nI_add]
    exact h
  · unfold af_wv at h
    rw [if_neg e, if_pos e1] at h
    rw [af_d7 (by omega), af_r7 (by omega), af_wv1]
    exact h
  · unfold af_wv at h
    rw [if_neg e, if_neg e1] at h
    rw [af_r49 (by omega), af_49m, nI_add]
    exact h
theorem ay_with {post : Int32 → Prop} {u : SY} {t k v : Nat} (ht : t < 343) (hk : k < 3) (hv : v < 7) (h : post (nI (af_wv t k v))) : wpY_with post u (nI t) (nI k) (nI v) := by
  refine pk_eq k 0 (fun e => ⟨by decide, ?_⟩) (fun e => pk_eq k 1 (fun e1 => ⟨by decide, by decide, ?_⟩) (fun e1 => ⟨by decide, ?_⟩))
  · unfold af_wv at h
    rw [if_pos e] at h
    rw [af_r7 (by omega), pk_sub (by omega), nI_add]
    exact h
  · unfold af_wv at h
    rw [if_neg e, if_pos e1] at h
    rw [af_r7 (by omega), af_7m, nI_add, af_d49 (by omega), af_m49, nI_add]
    exact h
  · unfold af_wv at h
    rw [if_neg e, if_neg e1] at h
    rw [af_r49 (by omega), af_49m, nI_add]
    exact h
theorem af_way_le {s w o : Nat} (hs : s < 7) : s * (w % 7 + 7 - o % 7) ≤ 78 := Nat.mul_le_mul (show s ≤ 6 by omega) (show w % 7 + 7 - o % 7 ≤ 13 by omega)
theorem ax_shifted {post : Int32 → Prop} {t s o w : Nat} (ht : t < 343) (hs : s < 7) (ho : o < 343) (hw : w < 343) (h : post (nI (af_sh t s o w))) : wpX_shifted post (nI t) (nI s) (nI o) (nI w) := by
  have b1 := af_way_le (s := s) (w := w) (o := o) hs
  have b2 := af_way_le (s := s) (w := w / 7) (o := o / 7) hs
  have b3 := af_way_le (s := s) (w := w / 49) (o := o / 49) hs
  refine ⟨by decide, by decide, fun a ea => ⟨by decide, by decide, by decide, by decide, fun b eb => ⟨by decide, by decide, by decide, by decide, fun c ec => ⟨by decide, by decide, fun x ex => ⟨by decide, by decide, by decide, fun y ey => ⟨by decide, by decide, by decide, fun z ez => ?_⟩⟩⟩⟩⟩⟩
  rw [af_r7 (a := w) (by omega), af_r7 (a := o) (by omega), af_a7, pk_sub (by omega)] at ea
  rw [af_d7 (a := w) (by omega), af_d7 (a := o) (by omega), af_r7 (by omega), af_r7 (by omega), af_a7, pk_sub (by omega)] at eb
  rw [af_d49 (a := w) (by omega), af_d49 (a := o) (by omega), af_r7 (by omega), af_r7 (by omega), af_a7, pk_sub (by omega)] at ec
  rw [ea, pk_mul, af_r7 (a := t) (by omega), nI_add, af_r7 (by omega)] at ex
  rw [eb, pk_mul, af_d7 (a := t) (by omega), af_r7 (a := t / 7) (by omega), nI_add, af_r7 (by omega)] at ey
  rw [ec, pk_mul, af_d49 (a := t) (by omega), af_r7 (a := t / 49) (by omega), nI_add, af_r7 (by omega)] at ez
  rw [ex, ey, ez, af_7m, af_49m, nI_add, nI_add]
  exact h
/-- one variable's value in a triple -/
def af_vl (t k : Nat) : Nat := if k = 0 then t % 7 else if k = 1 then t / 7 % 7 else t / 49 % 7
theorem af_vl_lt (t k : Nat) : af_vl t k < 7 := by
  unfold af_vl
  split
  · omega
  · split <;> omega
theorem ax_valueIn {post : Int32 → Prop} {t k : Nat} (ht : t < 343) (hk : k < 3) (h : post (nI (af_vl t k))) : wpX_valueIn post (nI t) (nI k) := by
  refine pk_eq k 0 (fun e => ⟨by decide, ?_⟩) (fun e => pk_eq k 1 (fun e1 => ⟨by decide, by decide, ?_⟩) (fun e1 => ⟨by decide, by decide, ?_⟩))
  · unfold af_vl at h
    rw [if_pos e] at h
    rw [af_r7 (by omega)]
    exact h
  · unfold af_vl at h
    rw [if_neg e, if_pos e1] at h
    rw [af_d7 (by omega), af_r7 (by omega)]
    exact h
  · unfold af_vl at h
    rw [if_neg e, if_neg e1] at h
    rw [af_d49 (by omega), af_r7 (by omega)]
    exact h
theorem ay_digit {post : Int32 → Prop} {u : SY} {t k : Nat} (ht : t < 343) (hk : k < 3) (h : post (nI (af_vl t k))) : wpY_digit post u (nI t) (nI k) := by
  refine pk_eq k 0 (fun e => ⟨by decide, ?_⟩) (fun e => pk_eq k 1 (fun e1 => ⟨by decide, by decide, ?_⟩) (fun e1 => ⟨by decide, ?_⟩))
  · unfold af_vl at h
    rw [if_pos e] at h
    rw [af_r7 (by omega)]
    exact h
  · unfold af_vl at h
    rw [if_neg e, if_pos e1] at h
    rw [af_d7 (by omega), af_r7 (by omega)]
    exact h
  · unfold af_vl at h
    rw [if_neg e, if_neg e1, Nat.mod_eq_of_lt (show t / 49 < 7 by omega)] at h
    rw [af_d49 (by omega)]
    exact h
theorem ay_keeps {post : Int32 → Prop} {u : SY} {e t : Nat} (he : e < 2401) (ht : t < 343) (h1 : af_kp e t → post 1) (h0 : ¬ af_kp e t → post 0) : wpY_keeps post u (nI e) (nI t) := by
  have hb := af_lf_le e t
  obtain ⟨a1, a2, a3, a4, a5, a6, a7, a8, a9, a10⟩ := u
  unfold wpY_keeps
  dsimp only
  refine ay_left he ht ?_
  refine ⟨by decide, by decide, ?_⟩
  rw [af_r7 (by omega), af_d343 (by omega)]
  have em : e / 343 % 7 = e / 343 := Nat.mod_eq_of_lt (by omega)
  refine pk_eq (af_lf e t % 7) (e / 343) (fun z => h1 ?_) (fun z => h0 ?_)
  · unfold af_kp
    rw [em]
    exact z
  · unfold af_kp
    rw [em]
    exact z
theorem ax_is0 {post : Int32 → Prop} {x M : Int32} (N : Nat) (hM : M = nI N) (h : x < 0 ∨ nI N ≤ x) (hp : post 0) : (x < 0 → post 0) ∧ (¬ x < 0 → ((M ≤ x → post 0) ∧ (¬ M ≤ x → post 1))) := by
  subst hM
  exact h.elim (fun h => br_t h hp) (fun h => br_c (fun _ => hp) (fun _ => br_t h hp))
theorem ax_is1 {post : Int32 → Prop} {M : Int32} (N : Nat) {j : Nat} (hM : M = nI N) (hN : N < 2 ^ 31) (h : j < N) (hp : post 1) : (nI j < 0 → post 0) ∧ (¬ nI j < 0 → ((M ≤ nI j → post 0) ∧ (¬ M ≤ nI j → post 1))) := by
  subst hM
  exact br_f (nI_pos (by omega)) (br_f (nI_ge h hN) hp)
theorem af_i0 {A B : Prop} (a : A) : ((0 : Int32) = 0 → A) ∧ (¬ (0 : Int32) = 0 → B) := br_t rfl a
theorem af_i1 {A B : Prop} (b : B) : ((1 : Int32) = 0 → A) ∧ (¬ (1 : Int32) = 0 → B) := br_f af_10 b
/-- Y's bounds: x < 0, x ≤ M -/
theorem ay_b0 {A B C : Prop} {x M : Int32} (N : Nat) (hM : M = nI N) (hN : N < 2 ^ 30) (h : x < 0 ∨ nI (N + 1) ≤ x) (a : A) (c : C) : (x < 0 → A) ∧ (¬ x < 0 → ((x ≤ M → B) ∧ (¬ x ≤ M → C))) := by
  subst hM
  refine br_c (fun _ => a) (fun z => br_f (fun k => ?_) c)
  obtain ⟨j, hj, rfl⟩ := nI_of z
  have h := h.resolve_left z
  rw [nI_leI (by omega) hj] at h
  rw [nI_leI hj (by omega)] at k
  omega
theorem ay_b1 {A B C : Prop} {M : Int32} (N : Nat) {j : Nat} (hM : M = nI N) (hN : N < 2 ^ 30) (h : j < N + 1) (b : B) : (nI j < 0 → A) ∧ (¬ nI j < 0 → ((nI j ≤ M → B) ∧ (¬ nI j ≤ M → C))) := by
  subst hM
  exact br_f (nI_pos (by omega)) (br_t (nI_le (by omega) (by omega)) b)
/-- Y's bounds the other way about: x < 0, M < x -/
theorem ay_c0 {A B C : Prop} {x M : Int32} (N : Nat) (hM : M = nI N) (hN : N < 2 ^ 30) (h : x < 0 ∨ nI (N + 1) ≤ x) (a : A) (b : B) : (x < 0 → A) ∧ (¬ x < 0 → ((M < x → B) ∧ (¬ M < x → C))) := by
  subst hM
  refine br_c (fun _ => a) (fun z => br_t ?_ b)
  obtain ⟨j, hj, rfl⟩ := nI_of z
  have h := h.resolve_left z
  rw [nI_leI (by omega) hj] at h
  exact nI_lt (by omega) hj
theorem ay_c1 {A B C : Prop} {M : Int32} (N : Nat) {j : Nat} (hM : M = nI N) (hN : N < 2 ^ 30) (h : j < N + 1) (c : C) : (nI j < 0 → A) ∧ (¬ nI j < 0 → ((M < nI j → B) ∧ (¬ M < nI j → C))) := by
  subst hM
  exact br_f (nI_pos (by omega)) (br_f (nI_nlt (by omega) (by omega)) c)
end
section
/-- what a step of kind k with formula F makes of a triple -/
def af_Sc (k F t t' : Nat) : Prop := (k = 6 ∧ t' = t) ∨ (k < 3 ∧ t' = af_wv t k ((af_lf F t + F / 343) % 7)) ∨ (3 ≤ k ∧ k < 6 ∧ ∃ v, v < 7 ∧ t' = af_wv t (k - 3) v)
/-- a set of states with the beginning in it, closed under the steps -/
def af_Cl (n : Nat) (E K F : Nat → Nat) (P : Nat → Prop) : Prop := P 0 ∧ ∀ i, i < n → ∀ t, t < 343 → P (343 * (E i % 8) + t) → ∀ t', af_Sc (K i) (F i) t t' → P (343 * (E i / 8) + t')
/-- reached -/
def af_Rc (n : Nat) (E K F : Nat → Nat) (s : Nat) : Prop := ∀ P : Nat → Prop, af_Cl n E K F P → P s
/-- the steps are within their bounds -/
def af_St (n : Nat) (E K F : Nat → Nat) : Prop := n ≤ 12 ∧ ∀ i, i < n → E i < 64 ∧ K i < 7 ∧ F i < 2401
theorem af_Rc_0 {n : Nat} {E K F : Nat → Nat} : af_Rc n E K F 0 := fun _ h => h.1
theorem af_Rc_s {n : Nat} {E K F : Nat → Nat} {i t t' : Nat} (hi : i < n) (ht : t < 343) (h : af_Rc n E K F (343 * (E i % 8) + t)) (hs : af_Sc (K i) (F i) t t') : af_Rc n E K F (343 * (E i / 8) + t') :=
  fun P hP => hP.2 i hi t ht (h P hP) t' hs
theorem af_Sc_lt {k F t t' : Nat} (ht : t < 343) (h : af_Sc k F t t') : t' < 343 := by
  rcases h with ⟨_, rfl⟩ | ⟨_, rfl⟩ | ⟨_, _, v, hv, rfl⟩
  · exact ht
  · exact af_wv_lt ht (by omega)
  · exact af_wv_lt ht hv
/-- X's number of a kind, and its variable -/
def af_kd (k : Nat) : Nat := if k < 3 then 0 else if k < 6 then 1 else 2
def ax_S (n : Nat) (E K F : Nat → Nat) (c : Int32) (sk se sv sd : Nat → Int32) : Prop := c = nI n ∧ ∀ i, i < n → se i = nI (E i) ∧ sk i = nI (af_kd (K i)) ∧ sv i = nI (K i % 3) ∧ sd i = nI (F i)
def ax_B (n : Nat) (E K F : Nat → Nat) (sr fo : Nat → Int32) (fc : Nat) : Prop := fc = af_ct (fun s => ¬ sr s = 0) 2744 ∧ (∀ s, s < 2744 → ¬ sr s = 0 → af_Rc n E K F s ∧ ∃ j, j < fc ∧ fo j = nI s) ∧ (∀ j, j < fc → ∃ s, s < 2744 ∧ fo j = nI s ∧ ¬ sr s = 0)
def ax_X (sr fo : Nat → Int32) (fc : Nat) (sr' fo' : Nat → Int32) (fc' : Nat) : Prop := fc ≤ fc' ∧ (∀ j, j < fc → fo' j = fo j) ∧ ∀ x, ¬ sr x = 0 → ¬ sr' x = 0
theorem ax_X_rf {sr fo : Nat → Int32} {fc : Nat} : ax_X sr fo fc sr fo fc := ⟨Nat.le_refl _, fun _ _ => rfl, fun _ h => h⟩
theorem ax_X_tr {sr fo sr' fo' sr'' fo'' : Nat → Int32} {fc fc' fc'' : Nat} (h : ax_X sr fo fc sr' fo' fc') (h' : ax_X sr' fo' fc' sr'' fo'' fc'') : ax_X sr fo fc sr'' fo'' fc'' :=
  ⟨Nat.le_trans h.1 h'.1, fun j hj => (h'.2.1 j (Nat.lt_of_lt_of_le hj h.1)).trans (h.2.1 j hj), fun x hx => h'.2.2 x (h.2.2 x hx)⟩
theorem af_upd_ne {a : Nat → Int32} {s x : Nat} : ¬ upd a s 1 x = 0 ↔ (¬ a x = 0 ∨ x = s) := by
  by_cases e : x = s
  · subst e
    rw [pk_us]
    exact ⟨fun _ => Or.inr rfl, fun _ => af_10⟩
  · rw [pk_un e]
    exact ⟨fun h => Or.inl h, fun h => h.resolve_right e⟩
section
variable {n : Nat} {E K F : Nat → Nat} {post : SX → Prop} {c f : Int32} {sk se sv sd sr fo si sz og : Nat → Int32}
theorem ax_enter {fc s : Nat} (hB : ax_B n E K F sr fo fc) (hs : s < 2744) (hR : af_Rc n E K F s) (h : ∀ sr' fo' fc', ax_B n E K F sr' fo' fc' → ax_X sr fo fc sr' fo' fc' → ¬ sr' s = 0 → post (c, nI fc', sk, se, sv, sd, sr', fo', si, sz, og)) : wpX_enter post (c, nI fc, sk, se, sv, sd, sr, fo, si, sz, og) (nI s) := by
  have hc : (nI s).toNatClampNeg = s := nI_clamp (by omega)
  have hle : fc ≤ 2744 := by rw [hB.1]; exact af_ct_le _ _
  have hcf : (nI fc).toNatClampNeg = fc := nI_clamp (by omega)
  unfold wpX_enter
  dsimp only
  rw [hc, hcf, af_b1]
  refine ⟨vp_in_nI hs (by decide), br_c (fun hz => ?_) (fun hz => h sr fo fc hB ax_X_rf hz)⟩
  have hlt : fc < 2744 := by rw [hB.1]; exact af_ct_top hs (fun k => k hz)
  refine br_f (nI_ge hlt (by decide)) ⟨vp_in_nI hs (by decide), fun a ea => ⟨vp_in_nI hlt (by decide), fun b eb x ex => ?_⟩⟩
  rw [ea, eb, ex, nI_1]
  refine h (upd sr s 1) (upd fo fc (nI s)) (fc + 1) ⟨?_, ?_, ?_⟩ ⟨by omega, fun j hj => pk_un (by omega), fun x hx => af_upd_ne.mpr (Or.inl hx)⟩ (af_upd_ne.mpr (Or.inr rfl))
  · rw [af_ct_add1 (P := fun s => ¬ sr s = 0) (Q := fun x => ¬ upd sr s 1 x = 0) (j := s) (fun k => k hz) (fun i => af_upd_ne) 2744 hs, ← hB.1]
  · intro x hx hne
    by_cases e : x = s
    · subst e
      exact ⟨hR, fc, by omega, pk_us⟩
    · obtain ⟨r, j, hj, ej⟩ := hB.2.1 x hx ((af_upd_ne.mp hne).resolve_right e)
      exact ⟨r, j, by omega, (pk_un (by omega)).trans ej⟩
  · intro j hj
    by_cases e : j = fc
    · subst e
      exact ⟨s, hs, pk_us, af_upd_ne.mpr (Or.inr rfl)⟩
    · obtain ⟨x, hx, ex, hne⟩ := hB.2.2 j (by omega)
      exact ⟨x, hx, (pk_un e).trans ex, af_upd_ne.mpr (Or.inl hne)⟩
theorem ax_take100 {sr0 fo0 : Nat → Int32} {fc0 T t k : Nat} (hT : T ≤ 2401) (ht : t < 343) (hk : k < 3) (hR : ∀ v, v < 7 → af_Rc n E K F (T + af_wv t k v)) (h : ∀ sr' fo' fc', ax_B n E K F sr' fo' fc' → ax_X sr0 fo0 fc0 sr' fo' fc' → (∀ v, v < 7 → ¬ sr' (T + af_wv t k v) = 0) → post (c, nI fc', sk, se, sv, sd, sr', fo', si, sz, og)) : ∀ (d j : Nat) (sr fo : Nat → Int32) (fc : Nat), j + d = 7 → ax_B n E K F sr fo fc → ax_X sr0 fo0 fc0 sr fo fc → (∀ v, v < j → ¬ sr (T + af_wv t k v) = 0) → wX_takeStep_100 post (nI t) (nI T) (nI k) (d + 1) (nI j) c (nI fc) sk se sv sd sr fo si sz og := by
  intro d
  induction d with
  | zero =>
    intro j sr fo fc hj hB hX hv
    have e : j = 7 := by omega
    subst e
    exact br_t (nI_le (a := 7) (b := 7) (by decide) (by decide)) (h sr fo fc hB hX hv)
  | succ d ih =>
    intro j sr fo fc hj hB hX hv
    refine br_f (nI_ge (a := j) (b := 7) (by omega) (by decide)) (ax_with ht hk (by omega) ?_)
    rw [nI_add]
    have hw := af_wv_lt (t := t) (k := k) (v := j) ht (by omega)
    refine ax_enter hB (by omega) (hR j (by omega)) (fun sr' fo' fc' b x m => ?_)
    refine nm_r (nI_1 j) (ih (j + 1) sr' fo' fc' (by omega) b (ax_X_tr hX x) (fun v hvj => ?_))
    by_cases e : v = j
    · subst e; exact m
    · exact x.2.2 _ (hv v (by omega))
theorem ax_takeStep {fc i t : Nat} (hSt : af_St n E K F) (hS : ax_S n E K F c sk se sv sd) (hB : ax_B n E K F sr fo fc) (hi : i < n) (ht : t < 343) (hR : af_Rc n E K F (343 * (E i % 8) + t)) (h : ∀ sr' fo' fc', ax_B n E K F sr' fo' fc' → ax_X sr fo fc sr' fo' fc' → (∀ t', af_Sc (K i) (F i) t t' → ¬ sr' (343 * (E i / 8) + t') = 0) → post (c, nI fc', sk, se, sv, sd, sr', fo', si, sz, og)) : wpX_takeStep post (c, nI fc, sk, se, sv, sd, sr, fo, si, sz, og) (nI i) (nI t) := by
  obtain ⟨hn, hE⟩ := hSt
  obtain ⟨e1, e2, e3⟩ := hE i hi
  obtain ⟨s1, s2, s3, s4⟩ := hS.2 i hi
  have hcl : (nI i).toNatClampNeg = i := nI_clamp (by omega)
  have hin : vp_in (nI i) 12 := vp_in_nI (by omega) (by decide)
  unfold wpX_takeStep
  dsimp only
  rw [hcl, s1, s2, s3, s4]
  refine ⟨hin, by decide, nm_r (e' := nI (343 * (E i / 8))) (by rw [af_d8 (by omega), af_343m]) ⟨hin, nm_e ⟨hin, ?_⟩⟩⟩
  by_cases k6 : K i = 6
  · have hk : af_kd (K i) = 2 := by rw [k6]; rfl
    rw [hk]
    refine br_t rfl ?_
    rw [nI_add]
    refine ax_enter hB (by omega) (af_Rc_s hi ht hR (Or.inl ⟨k6, rfl⟩)) (fun sr' fo' fc' b x m => h sr' fo' fc' b x (fun t' ht' => ?_))
    rcases ht' with ⟨_, rfl⟩ | ⟨z, _⟩ | ⟨_, z, _⟩
    · exact m
    · omega
    · omega
  · by_cases k3 : K i < 3
    · have hk : af_kd (K i) = 0 := by unfold af_kd; rw [if_pos k3]
      have hm : K i % 3 = K i := Nat.mod_eq_of_lt k3
      rw [hk, hm]
      refine br_f (show ¬ nI 0 = nI 2 by decide) ⟨hin, br_t rfl ⟨hin, nm_e (ax_left e3 ht (ax_right e3 ⟨by decide, ?_⟩))⟩⟩
      have em : F i / 343 % 7 = F i / 343 := Nat.mod_eq_of_lt (by omega)
      refine nm_r (e' := nI ((af_lf (F i) t + F i / 343) % 7)) (by rw [nI_add, af_r7 (by omega), em]; exact congrArg nI (by omega)) ?_
      refine ax_with ht k3 (by omega) ?_
      rw [nI_add]
      have hw := af_wv_lt (t := t) (k := K i) (v := (af_lf (F i) t + F i / 343) % 7) ht (by omega)
      refine ax_enter hB (by omega) (af_Rc_s hi ht hR (Or.inr (Or.inl ⟨k3, rfl⟩))) (fun sr' fo' fc' b x m => h sr' fo' fc' b x (fun t' ht' => ?_))
      rcases ht' with ⟨z, _⟩ | ⟨_, rfl⟩ | ⟨z, _⟩
      · omega
      · exact m
      · omega
    · have hk : af_kd (K i) = 1 := by unfold af_kd; rw [if_neg k3, if_pos (by omega)]
      have hm : K i % 3 = K i - 3 := by omega
      rw [hk, hm]
      refine br_f (show ¬ nI 1 = nI 2 by decide) ⟨hin, br_f (show ¬ nI 1 = nI 0 by decide) ⟨8, ?_⟩⟩
      refine ax_take100 (n := n) (E := E) (K := K) (F := F) (sr0 := sr) (fo0 := fo) (fc0 := fc) (by omega) ht (by omega) (fun v hv => af_Rc_s hi ht hR (Or.inr (Or.inr ⟨by omega, by omega, v, hv, rfl⟩))) (fun sr' fo' fc' b x m => h sr' fo' fc' b x (fun t' ht' => ?_)) 7 0 sr fo fc (by omega) hB ax_X_rf (fun v hv => by omega)
      rcases ht' with ⟨z, _⟩ | ⟨z, _⟩ | ⟨_, _, v, hv, rfl⟩
      · omega
      · omega
      · exact m v hv
/-- all that the steps make of a state is marked -/
def ax_D (n : Nat) (E K F : Nat → Nat) (sr : Nat → Int32) (p t : Nat) : Nat → Prop := fun j => ∀ i, i < j → E i % 8 = p → ∀ t', af_Sc (K i) (F i) t t' → ¬ sr (343 * (E i / 8) + t') = 0
theorem ax_74 {J : Int32 → Int32 → Int32 → (Nat → Int32) → (Nat → Int32) → (Nat → Int32) → (Nat → Int32) → (Nat → Int32) → (Nat → Int32) → (Nat → Int32) → (Nat → Int32) → (Nat → Int32) → Prop} {sr0 fo0 : Nat → Int32} {fc0 x p t : Nat} (hSt : af_St n E K F) (hS : ax_S n E K F c sk se sv sd) (hp : p < 8) (ht : t < 343) (hR : af_Rc n E K F (343 * p + t)) (h : ∀ sr' fo' fc', ax_B n E K F sr' fo' fc' → ax_X sr0 fo0 fc0 sr' fo' fc' → ax_D n E K F sr' p t n → J (nI (x + 1)) c (nI fc') sk se sv sd sr' fo' si sz og) : ∀ (d j : Nat) (sr fo : Nat → Int32) (fc : Nat), j + d = n → ax_B n E K F sr fo fc → ax_X sr0 fo0 fc0 sr fo fc → ax_D n E K F sr p t j → wX_findReachedStates_74 post J (nI x) (nI p) (nI t) (d + 1) (nI j) c (nI fc) sk se sv sd sr fo si sz og := by
  have hn : n ≤ 12 := hSt.1
  have ec := hS.1
  intro d
  induction d with
  | zero =>
    intro j sr fo fc hj hB hX hD
    have e : j = n := by omega
    subst e
    rw [ec]
    refine br_t (nI_le (Nat.le_refl _) (by omega)) (nm_r (nI_1 x) ?_)
    rw [← ec]
    exact h sr fo fc hB hX hD
  | succ d ih =>
    intro j sr fo fc hj hB hX hD
    have hjn : j < n := by omega
    obtain ⟨e1, e2, e3⟩ := hSt.2 j hjn
    obtain ⟨s1, s2, s3, s4⟩ := hS.2 j hjn
    have hcl : (nI j).toNatClampNeg = j := nI_clamp (by omega)
    refine br_f (by rw [ec]; exact nI_ge hjn (by omega)) ⟨vp_in_nI (by omega) (by decide), by decide, ?_⟩
    rw [hcl, s1, af_r8 (by omega)]
    refine pk_eq (E j % 8) p (fun e => ?_) (fun e => ?_)
    · refine ax_takeStep hSt hS hB hjn ht (by rw [e]; exact hR) (fun sr' fo' fc' b x m => ?_)
      refine nm_r (nI_1 j) (ih (j + 1) sr' fo' fc' (by omega) b (ax_X_tr hX x) (fun i hi ei t' ht' => ?_))
      by_cases e' : i = j
      · subst e'; exact m t' ht'
      · exact x.2.2 _ (hD i (by omega) ei t' ht')
    · refine nm_r (nI_1 j) (ih (j + 1) sr fo fc (by omega) hB hX (fun i hi ei t' ht' => ?_))
      by_cases e' : i = j
      · subst e'; exact absurd ei e
      · exact hD i (by omega) ei t' ht'
theorem ax_34 (hSt : af_St n E K F) (hS : ax_S n E K F c sk se sv sd) (h : ∀ sr' fo' f', (∀ s, s < 2744 → (¬ sr' s = 0 ↔ af_Rc n E K F s)) → post (c, f', sk, se, sv, sd, sr', fo', si, sz, og)) : ∀ (d x : Nat) (sr fo : Nat → Int32) (fc : Nat), x + d = 2744 → ax_B n E K F sr fo fc → ¬ sr 0 = 0 → (∀ j, j < x → j < fc → ∀ s, s < 2744 → fo j = nI s → ax_D n E K F sr (s / 343) (s % 343) n) → wX_findReachedStates_34 post (d + 1) (nI x) c (nI fc) sk se sv sd sr fo si sz og := by
  have done : ∀ (x : Nat) (sr fo : Nat → Int32) (fc : Nat), fc ≤ x → ax_B n E K F sr fo fc → ¬ sr 0 = 0 → (∀ j, j < x → j < fc → ∀ s, s < 2744 → fo j = nI s → ax_D n E K F sr (s / 343) (s % 343) n) → post (c, nI fc, sk, se, sv, sd, sr, fo, si, sz, og) := by
    intro x sr fo fc hx hB h0 hD
    refine h sr fo _ (fun s hs => ⟨fun hne => (hB.2.1 s hs hne).1, fun hr => ?_⟩)
    refine (hr (fun s => s < 2744 ∧ ¬ sr s = 0) ⟨⟨by decide, h0⟩, fun i hi t ht hP t' ht' => ?_⟩).2
    have hE := (hSt.2 i hi).1
    have hl := af_Sc_lt ht ht'
    refine ⟨by omega, ?_⟩
    obtain ⟨_, j, hj, ej⟩ := hB.2.1 _ hP.1 hP.2
    refine hD j (by omega) hj _ hP.1 ej i hi (by omega) t' ?_
    rw [show (343 * (E i % 8) + t) % 343 = t from by omega]
    exact ht'
  intro d
  induction d with
  | zero =>
    intro x sr fo fc hx hB h0 hD
    have e : x = 2744 := by omega
    subst e
    have hle : fc ≤ 2744 := by rw [hB.1]; exact af_ct_le _ _
    exact br_t (nI_le (a := 2744) (b := 2744) (by decide) (by decide)) (done 2744 sr fo fc hle hB h0 hD)
  | succ d ih =>
    intro x sr fo fc hx hB h0 hD
    have hle : fc ≤ 2744 := by rw [hB.1]; exact af_ct_le _ _
    have hcl : (nI x).toNatClampNeg = x := nI_clamp (by omega)
    refine br_f (nI_ge (a := x) (b := 2744) (by omega) (by decide)) (pk_le fc x (fun e => done x sr fo fc e hB h0 hD) (fun e => ⟨vp_in_nI (by omega) (by decide), by decide, ?_⟩))
    obtain ⟨s, hs, es, hne⟩ := hB.2.2 x e
    rw [hcl, es]
    refine nm_r (af_d343 (by omega)) ⟨vp_in_nI (by omega) (by decide), by decide, nm_r (af_r343 (by omega)) ⟨n + 1, ?_⟩⟩
    refine ax_74 (sr0 := sr) (fo0 := fo) (fc0 := fc) hSt hS (by omega) (by omega) (by rw [show 343 * (s / 343) + s % 343 = s from by omega]; exact (hB.2.1 s hs hne).1) (fun sr' fo' fc' b x' m => ?_) n 0 sr fo fc (by omega) hB ax_X_rf (fun i hi => by omega)
    refine ih (x + 1) sr' fo' fc' (by omega) b (x'.2.2 0 h0) (fun j hj hjf q hq eq => ?_)
    by_cases e' : j = x
    · subst e'
      rw [x'.2.1 j e, es, nI_eq (by omega) (by omega)] at eq
      subst eq
      exact m
    · rw [x'.2.1 j (by omega)] at eq
      exact fun i hi ei t' ht' => x'.2.2 _ (hD j (by omega) (by omega) q hq eq i hi ei t' ht')
theorem ax_fr2 (hSt : af_St n E K F) (hS : ax_S n E K F c sk se sv sd) (h : ∀ sr' fo' f', (∀ s, s < 2744 → (¬ sr' s = 0 ↔ af_Rc n E K F s)) → post (c, f', sk, se, sv, sd, sr', fo', si, sz, og)) : ∀ (d x : Nat) (sr : Nat → Int32), x + d = 2744 → (∀ s, s < x → sr s = 0) → wX_findReachedStates_2 post c f (d + 1) (nI x) sk se sv sd sr fo si sz og := by
  intro d
  induction d with
  | zero =>
    intro x sr hx hz
    have e : x = 2744 := by omega
    subst e
    refine br_t (nI_le (a := 2744) (b := 2744) (by decide) (by decide)) ?_
    have hB : ax_B n E K F sr fo 0 := ⟨(af_ct_zero 2744 (fun i hi k => k (hz i hi))).symm, fun s hs hne => absurd (hz s hs) hne, fun j hj => by omega⟩
    refine ax_enter (fc := 0) (s := 0) hB (by decide) af_Rc_0 (fun sr' fo' fc' b x m => ⟨2745, ?_⟩)
    exact ax_34 hSt hS h 2744 0 sr' fo' fc' (by decide) b m (fun j hj => by omega)
  | succ d ih =>
    intro x sr hx hz
    have hcl : (nI x).toNatClampNeg = x := nI_clamp (by omega)
    refine br_f (nI_ge (a := x) (b := 2744) (by omega) (by decide)) ⟨vp_in_nI (by omega) (by decide), ?_⟩
    rw [hcl, af_b0]
    refine nm_e (nm_r (nI_1 x) (ih (x + 1) _ (by omega) (fun s hs => ?_)))
    by_cases e : s = x
    · subst e; exact pk_us
    · rw [pk_un e]; exact hz s (by omega)
theorem ax_find (hSt : af_St n E K F) (hS : ax_S n E K F c sk se sv sd) (h : ∀ sr' fo' f', (∀ s, s < 2744 → (¬ sr' s = 0 ↔ af_Rc n E K F s)) → post (c, f', sk, se, sv, sd, sr', fo', si, sz, og)) : wpX_findReachedStates post (c, f, sk, se, sv, sd, sr, fo, si, sz, og) :=
  ⟨2745, ax_fr2 hSt hS h 2744 0 sr (by decide) (fun s hs => by omega)⟩
end
end
section
/-- an equation holds at a point -/
def af_Hd (R : Nat → Prop) (p e : Nat) : Prop := ∀ t, t < 343 → R (343 * p + t) → af_kp e t
/-- a triple lies in the span of a point -/
def af_In (R : Nat → Prop) (p t : Nat) : Prop := ∀ e, e < 2401 → af_Hd R p e → af_kp e t
theorem af_In_R {R : Nat → Prop} {p t : Nat} (ht : t < 343) (h : R (343 * p + t)) : af_In R p t := fun _ _ hd => hd t ht h
/-- what the tables of a point say, the states below x being done -/
def ax_P (R : Nat → Prop) (p x : Nat) (si sz og : Nat → Int32) : Prop :=
  sz p = nI (af_ct (fun t => ¬ si (343 * p + t) = 0) 343) ∧ (∀ t, t < 343 → ¬ si (343 * p + t) = 0 → af_In R p t) ∧ (∀ t, t < 343 → 343 * p + t < x → R (343 * p + t) → ¬ si (343 * p + t) = 0) ∧ af_Sep (fun t => ¬ si (343 * p + t) = 0) ∧ ((∀ t, t < 343 → si (343 * p + t) = 0) ∨ ∃ o, o < 343 ∧ og p = nI o ∧ ¬ si (343 * p + o) = 0)
theorem ax_P_congr {R : Nat → Prop} {p x : Nat} {si sz og si' sz' og' : Nat → Int32} (h1 : ∀ t, t < 343 → si' (343 * p + t) = si (343 * p + t)) (h2 : sz' p = sz p) (h3 : og' p = og p) (h : ax_P R p x si sz og) : ax_P R p x si' sz' og' := by
  obtain ⟨a, b, c, d, e⟩ := h
  refine ⟨?_, fun t ht hne => b t ht (by rw [← h1 t ht]; exact hne), fun t ht hx hr => by rw [h1 t ht]; exact c t ht hx hr, ?_, ?_⟩
  · rw [h2, a]
    exact congrArg nI (af_ct_congr 343 (fun i hi => by rw [h1 i hi]))
  · intro t ht hn
    obtain ⟨q, hq, ha, hb⟩ := d t ht (by dsimp only; rw [← h1 t ht]; exact hn)
    exact ⟨q, hq, fun y hy hne => ha y hy (by dsimp only; rw [← h1 y hy]; exact hne), hb⟩
  · rcases e with e | ⟨o, ho, eo, hne⟩
    · exact Or.inl (fun t ht => by rw [h1 t ht]; exact e t ht)
    · exact Or.inr ⟨o, ho, by rw [h3]; exact eo, by rw [h1 o ho]; exact hne⟩
theorem ax_P_up {R : Nat → Prop} {p x : Nat} {si sz og : Nat → Int32} (h : ax_P R p x si sz og) (hx : R x → ¬ si x = 0) : ax_P R p (x + 1) si sz og := by
  obtain ⟨a, b, c, d, e⟩ := h
  refine ⟨a, b, fun t ht hlt hr => ?_, d, e⟩
  by_cases q : 343 * p + t = x
  · rw [q] at hr ⊢; exact hx hr
  · exact c t ht (by omega) hr
/-- while a span is widened: what is marked -/
def ax_M (A : Nat → Prop) (p o w : Nat) (si0 : Nat → Int32) (j : Nat) (si : Nat → Int32) : Prop :=
  (∀ x, (x < 343 * p ∨ 343 * p + 343 ≤ x) → si x = si0 x) ∧ (∀ t, t < 343 → A t → ¬ si (343 * p + t) = 0) ∧ (∀ t, t < 343 → ¬ si (343 * p + t) = 0 → af_Wd A o w t) ∧ (∀ a, a < j → a < 343 → A a → ∀ s, s < 7 → ¬ si (343 * p + af_sh a s o w) = 0)
section
variable {post : SX → Prop} {c f : Int32} {sk se sv sd sr fo si sz og : Nat → Int32}
theorem ax_65 {J : Int32 → (Nat → Int32) → (Nat → Int32) → (Nat → Int32) → (Nat → Int32) → (Nat → Int32) → (Nat → Int32) → (Nat → Int32) → (Nat → Int32) → (Nat → Int32) → Prop} {A : Nat → Prop} {p o w a : Nat} {si0 : Nat → Int32} (hp : p < 8) (ho : o < 343) (hw : w < 343) (ha : a < 343) (hog : og p = nI o) (hW : af_Wd A o w a) (h : ∀ si', ax_M A p o w si0 (a + 1) si' → J (nI (a + 1)) sk se sv sd sr fo si' sz og) : ∀ (d j : Nat) (si : Nat → Int32), j + d = 7 → 1 ≤ j → ax_M A p o w si0 a si → (∀ s, 1 ≤ s → s < j → ¬ si (343 * p + af_sh a s o w) = 0) → wX_widenSpan_65 post J (nI p) (nI w) (nI (343 * p)) (nI a) c f (d + 1) (nI j) sk se sv sd sr fo si sz og := by
  intro d
  induction d with
  | zero =>
    intro j si hj h1 hM hs
    have e : j = 7 := by omega
    subst e
    refine br_t (nI_le (a := 7) (b := 7) (by decide) (by decide)) (nm_r (nI_1 a) (h si ⟨hM.1, hM.2.1, hM.2.2.1, fun a' ha' h343 hA s hs7 => ?_⟩))
    by_cases e : a' = a
    · subst e
      by_cases e0 : s = 0
      · subst e0
        rw [af_sh_0 h343]
        exact hM.2.1 a' h343 hA
      · exact hs s (by omega) hs7
    · exact hM.2.2.2 a' (by omega) h343 hA s hs7
  | succ d ih =>
    intro j si hj h1 hM hs
    have hcl : (nI p).toNatClampNeg = p := nI_clamp (by omega)
    refine br_f (nI_ge (a := j) (b := 7) (by omega) (by decide)) ⟨vp_in_nI hp (by decide), ?_⟩
    rw [hcl, hog]
    refine ax_shifted ha (by omega) ho hw ?_
    have hl := af_sh_lt a j o w
    rw [nI_add, nI_clamp (by omega), af_b1]
    refine ⟨vp_in_nI (by omega) (by decide), nm_e (nm_r (nI_1 j) (ih (j + 1) _ (by omega) (by omega) ⟨fun x hx => ?_, fun t ht hA => af_upd_ne.mpr (Or.inl (hM.2.1 t ht hA)), fun t ht hne => ?_, fun a' ha' h343 hA s hs7 => af_upd_ne.mpr (Or.inl (hM.2.2.2 a' ha' h343 hA s hs7))⟩ (fun s hs1 hsj => ?_)))⟩
    · rw [pk_un (by omega)]; exact hM.1 x hx
    · rcases af_upd_ne.mp hne with z | z
      · exact hM.2.2.1 t ht z
      · have e : t = af_sh a j o w := by omega
        rw [e]
        exact af_wd_sh hW
    · by_cases e : s = j
      · subst e; exact af_upd_ne.mpr (Or.inr rfl)
      · exact af_upd_ne.mpr (Or.inl (hs s hs1 (by omega)))
theorem ax_42 {A : Nat → Prop} {p o w m : Nat} {si0 : Nat → Int32} (hp : p < 8) (ho : o < 343) (hw : w < 343) (hog : og p = nI o) (hsz : sz p = nI m) (h : ∀ si', (∀ x, (x < 343 * p ∨ 343 * p + 343 ≤ x) → si' x = si0 x) → (∀ t, t < 343 → (¬ si' (343 * p + t) = 0 ↔ af_Wd A o w t)) → post (c, f, sk, se, sv, sd, sr, fo, si', upd sz p (nI (m * 7)), og)) : ∀ (d j : Nat) (si : Nat → Int32), j + d = 343 → ax_M A p o w si0 j si → wX_widenSpan_42 post (nI p) (nI w) (nI (343 * p)) c f (d + 1) (nI j) sk se sv sd sr fo si sz og := by
  have hcl : (nI p).toNatClampNeg = p := nI_clamp (by omega)
  intro d
  induction d with
  | zero =>
    intro j si hj hM
    have e : j = 343 := by omega
    subst e
    refine br_t (nI_le (a := 343) (b := 343) (by decide) (by decide)) ⟨vp_in_nI hp (by decide), vp_in_nI hp (by decide), ?_⟩
    rw [hcl, hsz, show nI m * 7 = nI (m * 7) from pk_mul m 7]
    refine nm_e (h si hM.1 (fun t ht => ⟨hM.2.2.1 t ht, fun hW => ?_⟩))
    obtain ⟨a, ha, hA, s, hs, rfl⟩ := hW
    exact hM.2.2.2 a ha ha hA s hs
  | succ d ih =>
    intro j si hj hM
    refine br_f (nI_ge (a := j) (b := 343) (by omega) (by decide)) ?_
    rw [nI_add, nI_clamp (by omega)]
    refine ⟨vp_in_nI (by omega) (by decide), br_c (fun hz => nm_r (nI_1 j) (ih (j + 1) si (by omega) ⟨hM.1, hM.2.1, hM.2.2.1, fun a' ha' h343 hA s hs7 => ?_⟩)) (fun hz => ⟨7, ?_⟩)⟩
    · by_cases e : a' = j
      · subst e; exact absurd hz (hM.2.1 a' h343 hA)
      · exact hM.2.2.2 a' (by omega) h343 hA s hs7
    · exact ax_65 hp ho hw (by omega) hog (hM.2.2.1 j (by omega) hz) (fun si' hM' => ih (j + 1) si' (by omega) hM') 6 1 si (by decide) (by decide) hM (fun s h1 h2 => by omega)
theorem ax_widen {R : Nat → Prop} {p w : Nat} (hp : p < 8) (hw : w < 343) (hR : R (343 * p + w)) (hz : si (343 * p + w) = 0) (hP : ax_P R p (343 * p + w) si sz og) (h : ∀ si' sz' og', (∀ q, q < 8 → q ≠ p → sz' q = sz q ∧ og' q = og q ∧ ∀ t, t < 343 → si' (343 * q + t) = si (343 * q + t)) → ax_P R p (343 * p + w + 1) si' sz' og' → post (c, f, sk, se, sv, sd, sr, fo, si', sz', og')) : wpX_widenSpan post (c, f, sk, se, sv, sd, sr, fo, si, sz, og) (nI p) (nI w) := by
  have hcl : (nI p).toNatClampNeg = p := nI_clamp (by omega)
  have hin : vp_in (nI p) 8 := vp_in_nI hp (by decide)
  have hle := af_ct_le (fun t => ¬ si (343 * p + t) = 0) 343
  obtain ⟨h1, h2, h3, h4, h5⟩ := hP
  have hpos : (∃ t, t < 343 ∧ ¬ si (343 * p + t) = 0) → 0 < af_ct (fun t => ¬ si (343 * p + t) = 0) 343 := fun ⟨t, ht, hne⟩ => af_ct_pos ht hne
  unfold wpX_widenSpan
  dsimp only
  rw [hcl, af_343m, h1, af_b1]
  refine nm_e ⟨hin, pk_eq (af_ct (fun t => ¬ si (343 * p + t) = 0) 343) 0 (fun e => ⟨hin, ?_⟩) (fun e => ?_)⟩
  · have hno : ∀ t, t < 343 → si (343 * p + t) = 0 := fun t ht => Classical.byContradiction fun k => by
      have := hpos ⟨t, ht, k⟩
      omega
    rw [nI_add, nI_clamp (by omega)]
    refine nm_e ⟨hin, nm_e ⟨vp_in_nI (by omega) (by decide), nm_e (h _ _ _ (fun q hq hqp => ⟨pk_un hqp, pk_un hqp, fun t ht => pk_un (by omega)⟩) ?_)⟩⟩
    have hA : ∀ t, t < 343 → (¬ upd si (343 * p + w) 1 (343 * p + t) = 0 ↔ t = w) := fun t ht => by
      rw [af_upd_ne]
      exact ⟨fun z => z.elim (fun z => absurd (hno t ht) z) (fun z => by omega), fun z => Or.inr (by omega)⟩
    have hct : af_ct (fun t => ¬ upd si (343 * p + w) 1 (343 * p + t) = 0) 343 = 1 := by
      have q := af_ct_add1 (P := fun _ => False) (Q := fun t => t = w) (j := w) (fun z => z) (fun i => ⟨fun z => Or.inr z, fun z => z.elim (fun z => z.elim) (fun z => z)⟩) 343 hw
      rw [af_ct_zero 343 (fun _ _ z => z)] at q
      rw [af_ct_congr (Q := fun t => t = w) 343 hA, q]
    refine ⟨?_, fun t ht hne => ?_, fun t ht hlt hr => ?_, af_sep_one hw hA, Or.inr ⟨w, hw, pk_us, (hA w hw).mpr rfl⟩⟩
    · rw [pk_us, hct]; rfl
    · rw [(hA t ht).mp hne]; exact af_In_R hw hR
    · by_cases e' : t = w
      · exact (hA t ht).mpr e'
      · exact absurd (hno t ht) (h3 t ht (by omega) hr)
  · rcases h5 with h5 | ⟨o, ho, hog, hne⟩
    · exact absurd (af_ct_zero 343 (fun i hi k => k (h5 i hi))) e
    refine ⟨344, ax_42 (A := fun t => ¬ si (343 * p + t) = 0) (si0 := si) (m := af_ct (fun t => ¬ si (343 * p + t) = 0) 343) hp ho hw hog h1 (fun si' ho' hW => ?_) 343 0 si (by decide) ⟨fun _ _ => rfl, fun t _ k => k, fun t ht k => af_wd_in ht k, fun a ha => by omega⟩⟩
    refine h si' _ og (fun q hq hqp => ⟨pk_un hqp, rfl, fun t ht => ho' _ (by omega)⟩) ?_
    have hnw : ¬ (fun t => ¬ si (343 * p + t) = 0) w := fun k => k hz
    have hS := af_sep_wd h4 ho hw hne hnw
    have hC := af_ct_wd h4 ho hw hne hnw
    refine ⟨?_, fun t ht k q hq hd => ?_, fun t ht hlt hr => ?_, fun t ht k => ?_, Or.inr ⟨o, ho, hog, (hW o ho).mpr (af_wd_in ho hne)⟩⟩
    · rw [pk_us, af_ct_congr (Q := af_Wd (fun t => ¬ si (343 * p + t) = 0) o w) 343 hW, hC, Nat.mul_comm]
    · exact af_wd_kp (fun a ha hA => h2 a ha hA q hq hd) (h2 o ho hne q hq hd) (hd w hw hR) ((hW t ht).mp k)
    · by_cases e' : t = w
      · subst e'; exact (hW t ht).mpr (af_wd_w ho ht hne)
      · exact (hW t ht).mpr (af_wd_in ht (h3 t ht (by omega) hr))
    · obtain ⟨q, hq, ha, hb⟩ := hS t ht (fun z => k ((hW t ht).mpr z))
      exact ⟨q, hq, fun a ha' hA => ha a ha' ((hW a ha').mp hA), hb⟩
theorem ax_45 {R : Nat → Prop} (hR : ∀ s, s < 2744 → (¬ sr s = 0 ↔ R s)) (h : ∀ si' sz' og', (∀ p, p < 8 → ax_P R p 2744 si' sz' og') → post (c, f, sk, se, sv, sd, sr, fo, si', sz', og')) : ∀ (d x : Nat) (si sz og : Nat → Int32), x + d = 2744 → (∀ p, p < 8 → ax_P R p x si sz og) → wX_findSpans_45 post (d + 1) (nI x) c f sk se sv sd sr fo si sz og := by
  intro d
  induction d with
  | zero =>
    intro x si sz og hx hP
    have e : x = 2744 := by omega
    subst e
    exact br_t (nI_le (a := 2744) (b := 2744) (by decide) (by decide)) (h si sz og hP)
  | succ d ih =>
    intro x si sz og hx hP
    have hcl : (nI x).toNatClampNeg = x := nI_clamp (by omega)
    have hin : vp_in (nI x) 2744 := vp_in_nI (by omega) (by decide)
    refine br_f (nI_ge (a := x) (b := 2744) (by omega) (by decide)) ⟨hin, ?_⟩
    rw [hcl]
    refine br_c (fun hz => nm_r (nI_1 x) (ih (x + 1) si sz og (by omega) (fun p hp => ax_P_up (hP p hp) (fun r => absurd hz ((hR x (by omega)).mpr r))))) (fun hz => ⟨hin, br_c (fun hs => ⟨by decide, ?_⟩) (fun hs => nm_r (nI_1 x) (ih (x + 1) si sz og (by omega) (fun p hp => ax_P_up (hP p hp) (fun _ => hs))))⟩)
    refine nm_r (af_d343 (by omega)) ⟨by decide, nm_r (af_r343 (by omega)) ?_⟩
    have ex : 343 * (x / 343) + x % 343 = x := by omega
    have hp8 : x / 343 < 8 := by omega
    refine ax_widen (R := R) hp8 (by omega) (by rw [ex]; exact (hR x (by omega)).mp hz) (by rw [ex]; exact hs) (by rw [ex]; exact hP _ hp8) (fun si' sz' og' ho hP' => ?_)
    rw [ex] at hP'
    refine nm_r (nI_1 x) (ih (x + 1) si' sz' og' (by omega) (fun p hp => ?_))
    by_cases e : p = x / 343
    · subst e; exact hP'
    · obtain ⟨o1, o2, o3⟩ := ho p hp e
      refine ax_P_congr o3 o1 o2 ?_
      obtain ⟨a1, a2, a3, a4, a5⟩ := hP p hp
      exact ⟨a1, a2, fun t ht hlt hr => a3 t ht (by omega) hr, a4, a5⟩
theorem ax_23 {R : Nat → Prop} (hR : ∀ s, s < 2744 → (¬ sr s = 0 ↔ R s)) (hsz : ∀ p, p < 8 → sz p = 0) (h : ∀ si' sz' og', (∀ p, p < 8 → ax_P R p 2744 si' sz' og') → post (c, f, sk, se, sv, sd, sr, fo, si', sz', og')) : ∀ (d x : Nat) (si : Nat → Int32), x + d = 2744 → (∀ s, s < x → si s = 0) → wX_findSpans_23 post c f (d + 1) (nI x) sk se sv sd sr fo si sz og := by
  intro d
  induction d with
  | zero =>
    intro x si hx hz
    have e : x = 2744 := by omega
    subst e
    refine br_t (nI_le (a := 2744) (b := 2744) (by decide) (by decide)) ⟨2745, ax_45 hR h 2744 0 si sz og (by decide) (fun p hp => ?_)⟩
    have hno : ∀ t, t < 343 → si (343 * p + t) = 0 := fun t ht => hz _ (by omega)
    refine ⟨?_, fun t ht k => absurd (hno t ht) k, fun t ht hlt => by omega, af_sep_none (fun t ht k => k (hno t ht)), Or.inl hno⟩
    rw [hsz p hp, af_ct_zero 343 (fun i hi k => k (hno i hi))]
    rfl
  | succ d ih =>
    intro x si hx hz
    have hcl : (nI x).toNatClampNeg = x := nI_clamp (by omega)
    refine br_f (nI_ge (a := x) (b := 2744) (by omega) (by decide)) ⟨vp_in_nI (by omega) (by decide), ?_⟩
    rw [hcl, af_b0]
    refine nm_e (nm_r (nI_1 x) (ih (x + 1) _ (by omega) (fun s hs => ?_)))
    by_cases e : s = x
    · subst e; exact pk_us
    · rw [pk_un e]; exact hz s (by omega)
theorem ax_fs2 {R : Nat → Prop} (hR : ∀ s, s < 2744 → (¬ sr s = 0 ↔ R s)) (h : ∀ si' sz' og', (∀ p, p < 8 → ax_P R p 2744 si' sz' og') → post (c, f, sk, se, sv, sd, sr, fo, si', sz', og')) : ∀ (d x : Nat) (sz : Nat → Int32), x + d = 8 → (∀ p, p < x → sz p = 0) → wX_findSpans_2 post c f (d + 1) (nI x) sk se sv sd sr fo si sz og := by
  intro d
  induction d with
  | zero =>
    intro x sz hx hz
    have e : x = 8 := by omega
    subst e
    exact br_t (nI_le (a := 8) (b := 8) (by decide) (by decide)) ⟨2745, ax_23 hR hz h 2744 0 si (by decide) (fun s hs => by omega)⟩
  | succ d ih =>
    intro x sz hx hz
    have hcl : (nI x).toNatClampNeg = x := nI_clamp (by omega)
    refine br_f (nI_ge (a := x) (b := 8) (by omega) (by decide)) ⟨vp_in_nI (by omega) (by decide), ?_⟩
    rw [hcl]
    refine nm_e (nm_r (nI_1 x) (ih (x + 1) _ (by omega) (fun s hs => ?_)))
    by_cases e : s = x
    · subst e; exact pk_us
    · rw [pk_un e]; exact hz s (by omega)
/-- what X's tables say -/
def ax_I (R : Nat → Prop) (sr si sz og : Nat → Int32) : Prop := (∀ s, s < 2744 → (¬ sr s = 0 ↔ R s)) ∧ ∀ p, p < 8 → ax_P R p 2744 si sz og
theorem ax_follow {n : Nat} {E K F : Nat → Nat} (hSt : af_St n E K F) (hS : ax_S n E K F c sk se sv sd) (h : ∀ f' sr' fo' si' sz' og', ax_I (af_Rc n E K F) sr' si' sz' og' → post (c, f', sk, se, sv, sd, sr', fo', si', sz', og')) : wpX_followSteps post (c, f, sk, se, sv, sd, sr, fo, si, sz, og) := by
  unfold wpX_followSteps
  dsimp only
  refine ax_find hSt hS (fun sr' fo' f' hR => ?_)
  exact ⟨9, ax_fs2 hR (fun si' sz' og' hP => h f' sr' fo' si' sz' og' ⟨hR, hP⟩) 8 0 sz (by decide) (fun p hp => by omega)⟩
end
end
section
theorem ax_pt0 {post : Int32 → Prop} {x : Int32} (h : x < 0 ∨ nI 8 ≤ x) (hp : post 0) : wpX_isPoint post x := ax_is0 8 rfl h hp
theorem ax_pt1 {post : Int32 → Prop} {j : Nat} (h : j < 8) (hp : post 1) : wpX_isPoint post (nI j) := ax_is1 8 rfl (by decide) h hp
theorem ax_en0 {post : Int32 → Prop} {x : Int32} (h : x < 0 ∨ nI 64 ≤ x) (hp : post 0) : wpX_isEnds post x := ax_is0 64 rfl h hp
theorem ax_en1 {post : Int32 → Prop} {j : Nat} (h : j < 64) (hp : post 1) : wpX_isEnds post (nI j) := ax_is1 64 rfl (by decide) h hp
theorem ax_va0 {post : Int32 → Prop} {x : Int32} (h : x < 0 ∨ nI 3 ≤ x) (hp : post 0) : wpX_isVariable post x := ax_is0 3 rfl h hp
theorem ax_va1 {post : Int32 → Prop} {j : Nat} (h : j < 3) (hp : post 1) : wpX_isVariable post (nI j) := ax_is1 3 rfl (by decide) h hp
theorem ax_dg0 {post : Int32 → Prop} {x : Int32} (h : x < 0 ∨ nI 2401 ≤ x) (hp : post 0) : wpX_isDigits post x := ax_is0 2401 rfl h hp
theorem ax_dg1 {post : Int32 → Prop} {j : Nat} (h : j < 2401) (hp : post 1) : wpX_isDigits post (nI j) := ax_is1 2401 rfl (by decide) h hp
theorem ax_tr0 {post : Int32 → Prop} {x : Int32} (h : x < 0 ∨ nI 343 ≤ x) (hp : post 0) : wpX_isTriple post x := ax_is0 343 rfl h hp
theorem ax_tr1 {post : Int32 → Prop} {j : Nat} (h : j < 343) (hp : post 1) : wpX_isTriple post (nI j) := ax_is1 343 rfl (by decide) h hp
theorem ax_mem {R : Nat → Prop} {sr si sz og : Nat → Int32} (hI : ax_I R sr si sz og) {p t : Nat} (hp : p < 8) (ht : t < 343) : ¬ si (343 * p + t) = 0 ↔ af_In R p t := by
  obtain ⟨h1, h2, h3, h4, h5⟩ := hI.2 p hp
  refine ⟨h2 t ht, fun hin k => ?_⟩
  obtain ⟨e, he, ha, hn⟩ := h4 t ht (fun z => z k)
  exact hn (hin e he (fun t' ht' hr => ha t' ht' (h3 t' ht' (by omega) hr)))
theorem ax_size {R : Nat → Prop} {sr si sz og : Nat → Int32} (hI : ax_I R sr si sz og) {p : Nat} (hp : p < 8) : sz p = nI (af_ct (af_In R p) 343) := by
  rw [(hI.2 p hp).1]
  exact congrArg nI (af_ct_congr 343 (fun t ht => ax_mem hI hp ht))
theorem ax_org {R : Nat → Prop} {sr si sz og : Nat → Int32} (hI : ax_I R sr si sz og) {p : Nat} (hp : p < 8) (h : 0 < af_ct (af_In R p) 343) : ∃ o, o < 343 ∧ og p = nI o ∧ af_In R p o := by
  rcases (hI.2 p hp).2.2.2.2 with z | ⟨o, ho, eo, hne⟩
  · obtain ⟨t, ht, hin⟩ := af_ct_ex 343 h
    exact absurd (z t ht) ((ax_mem hI hp ht).mpr hin)
  · exact ⟨o, ho, eo, (ax_mem hI hp ho).mp hne⟩
/-- something is reached at p just when its span isn't empty -/
theorem af_In_none {R : Nat → Prop} {p : Nat} (h : ∀ t, t < 343 → ¬ R (343 * p + t)) : ∀ t, t < 343 → ¬ af_In R p t := by
  intro t ht hin
  have k := hin 343 (by decide) (fun t' ht' hr => (h t' ht' hr).elim)
  have e : af_lf 343 t = 0 := by
    show 0 * (t % 7) + 0 * (t / 7 % 7) + 0 * (t / 49 % 7) = 0
    omega
  unfold af_kp at k
  rw [e] at k
  exact absurd k (by decide)
theorem af_In_pos {R : Nat → Prop} {p : Nat} : 0 < af_ct (af_In R p) 343 ↔ ∃ t, t < 343 ∧ R (343 * p + t) := by
  refine ⟨fun h => ?_, fun ⟨t, ht, hr⟩ => af_ct_pos ht (af_In_R ht hr)⟩
  refine Classical.byContradiction fun k => ?_
  rw [af_ct_zero 343 (af_In_none (fun t ht hr => k ⟨t, ht, hr⟩))] at h
  omega
/-- the answer of constant -/
def af_Qc (R : Nat → Prop) (p k : Nat) (r : Int32) : Prop := (r = -4 ∧ ∀ t, t < 343 → ¬ af_In R p t) ∨ (r = -4 ∧ ∃ t t', t < 343 ∧ t' < 343 ∧ af_In R p t ∧ af_In R p t' ∧ af_vl t k ≠ af_vl t' k) ∨ (∃ d, r = nI d ∧ (∃ t, t < 343 ∧ af_In R p t) ∧ ∀ t, t < 343 → af_In R p t → af_vl t k = d)
theorem af_Qc_u {R : Nat → Prop} {p k : Nat} {r r' : Int32} (h : af_Qc R p k r) (h' : af_Qc R p k r') : r' = r := by
  rcases h with ⟨e, h⟩ | ⟨e, t, t', ht, ht', a, a', n⟩ | ⟨d, e, ⟨t, ht, a⟩, h⟩
  · rcases h' with ⟨e', _⟩ | ⟨e', _⟩ | ⟨_, _, ⟨t, ht, a⟩, _⟩
    · rw [e, e']
    · rw [e, e']
    · exact absurd a (h t ht)
  · rcases h' with ⟨e', _⟩ | ⟨e', _⟩ | ⟨d, _, _, h'⟩
    · rw [e, e']
    · rw [e, e']
    · exact absurd ((h' t ht a).trans (h' t' ht' a').symm) n
  · rcases h' with ⟨_, h'⟩ | ⟨e', s, s', hs, hs', b, b', n⟩ | ⟨d', e', _, h'⟩
    · exact absurd a (h' t ht)
    · exact absurd ((h s hs b).trans (h s' hs' b').symm) n
    · rw [e, e', ← h t ht a, ← h' t ht a]
/-- the scan for the greatest: g so far, found k times -/
def af_V (c : Nat → Nat) (j g k : Nat) : Prop := (∀ i, i < j → c i ≤ g) ∧ (0 < j → ∃ i, i < j ∧ c i = g) ∧ k = af_ct (fun i => c i = g) j
theorem af_V_gt {c : Nat → Nat} {j g k : Nat} (h : af_V c j g k) (hg : g < c j) : af_V c (j + 1) (c j) 1 := by
  refine ⟨fun i hi => ?_, fun _ => ⟨j, by omega, rfl⟩, ?_⟩
  · by_cases e : i = j
    · subst e; exact Nat.le_refl _
    · have := h.1 i (by omega)
      omega
  · rw [af_ct_t (P := fun i => c i = c j) (n := j) rfl, af_ct_zero j (fun i hi e => ?_)]
    have := h.1 i hi
    omega
theorem af_V_eq {c : Nat → Nat} {j g k : Nat} (h : af_V c j g k) (hg : c j = g) : af_V c (j + 1) g (k + 1) := by
  refine ⟨fun i hi => ?_, fun _ => ⟨j, by omega, hg⟩, ?_⟩
  · by_cases e : i = j
    · subst e; omega
    · exact h.1 i (by omega)
  · rw [af_ct_t (P := fun i => c i = g) (n := j) hg, h.2.2]
theorem af_V_lt {c : Nat → Nat} {j g k : Nat} (h : af_V c j g k) (hg : c j < g) (hj : 0 < j) : af_V c (j + 1) g k := by
  obtain ⟨i, hi, ei⟩ := h.2.1 hj
  refine ⟨fun i hi => ?_, fun _ => ⟨i, by omega, ei⟩, ?_⟩
  · by_cases e : i = j
    · subst e; omega
    · exact h.1 i (by omega)
  · rw [af_ct_f (P := fun i => c i = g) (n := j) (by omega), h.2.2]
theorem af_V_u {c : Nat → Nat} {j g k g' k' : Nat} (hj : 0 < j) (h : af_V c j g k) (h' : af_V c j g' k') : k = k' := by
  obtain ⟨i, hi, ei⟩ := h.2.1 hj
  obtain ⟨i', hi', ei'⟩ := h'.2.1 hj
  have a := h.1 i' hi'
  have b := h'.1 i hi
  have e : g = g' := by omega
  subst e
  rw [h.2.2, h'.2.2]
section
variable {post : Int32 → Prop} {R : Nat → Prop} {c f : Int32} {sk se sv sd sr fo si sz og : Nat → Int32}
theorem ax_reached0 {x : Int32} (h : x < 0 ∨ nI 8 ≤ x) (hp : post 0) : wpX_reached post (c, f, sk, se, sv, sd, sr, fo, si, sz, og) x := by
  unfold wpX_reached
  dsimp only
  exact ax_pt0 h (af_i0 hp)
theorem ax_reached1 {p : Nat} (hI : ax_I R sr si sz og) (hp : p < 8) (h1 : (∃ t, t < 343 ∧ R (343 * p + t)) → post 1) (h0 : ¬ (∃ t, t < 343 ∧ R (343 * p + t)) → post 0) : wpX_reached post (c, f, sk, se, sv, sd, sr, fo, si, sz, og) (nI p) := by
  have hle := af_ct_le (af_In R p) 343
  unfold wpX_reached
  dsimp only
  refine ax_pt1 hp (af_i1 ⟨vp_in_nI hp (by decide), ?_⟩)
  rw [nI_clamp (by omega), ax_size hI hp]
  refine pk_le (af_ct (af_In R p) 343) 0 (fun z => h0 (fun k => ?_)) (fun z => h1 (af_In_pos.mp z))
  have := af_In_pos.mpr k
  omega
theorem ax_keep8 {p e : Nat} (hI : ax_I R sr si sz og) (hp : p < 8) (he : e < 2401) (h1 : af_Hd R p e → post 1) (h0 : ¬ af_Hd R p e → post 0) : ∀ d j : Nat, j + d = 343 → (∀ t, t < j → R (343 * p + t) → af_kp e t) → wX_allKeepTo_8 post (nI p) (nI e) (nI (e / 343 % 7)) c f sk se sv sd sr fo si sz og (d + 1) (nI j) := by
  intro d
  induction d with
  | zero =>
    intro j hj hk
    have e : j = 343 := by omega
    subst e
    exact br_t (nI_le (a := 343) (b := 343) (by decide) (by decide)) (h1 hk)
  | succ d ih =>
    intro j hj hk
    refine br_f (nI_ge (a := j) (b := 343) (by omega) (by decide)) ?_
    rw [af_343m, nI_add, nI_clamp (by omega)]
    refine ⟨vp_in_nI (by omega) (by decide), br_c (fun hz => nm_r (nI_1 j) (ih (j + 1) (by omega) (fun t ht hr => ?_))) (fun hz => ax_left he (by omega) ?_)⟩
    · by_cases e' : t = j
      · subst e'; exact absurd hz ((hI.1 _ (by omega)).mpr hr)
      · exact hk t (by omega) hr
    · refine pk_eq (af_lf e j % 7) (e / 343 % 7) (fun z => nm_r (nI_1 j) (ih (j + 1) (by omega) (fun t ht hr => ?_))) (fun z => h0 (fun k => z (k j (by omega) ((hI.1 _ (by omega)).mp hz))))
      by_cases e' : t = j
      · subst e'; exact z
      · exact hk t (by omega) hr
theorem ax_keep {p e : Nat} (hI : ax_I R sr si sz og) (hp : p < 8) (he : e < 2401) (h1 : af_Hd R p e → post 1) (h0 : ¬ af_Hd R p e → post 0) : wpX_allKeepTo post (c, f, sk, se, sv, sd, sr, fo, si, sz, og) (nI p) (nI e) := by
  unfold wpX_allKeepTo
  dsimp only
  exact ax_right he ⟨344, ax_keep8 hI hp he h1 h0 343 0 (by decide) (fun t ht => by omega)⟩
theorem ax_holds0 {x y : Int32} (h : x < 0 ∨ nI 8 ≤ x) (hp : post 0) : wpX_holds post (c, f, sk, se, sv, sd, sr, fo, si, sz, og) x y := by
  unfold wpX_holds
  dsimp only
  exact ax_pt0 h (af_i0 hp)
theorem ax_holds00 {p : Nat} {y : Int32} (hp : p < 8) (h : y < 0 ∨ nI 2401 ≤ y) (hh : post 0) : wpX_holds post (c, f, sk, se, sv, sd, sr, fo, si, sz, og) (nI p) y := by
  unfold wpX_holds
  dsimp only
  exact ax_pt1 hp (af_i1 (ax_dg0 h (af_i0 hh)))
theorem ax_holds1 {p e : Nat} (hI : ax_I R sr si sz og) (hp : p < 8) (he : e < 2401) (h1 : af_Hd R p e → post 1) (h0 : ¬ af_Hd R p e → post 0) : wpX_holds post (c, f, sk, se, sv, sd, sr, fo, si, sz, og) (nI p) (nI e) := by
  unfold wpX_holds
  dsimp only
  exact ax_pt1 hp (af_i1 (ax_dg1 he (af_i1 (ax_keep hI hp he (fun z => af_i1 (h1 z)) (fun z => af_i0 (h0 z))))))
theorem ax_eq13 {p : Nat} (hI : ax_I R sr si sz og) (hp : p < 8) (h : post (nI (af_ct (af_Hd R p) 2401))) : ∀ d j : Nat, j + d = 2401 → wX_equations_13 post (nI p) c f sk se sv sd sr fo si sz og (d + 1) (nI (af_ct (af_Hd R p) j)) (nI j) := by
  intro d
  induction d with
  | zero =>
    intro j hj
    have e : j = 2401 := by omega
    subst e
    exact br_t (nI_le (a := 2401) (b := 2401) (by decide) (by decide)) h
  | succ d ih =>
    intro j hj
    refine br_f (nI_ge (a := j) (b := 2401) (by omega) (by decide)) (ax_keep hI hp (by omega) (fun z => af_i1 ?_) (fun z => af_i0 ?_))
    · have q := ih (j + 1) (by omega)
      rw [af_ct_t z] at q
      exact nm_r (nI_1 _) (nm_r (nI_1 j) q)
    · have q := ih (j + 1) (by omega)
      rw [af_ct_f z] at q
      exact nm_r (nI_1 j) q
theorem ax_equations0 {x : Int32} (h : x < 0 ∨ nI 8 ≤ x) (hp : post (-1)) : wpX_equations post (c, f, sk, se, sv, sd, sr, fo, si, sz, og) x := by
  unfold wpX_equations
  dsimp only
  exact ax_pt0 h (af_i0 hp)
theorem ax_equations1 {p : Nat} (hI : ax_I R sr si sz og) (hp : p < 8) (h : post (nI (af_ct (af_Hd R p) 2401))) : wpX_equations post (c, f, sk, se, sv, sd, sr, fo, si, sz, og) (nI p) := by
  unfold wpX_equations
  dsimp only
  exact ax_pt1 hp (af_i1 ⟨2402, ax_eq13 hI hp h 2401 0 (by decide)⟩)
theorem ax_span0 {x : Int32} (h : x < 0 ∨ nI 8 ≤ x) (hp : post (-1)) : wpX_span post (c, f, sk, se, sv, sd, sr, fo, si, sz, og) x := by
  unfold wpX_span
  dsimp only
  exact ax_pt0 h (af_i0 hp)
theorem ax_span1 {p : Nat} (hI : ax_I R sr si sz og) (hp : p < 8) (h : post (nI (af_ct (af_In R p) 343))) : wpX_span post (c, f, sk, se, sv, sd, sr, fo, si, sz, og) (nI p) := by
  unfold wpX_span
  dsimp only
  refine ax_pt1 hp (af_i1 ⟨vp_in_nI hp (by decide), ?_⟩)
  rw [nI_clamp (by omega), ax_size hI hp]
  exact h
theorem ax_inSpan0 {x y : Int32} (h : x < 0 ∨ nI 8 ≤ x) (hp : post 0) : wpX_inSpan post (c, f, sk, se, sv, sd, sr, fo, si, sz, og) x y := by
  unfold wpX_inSpan
  dsimp only
  exact ax_pt0 h (af_i0 hp)
theorem ax_inSpan00 {p : Nat} {y : Int32} (hp : p < 8) (h : y < 0 ∨ nI 343 ≤ y) (hh : post 0) : wpX_inSpan post (c, f, sk, se, sv, sd, sr, fo, si, sz, og) (nI p) y := by
  unfold wpX_inSpan
  dsimp only
  exact ax_pt1 hp (af_i1 (ax_tr0 h (af_i0 hh)))
theorem ax_inSpan1 {p t : Nat} (hI : ax_I R sr si sz og) (hp : p < 8) (ht : t < 343) (h1 : af_In R p t → post 1) (h0 : ¬ af_In R p t → post 0) : wpX_inSpan post (c, f, sk, se, sv, sd, sr, fo, si, sz, og) (nI p) (nI t) := by
  unfold wpX_inSpan
  dsimp only
  refine ax_pt1 hp (af_i1 (ax_tr1 ht (af_i1 ?_)))
  rw [af_343m, nI_add, nI_clamp (by omega)]
  exact ⟨vp_in_nI (by omega) (by decide), br_c (fun hz => h0 (fun k => (ax_mem hI hp ht).mpr k hz)) (fun hz => h1 ((ax_mem hI hp ht).mp hz))⟩
theorem ax_con45 {p k o : Nat} (hI : ax_I R sr si sz og) (hp : p < 8) (hk : k < 3) (ho : o < 343) (hin : af_In R p o) (h : ∀ r, af_Qc R p k r → post r) : ∀ d j : Nat, j + d = 343 → (∀ t, t < j → af_In R p t → af_vl t k = af_vl o k) → wX_constant_45 post (nI p) (nI k) (nI (af_vl o k)) c f sk se sv sd sr fo si sz og (d + 1) (nI j) := by
  intro d
  induction d with
  | zero =>
    intro j hj ha
    have e : j = 343 := by omega
    subst e
    exact br_t (nI_le (a := 343) (b := 343) (by decide) (by decide)) (h _ (Or.inr (Or.inr ⟨_, rfl, ⟨o, ho, hin⟩, ha⟩)))
  | succ d ih =>
    intro j hj ha
    have hj' : j < 343 := by omega
    refine br_f (nI_ge (a := j) (b := 343) (by omega) (by decide)) ?_
    rw [af_343m, nI_add, nI_clamp (by omega)]
    refine ⟨vp_in_nI (by omega) (by decide), br_c (fun hz => nm_r (nI_1 j) (ih (j + 1) (by omega) (fun t ht hr => ?_))) (fun hz => ax_valueIn hj' hk ?_)⟩
    · by_cases e' : t = j
      · subst e'; exact absurd hz ((ax_mem hI hp hj').mpr hr)
      · exact ha t (by omega) hr
    · have b1 := af_vl_lt j k
      have b2 := af_vl_lt o k
      refine pk_eq (af_vl j k) (af_vl o k) (fun z => nm_r (nI_1 j) (ih (j + 1) (by omega) (fun t ht hr => ?_))) (fun z => h _ (Or.inr (Or.inl ⟨rfl, j, o, hj', ho, (ax_mem hI hp hj').mp hz, hin, z⟩)))
      by_cases e' : t = j
      · subst e'; exact z
      · exact ha t (by omega) hr
theorem ax_constant0 {x y : Int32} (h : x < 0 ∨ nI 8 ≤ x) (hp : post (-1)) : wpX_constant post (c, f, sk, se, sv, sd, sr, fo, si, sz, og) x y := by
  unfold wpX_constant
  dsimp only
  exact ax_pt0 h (af_i0 hp)
theorem ax_constant00 {p : Nat} {y : Int32} (hp : p < 8) (h : y < 0 ∨ nI 3 ≤ y) (hh : post (-2)) : wpX_constant post (c, f, sk, se, sv, sd, sr, fo, si, sz, og) (nI p) y := by
  unfold wpX_constant
  dsimp only
  exact ax_pt1 hp (af_i1 (ax_va0 h (af_i0 hh)))
theorem ax_constant1 {p k : Nat} (hI : ax_I R sr si sz og) (hp : p < 8) (hk : k < 3) (h : ∀ r, af_Qc R p k r → post r) : wpX_constant post (c, f, sk, se, sv, sd, sr, fo, si, sz, og) (nI p) (nI k) := by
  have hle := af_ct_le (af_In R p) 343
  have hin : vp_in (nI p) 8 := vp_in_nI hp (by decide)
  unfold wpX_constant
  dsimp only
  refine ax_pt1 hp (af_i1 (ax_va1 hk (af_i1 ⟨hin, ?_⟩)))
  rw [nI_clamp (by omega), ax_size hI hp]
  refine pk_eq (af_ct (af_In R p) 343) 0 (fun z => h _ (Or.inl ⟨rfl, fun t ht q => ?_⟩)) (fun z => ⟨hin, ?_⟩)
  · have := af_ct_pos ht q
    omega
  · obtain ⟨o, ho, eo, hino⟩ := ax_org hI hp (by omega)
    rw [eo]
    exact ax_valueIn ho hk ⟨344, ax_con45 hI hp hk ho hino h 343 0 (by decide) (fun t ht => by omega)⟩
theorem ax_imp18 {p q : Nat} (hI : ax_I R sr si sz og) (hp : p < 8) (hq : q < 8) (h1 : (∀ e, e < 2401 → af_Hd R q e → af_Hd R p e) → post 1) (h0 : ¬ (∀ e, e < 2401 → af_Hd R q e → af_Hd R p e) → post 0) : ∀ d j : Nat, j + d = 2401 → (∀ e, e < j → af_Hd R q e → af_Hd R p e) → wX_implies_18 post (nI p) (nI q) c f sk se sv sd sr fo si sz og (d + 1) (nI j) := by
  intro d
  induction d with
  | zero =>
    intro j hj ha
    have e : j = 2401 := by omega
    subst e
    exact br_t (nI_le (a := 2401) (b := 2401) (by decide) (by decide)) (h1 ha)
  | succ d ih =>
    intro j hj ha
    refine br_f (nI_ge (a := j) (b := 2401) (by omega) (by decide)) (ax_keep hI hq (by omega) (fun z => af_i1 (ax_keep hI hp (by omega) (fun z' => af_i1 (nm_r (nI_1 j) (ih (j + 1) (by omega) (fun e he hd => ?_)))) (fun z' => af_i0 (h0 (fun k => z' (k j (by omega) z)))))) (fun z => af_i0 (nm_r (nI_1 j) (ih (j + 1) (by omega) (fun e he hd => ?_)))))
    · by_cases e' : e = j
      · subst e'; exact z'
      · exact ha e (by omega) hd
    · by_cases e' : e = j
      · subst e'; exact absurd hd z
      · exact ha e (by omega) hd
theorem ax_implies0 {x y : Int32} (h : x < 0 ∨ nI 8 ≤ x) (hp : post 0) : wpX_implies post (c, f, sk, se, sv, sd, sr, fo, si, sz, og) x y := by
  unfold wpX_implies
  dsimp only
  exact ax_pt0 h (af_i0 hp)
theorem ax_implies00 {p : Nat} {y : Int32} (hp : p < 8) (h : y < 0 ∨ nI 8 ≤ y) (hh : post 0) : wpX_implies post (c, f, sk, se, sv, sd, sr, fo, si, sz, og) (nI p) y := by
  unfold wpX_implies
  dsimp only
  exact ax_pt1 hp (af_i1 (ax_pt0 h (af_i0 hh)))
theorem ax_implies1 {p q : Nat} (hI : ax_I R sr si sz og) (hp : p < 8) (hq : q < 8) (h1 : (∀ e, e < 2401 → af_Hd R q e → af_Hd R p e) → post 1) (h0 : ¬ (∀ e, e < 2401 → af_Hd R q e → af_Hd R p e) → post 0) : wpX_implies post (c, f, sk, se, sv, sd, sr, fo, si, sz, og) (nI p) (nI q) := by
  unfold wpX_implies
  dsimp only
  exact ax_pt1 hp (af_i1 (ax_pt1 hq (af_i1 ⟨2402, ax_imp18 hI hp hq h1 h0 2401 0 (by decide) (fun e he => by omega)⟩)))
theorem ax_loo6 (hI : ax_I R sr si sz og) (h : ∀ g k, af_V (fun j => af_ct (af_In R j) 343) 8 g k → post (nI k)) : ∀ d j g k : Nat, j + d = 8 → af_V (fun j => af_ct (af_In R j) 343) j g k → (0 < j ∨ g = 0) → g ≤ 343 → wX_loosest_6 post c f sk se sv sd sr fo si sz og (d + 1) (nI g) (nI k) (nI j) := by
  intro d
  induction d with
  | zero =>
    intro j g k hj hV hg hb
    have e : j = 8 := by omega
    subst e
    exact br_t (nI_le (a := 8) (b := 8) (by decide) (by decide)) (h g k hV)
  | succ d ih =>
    intro j g k hj hV hg hb
    have hj8 : j < 8 := by omega
    have hin : vp_in (nI j) 8 := vp_in_nI hj8 (by decide)
    have hle := af_ct_le (af_In R j) 343
    refine br_f (nI_ge (a := j) (b := 8) (by omega) (by decide)) ⟨hin, ?_⟩
    unfold wX_loosest_31
    rw [nI_clamp (by omega), ax_size hI hj8]
    refine pk_le (af_ct (af_In R j) 343) g (fun z => ⟨hin, ?_⟩) (fun z => ⟨hin, nm_e ⟨hin, ?_⟩⟩)
    · refine pk_eq (af_ct (af_In R j) 343) g (fun e => ?_) (fun e => ?_)
      · exact nm_r (nI_1 k) (nm_r (nI_1 j) (ih (j + 1) g (k + 1) (by omega) (af_V_eq hV e) (Or.inl (by omega)) hb))
      · have hj0 : 0 < j := by
          rcases hg with hg | hg
          · exact hg
          · omega
        exact nm_r (nI_1 j) (ih (j + 1) g k (by omega) (af_V_lt hV (show af_ct (af_In R j) 343 < g by omega) hj0) (Or.inl (by omega)) hb)
    · refine br_t rfl ?_
      exact nm_r (nI_1 0) (nm_r (nI_1 j) (ih (j + 1) _ 1 (by omega) (af_V_gt hV z) (Or.inl (by omega)) hle))
theorem ax_loosest (hI : ax_I R sr si sz og) (h : ∀ g k, af_V (fun j => af_ct (af_In R j) 343) 8 g k → post (nI k)) : wpX_loosest post (c, f, sk, se, sv, sd, sr, fo, si, sz, og) :=
  ⟨9, ax_loo6 hI h 8 0 0 0 (by decide) ⟨fun i hi => by omega, fun hj => by omega, rfl⟩ (Or.inr rfl) (by decide)⟩
end
end
section
def ay_S (n : Nat) (E K F : Nat → Nat) (ns : Int32) (en kn fm : Nat → Int32) : Prop := ns = nI n ∧ ∀ i, i < n → en i = nI (E i) ∧ kn i = nI (K i) ∧ fm i = nI (F i)
/-- what is marked is reached -/
def ay_M (n : Nat) (E K F : Nat → Nat) (m : Nat → Int32) : Prop := ∀ s, s < 2744 → ¬ m s = 0 → af_Rc n E K F s
noncomputable def ay_ct (m : Nat → Int32) : Nat := af_ct (fun s => ¬ m s = 0) 2744
/-- marks may have come; r tells whether -/
def ay_G (m m' : Nat → Int32) (r : Int32) : Prop := (∀ x, ¬ m x = 0 → ¬ m' x = 0) ∧ ((r = 0 ∧ ∀ x, ¬ m' x = 0 → ¬ m x = 0) ∨ (r = 1 ∧ ay_ct m < ay_ct m'))
theorem ay_G_rf {m : Nat → Int32} : ay_G m m 0 := ⟨fun _ h => h, Or.inl ⟨rfl, fun _ h => h⟩⟩
theorem ay_G_n {m m' : Nat → Int32} {r : Int32} (h : ay_G m m' r) : narrow .boolean (.int r) = .int r := by
  rcases h.2 with ⟨e, _⟩ | ⟨e, _⟩
  · rw [e]; exact af_n0
  · rw [e]; exact af_n1
theorem ay_G_1 {m m' : Nat → Int32} {r : Int32} (h : ay_G m m' r) (hr : ¬ r = 0) : r = 1 := by
  rcases h.2 with ⟨e, _⟩ | ⟨e, _⟩
  · exact absurd e hr
  · exact e
theorem ay_ct_mono {m m' : Nat → Int32} (h : ∀ x, ¬ m x = 0 → ¬ m' x = 0) : ay_ct m ≤ ay_ct m' := af_ct_mono 2744 (fun i _ => h i)
theorem ay_G_t0 {m m' m'' : Nat → Int32} {a : Int32} (h : ay_G m m' a) (h' : ay_G m' m'' 0) : ay_G m m'' a := by
  have h2 : ∀ x, ¬ m'' x = 0 → ¬ m' x = 0 := by
    rcases h'.2 with ⟨_, z⟩ | ⟨z, _⟩
    · exact z
    · exact absurd z (by decide)
  refine ⟨fun x hx => h'.1 x (h.1 x hx), ?_⟩
  rcases h.2 with ⟨e, z⟩ | ⟨e, z⟩
  · exact Or.inl ⟨e, fun x hx => z x (h2 x hx)⟩
  · exact Or.inr ⟨e, Nat.lt_of_lt_of_le z (ay_ct_mono h'.1)⟩
theorem ay_G_t1 {m m' m'' : Nat → Int32} {a r : Int32} (h : ay_G m m' a) (h' : ay_G m' m'' r) (hr : ¬ r = 0) : ay_G m m'' 1 := by
  refine ⟨fun x hx => h'.1 x (h.1 x hx), Or.inr ⟨rfl, ?_⟩⟩
  rcases h'.2 with ⟨e, _⟩ | ⟨_, z⟩
  · exact absurd e hr
  · exact Nat.lt_of_le_of_lt (ay_ct_mono h.1) z
section
variable {n : Nat} {E K F : Nat → Nat} {post : Int32 → SY → Prop} {ns kw ls : Int32} {en kn fm mk tr cn ho : Nat → Int32}
theorem ay_mark0 {p t : Nat} (hp : p < 8) (ht : t < 343) (h1 : mk (343 * p + t) = 0 → post 1 (ns, kw, ls, en, kn, fm, upd mk (343 * p + t) 1, tr, cn, ho)) (h0 : ¬ mk (343 * p + t) = 0 → post 0 (ns, kw, ls, en, kn, fm, upd mk (343 * p + t) 1, tr, cn, ho)) : wpY_mark post (ns, kw, ls, en, kn, fm, mk, tr, cn, ho) (nI p) (nI t) := by
  have hin : vp_in (nI (343 * p + t)) 2744 := vp_in_nI (by omega) (by decide)
  unfold wpY_mark wY_mark_20
  dsimp only
  rw [af_m343, nI_add, nI_clamp (by omega), af_b1]
  exact ⟨hin, br_c (fun z => ⟨hin, nm_e ⟨af_n1, h1 z⟩⟩) (fun z => ⟨hin, nm_e ⟨af_n0, h0 z⟩⟩)⟩
theorem ay_mark {p t : Nat} (hM : ay_M n E K F mk) (hp : p < 8) (ht : t < 343) (hR : af_Rc n E K F (343 * p + t)) (h : ∀ r mk', ay_M n E K F mk' → ay_G mk mk' r → ¬ mk' (343 * p + t) = 0 → post r (ns, kw, ls, en, kn, fm, mk', tr, cn, ho)) : wpY_mark post (ns, kw, ls, en, kn, fm, mk, tr, cn, ho) (nI p) (nI t) := by
  have hM' : ay_M n E K F (upd mk (343 * p + t) 1) := by
    intro s hs hne
    rcases af_upd_ne.mp hne with z | z
    · exact hM s hs z
    · rw [z]; exact hR
  have hup : ∀ x, ¬ mk x = 0 → ¬ upd mk (343 * p + t) 1 x = 0 := fun x hx => af_upd_ne.mpr (Or.inl hx)
  have hs : ¬ upd mk (343 * p + t) 1 (343 * p + t) = 0 := af_upd_ne.mpr (Or.inr rfl)
  refine ay_mark0 hp ht (fun z => h 1 _ hM' ⟨hup, Or.inr ⟨rfl, ?_⟩⟩ hs) (fun z => h 0 _ hM' ⟨hup, Or.inl ⟨rfl, fun x hx => ?_⟩⟩ hs)
  · exact af_ct_lt (fun i _ => hup i) (by omega) hs (fun k => k z)
  · rcases af_upd_ne.mp hx with q | q
    · exact q
    · rw [q]; exact z
theorem ay_take94 {m0 : Nat → Int32} {i t p : Nat} (hi : i < 12) (ht : t < 343) (hp : p < 8) (hk : kn i = nI (K i)) (k3 : 3 ≤ K i) (k6 : K i < 6) (hR : ∀ v, v < 7 → af_Rc n E K F (343 * p + af_wv t (K i - 3) v)) (h : ∀ r mk', ay_M n E K F mk' → ay_G m0 mk' r → (∀ v, v < 7 → ¬ mk' (343 * p + af_wv t (K i - 3) v) = 0) → post r (ns, kw, ls, en, kn, fm, mk', tr, cn, ho)) : ∀ (d j : Nat) (a : Int32) (mk : Nat → Int32), j + d = 7 → ay_M n E K F mk → ay_G m0 mk a → (∀ v, v < j → ¬ mk (343 * p + af_wv t (K i - 3) v) = 0) → wY_take_94 post (nI i) (nI t) (nI p) (d + 1) a (nI j) ns kw ls en kn fm mk tr cn ho := by
  intro d
  induction d with
  | zero =>
    intro j a mk hj hM hG hv
    have e : j = 7 := by omega
    subst e
    exact br_t (nI_le (a := 7) (b := 7) (by decide) (by decide)) ⟨ay_G_n hG, h a mk hM hG hv⟩
  | succ d ih =>
    intro j a mk hj hM hG hv
    refine br_f (nI_ge (a := j) (b := 7) (by omega) (by decide)) ⟨vp_in_nI hi (by decide), ?_⟩
    rw [nI_clamp (by omega), hk, show nI (K i) - 3 = nI (K i - 3) from pk_sub k3]
    refine ay_with ht (by omega) (by omega) ?_
    have hw := af_wv_lt (t := t) (k := K i - 3) (v := j) ht (by omega)
    refine ay_mark hM hp hw (hR j (by omega)) (fun r mk' hM' hG' hm => ?_)
    have hv' : ∀ v, v < j + 1 → ¬ mk' (343 * p + af_wv t (K i - 3) v) = 0 := by
      intro v hvj
      by_cases e : v = j
      · subst e; exact hm
      · exact hG'.1 _ (hv v (by omega))
    refine br_c (fun z => ?_) (fun z => nm_r (nI_1 j) (ih (j + 1) 1 mk' (by omega) hM' (ay_G_t1 hG hG' z) hv'))
    subst z
    have hG2 := ay_G_t0 hG hG'
    refine br_c (fun z => ?_) (fun z => ?_)
    · subst z
      exact nm_r (nI_1 j) (ih (j + 1) 0 mk' (by omega) hM' hG2 hv')
    · have e := ay_G_1 hG2 z
      rw [e] at hG2
      exact nm_r (nI_1 j) (ih (j + 1) 1 mk' (by omega) hM' hG2 hv')
theorem ay_take {i t : Nat} (hSt : af_St n E K F) (hS : ay_S n E K F ns en kn fm) (hM : ay_M n E K F mk) (hi : i < n) (ht : t < 343) (hR : af_Rc n E K F (343 * (E i % 8) + t)) (h : ∀ r mk', ay_M n E K F mk' → ay_G mk mk' r → (∀ t', af_Sc (K i) (F i) t t' → ¬ mk' (343 * (E i / 8) + t') = 0) → post r (ns, kw, ls, en, kn, fm, mk', tr, cn, ho)) : wpY_take post (ns, kw, ls, en, kn, fm, mk, tr, cn, ho) (nI i) (nI t) := by
  obtain ⟨hn, hE⟩ := hSt
  obtain ⟨e1, e2, e3⟩ := hE i hi
  obtain ⟨s1, s2, s3⟩ := hS.2 i hi
  have hin : vp_in (nI i) 12 := vp_in_nI (by omega) (by decide)
  have hl := af_lf_le (F i) t
  unfold wpY_take
  dsimp only
  rw [nI_clamp (by omega), s1, s2, s3, af_d8 (by omega)]
  refine ⟨hin, by decide, nm_e ⟨hin, pk_eq (K i) 6 (fun k6 => ?_) (fun k6 => ⟨hin, pk_le 3 (K i) (fun k3 => ⟨8, ?_⟩) (fun k3 => ⟨hin, ay_left e3 ht ⟨hin, by decide, by decide, ?_⟩⟩)⟩)⟩⟩
  · refine ay_mark hM (by omega) ht (af_Rc_s hi ht hR (Or.inl ⟨k6, rfl⟩)) (fun r mk' hM' hG' hm => ⟨ay_G_n hG', h r mk' hM' hG' (fun t' ht' => ?_)⟩)
    rcases ht' with ⟨_, rfl⟩ | ⟨z, _⟩ | ⟨_, z, _⟩
    · exact hm
    · omega
    · omega
  · refine ay_take94 (n := n) (E := E) (K := K) (F := F) (m0 := mk) (by omega) ht (by omega) s2 k3 (by omega) (fun v hv => af_Rc_s hi ht hR (Or.inr (Or.inr ⟨k3, by omega, v, hv, rfl⟩))) (fun r mk' hM' hG' hm => h r mk' hM' hG' (fun t' ht' => ?_)) 7 0 0 mk (by decide) hM ay_G_rf (fun v hv => by omega)
    rcases ht' with ⟨z, _⟩ | ⟨z, _⟩ | ⟨_, _, v, hv, rfl⟩
    · omega
    · omega
    · exact hm v hv
  · refine nm_r (e' := nI ((af_lf (F i) t + F i / 343) % 7)) (by rw [af_d343 (by omega), nI_add, af_r7 (by omega)]) ⟨hin, ay_with ht k3 (by omega) ?_⟩
    have hw := af_wv_lt (t := t) (k := K i) (v := (af_lf (F i) t + F i / 343) % 7) ht (by omega)
    refine ay_mark hM (by omega) hw (af_Rc_s hi ht hR (Or.inr (Or.inl ⟨k3, rfl⟩))) (fun r mk' hM' hG' hm => ⟨ay_G_n hG', h r mk' hM' hG' (fun t' ht' => ?_)⟩)
    rcases ht' with ⟨z, _⟩ | ⟨_, rfl⟩ | ⟨z, _⟩
    · omega
    · exact hm
    · omega
end
/-- the marks are closed as far as the pass has come -/
def ay_C (E K F : Nat → Nat) (m : Nat → Int32) (k : Nat) : Prop := ∀ q, q < k → ¬ m (343 * (E (q / 343) % 8) + q % 343) = 0 → ∀ t', af_Sc (K (q / 343)) (F (q / 343)) (q % 343) t' → ¬ m (343 * (E (q / 343) / 8) + t') = 0
/-- the listed triples of a point, the states below x being done -/
def ay_P (m : Nat → Int32) (x : Nat) (tr cn : Nat → Int32) (p : Nat) : Prop := ∃ k, cn p = nI k ∧ k ≤ 343 ∧ k ≤ x - 343 * p ∧ (∀ j, j < k → ∃ t, t < 343 ∧ 343 * p + t < x ∧ tr (343 * p + j) = nI t ∧ ¬ m (343 * p + t) = 0) ∧ (∀ t, t < 343 → 343 * p + t < x → ¬ m (343 * p + t) = 0 → ∃ j, j < k ∧ tr (343 * p + j) = nI t)
/-- the lists of Y, when they are known -/
def ay_K (R : Nat → Prop) (tr cn : Nat → Int32) : Prop := ∀ p, p < 8 → ∃ k, cn p = nI k ∧ k ≤ 343 ∧ (∀ j, j < k → ∃ t, t < 343 ∧ tr (343 * p + j) = nI t ∧ R (343 * p + t)) ∧ (∀ t, t < 343 → R (343 * p + t) → ∃ j, j < k ∧ tr (343 * p + j) = nI t)
section
variable {n : Nat} {E K F : Nat → Nat} {post : SY → Prop} {ns kw ls : Int32} {en kn fm mk tr cn ho : Nat → Int32}
theorem ay_53 {J : Int32 → Int32 → Int32 → Int32 → (Nat → Int32) → (Nat → Int32) → (Nat → Int32) → (Nat → Int32) → (Nat → Int32) → (Nat → Int32) → (Nat → Int32) → Prop} {m0 : Nat → Int32} (hSt : af_St n E K F) (hS : ay_S n E K F ns en kn fm) (h : ∀ r mk', ay_M n E K F mk' → ay_G m0 mk' r → (r = 0 → ay_C E K F mk' (343 * n)) → J r ns kw ls en kn fm mk' tr cn ho) : ∀ (d k : Nat) (a : Int32) (mk : Nat → Int32), k + d = 343 * n → ay_M n E K F mk → ay_G m0 mk a → (a = 0 → ay_C E K F mk k) → wY_work_53 post J (d + 1) a (nI k) ns kw ls en kn fm mk tr cn ho := by
  have hn : n ≤ 12 := hSt.1
  have ec := hS.1
  intro d
  induction d with
  | zero =>
    intro k a mk hk hM hG hC
    have e : k = 343 * n := by omega
    subst e
    refine br_t ?_ (h a mk hM hG hC)
    rw [ec, af_m343]
    exact nI_le (Nat.le_refl _) (by omega)
  | succ d ih =>
    intro k a mk hk hM hG hC
    have hi : k / 343 < n := by omega
    have ht : k % 343 < 343 := by omega
    obtain ⟨e1, e2, e3⟩ := hSt.2 _ hi
    obtain ⟨s1, s2, s3⟩ := hS.2 _ hi
    refine br_f (by rw [ec, af_m343]; exact nI_ge (by omega) (by omega)) ⟨by decide, nm_r (af_d343 (by omega)) ?_⟩
    rw [nI_clamp (by omega), s1, af_r8 (by omega), af_r343 (by omega), af_m343, nI_add, nI_clamp (by omega)]
    refine ⟨vp_in_nI (by omega) (by decide), by decide, by decide, vp_in_nI (by omega) (by decide), br_c (fun z => ?_) (fun z => ⟨by decide, ?_⟩)⟩
    · refine nm_r (nI_1 k) (ih (k + 1) a mk (by omega) hM hG (fun ha q hq hm t' ht' => ?_))
      by_cases e : q = k
      · subst e; exact absurd z hm
      · exact hC ha q (by omega) hm t' ht'
    · refine ay_take hSt hS hM hi ht (hM _ (by omega) z) (fun r mk' hM' hG' hm => ?_)
      refine br_c (fun zr => ?_) (fun zr => ?_)
      · subst zr
        refine nm_r (nI_1 k) (ih (k + 1) a mk' (by omega) hM' (ay_G_t0 hG hG') (fun ha q hq hmq t' ht' => ?_))
        by_cases e : q = k
        · subst e; exact hm t' ht'
        · have hb : ∀ x, ¬ mk' x = 0 → ¬ mk x = 0 := by
            rcases hG'.2 with ⟨_, w⟩ | ⟨w, _⟩
            · exact w
            · exact absurd w (by decide)
          exact hG'.1 _ (hC ha q (by omega) (hb _ hmq) t' ht')
      · exact nm_r (nI_1 k) (ih (k + 1) 1 mk' (by omega) hM' (ay_G_t1 hG hG' zr) (fun w => absurd w af_10))
theorem ay_closed (hSt : af_St n E K F) (hM : ay_M n E K F mk) (h0 : ¬ mk 0 = 0) (hC : ay_C E K F mk (343 * n)) : ∀ s, s < 2744 → (¬ mk s = 0 ↔ af_Rc n E K F s) := by
  intro s hs
  refine ⟨hM s hs, fun hr => ?_⟩
  refine (hr (fun s => s < 2744 ∧ ¬ mk s = 0) ⟨⟨by decide, h0⟩, fun i hi t ht hP t' ht' => ?_⟩).2
  have hE := (hSt.2 i hi).1
  have hl := af_Sc_lt ht ht'
  have a1 : (343 * i + t) / 343 = i := by omega
  have a2 : (343 * i + t) % 343 = t := by omega
  have q := hC (343 * i + t) (by omega)
  rw [a1, a2] at q
  exact ⟨by omega, q hP.2 t' ht'⟩
theorem ay_45 (hSt : af_St n E K F) (hS : ay_S n E K F ns en kn fm) (h : ∀ mk', (∀ s, s < 2744 → (¬ mk' s = 0 ↔ af_Rc n E K F s)) → ∃ n124, wY_work_124 post ns kw ls n124 0 en kn fm mk' tr cn ho) : ∀ (fu : Nat) (a : Int32) (mk : Nat → Int32), ay_M n E K F mk → ¬ mk 0 = 0 → ((a = 0 ∧ ay_C E K F mk (343 * n) ∧ 1 ≤ fu) ∨ (a = 1 ∧ 2744 - ay_ct mk + 2 ≤ fu)) → wY_work_45 post fu a ns kw ls en kn fm mk tr cn ho := by
  intro fu
  induction fu with
  | zero =>
    intro a mk hM h0 hf
    rcases hf with ⟨_, _, z⟩ | ⟨_, z⟩
    · omega
    · omega
  | succ fu ih =>
    intro a mk hM h0 hf
    rcases hf with ⟨ea, hC, _⟩ | ⟨ea, hf⟩
    · exact br_t ea (h mk (ay_closed hSt hM h0 hC))
    · refine br_f (by rw [ea]; exact af_10) ⟨343 * n + 1, ?_⟩
      refine ay_53 (m0 := mk) hSt hS (fun r mk' hM' hG' hC' => ih r mk' hM' (hG'.1 0 h0) ?_) (343 * n) 0 0 mk (by omega) hM ay_G_rf (fun _ q hq => by omega)
      rcases hG'.2 with ⟨er, _⟩ | ⟨er, hlt⟩
      · exact Or.inl ⟨er, hC' er, by omega⟩
      · refine Or.inr ⟨er, ?_⟩
        have hle : ay_ct mk' ≤ 2744 := af_ct_le _ _
        omega
theorem ay_145 (h : ∀ tr' cn', (∀ p, p < 8 → ay_P mk 2744 tr' cn' p) → post (ns, kw, ls, en, kn, fm, mk, tr', cn', ho)) : ∀ (d x : Nat) (tr cn : Nat → Int32), x + d = 2744 → (∀ p, p < 8 → ay_P mk x tr cn p) → wY_work_145 post ns kw ls (d + 1) (nI x) en kn fm mk tr cn ho := by
  intro d
  induction d with
  | zero =>
    intro x tr cn hx hP
    have e : x = 2744 := by omega
    subst e
    exact br_t (nI_le (a := 2744) (b := 2744) (by decide) (by decide)) (h tr cn hP)
  | succ d ih =>
    intro x tr cn hx hP
    have h8 : x / 343 < 8 := by omega
    have hin : vp_in (nI (x / 343)) 8 := vp_in_nI h8 (by decide)
    refine br_f (nI_ge (a := x) (b := 2744) (by omega) (by decide)) ?_
    rw [nI_clamp (n := x) (by omega)]
    refine ⟨vp_in_nI (by omega) (by decide), br_c (fun z => nm_r (nI_1 x) (ih (x + 1) tr cn (by omega) (fun p hp => ?_))) (fun z => ?_)⟩
    · obtain ⟨k, e1, e2, e3, e4, e5⟩ := hP p hp
      refine ⟨k, e1, e2, by omega, fun j hj => ?_, fun t ht hlt hm => ?_⟩
      · obtain ⟨t, b1, b2, b3, b4⟩ := e4 j hj
        exact ⟨t, b1, by omega, b3, b4⟩
      · by_cases e : 343 * p + t = x
        · rw [e] at hm; exact absurd z hm
        · exact e5 t ht (by omega) hm
    · obtain ⟨k, e1, e2, e3, e4, e5⟩ := hP _ h8
      rw [af_r343 (by omega), af_d343 (by omega), nI_clamp (n := x / 343) (by omega), af_m343, e1, nI_add, nI_clamp (by omega)]
      refine ⟨by decide, by decide, hin, by decide, vp_in_nI (by omega) (by decide), nm_e ⟨by decide, hin, hin, nm_r (e' := upd cn (x / 343) (nI (k + 1))) (by rw [nI_1]) (nm_r (nI_1 x) (ih (x + 1) _ _ (by omega) (fun p hp => ?_)))⟩⟩
      by_cases e : p = x / 343
      · subst e
        refine ⟨k + 1, pk_us, by omega, by omega, fun j hj => ?_, fun t ht hlt hm => ?_⟩
        · by_cases ej : j = k
          · subst ej
            exact ⟨x % 343, by omega, by omega, pk_us, by rw [show 343 * (x / 343) + x % 343 = x from by omega]; exact z⟩
          · obtain ⟨t, b1, b2, b3, b4⟩ := e4 j (by omega)
            exact ⟨t, b1, by omega, (pk_un (by omega)).trans b3, b4⟩
        · by_cases et : 343 * (x / 343) + t = x
          · exact ⟨k, by omega, by rw [pk_us]; exact congrArg nI (by omega)⟩
          · obtain ⟨j, b1, b2⟩ := e5 t ht (by omega) hm
            exact ⟨j, by omega, (pk_un (by omega)).trans b2⟩
      · obtain ⟨k', f1, f2, f3, f4, f5⟩ := hP p hp
        refine ⟨k', (pk_un e).trans f1, f2, by omega, fun j hj => ?_, fun t ht hlt hm => ?_⟩
        · obtain ⟨t, b1, b2, b3, b4⟩ := f4 j hj
          exact ⟨t, b1, by omega, (pk_un (by omega)).trans b3, b4⟩
        · obtain ⟨j, b1, b2⟩ := f5 t ht (by omega) hm
          exact ⟨j, b1, (pk_un (by omega)).trans b2⟩
theorem ay_124 (h : ∀ tr' cn', (∀ p, p < 8 → ay_P mk 2744 tr' cn' p) → post (ns, kw, ls, en, kn, fm, mk, tr', cn', ho)) : ∀ (d x : Nat) (cn : Nat → Int32), x + d = 8 → (∀ p, p < x → cn p = 0) → wY_work_124 post ns kw ls (d + 1) (nI x) en kn fm mk tr cn ho := by
  intro d
  induction d with
  | zero =>
    intro x cn hx hz
    have e : x = 8 := by omega
    subst e
    refine br_t (nI_le (a := 8) (b := 8) (by decide) (by decide)) ⟨2745, ay_145 h 2744 0 tr cn (by decide) (fun p hp => ?_)⟩
    exact ⟨0, hz p hp, by omega, by omega, fun j hj => by omega, fun t ht hlt => by omega⟩
  | succ d ih =>
    intro x cn hx hz
    refine br_f (nI_ge (a := x) (b := 8) (by omega) (by decide)) ⟨vp_in_nI (by omega) (by decide), ?_⟩
    rw [nI_clamp (by omega)]
    refine nm_e (nm_r (nI_1 x) (ih (x + 1) _ (by omega) (fun s hs => ?_)))
    by_cases e : s = x
    · subst e; exact pk_us
    · rw [pk_un e]; exact hz s (by omega)
theorem ay_15 (hSt : af_St n E K F) (hS : ay_S n E K F ns en kn fm) (h : ∀ mk' tr' cn', ay_K (af_Rc n E K F) tr' cn' → post (ns, kw, ls, en, kn, fm, mk', tr', cn', ho)) : ∀ (d x : Nat) (mk : Nat → Int32), x + d = 2744 → (∀ s, s < x → (¬ mk s = 0 ↔ s = 0)) → wY_work_15 post ns kw ls (d + 1) (nI x) en kn fm mk tr cn ho := by
  intro d
  induction d with
  | zero =>
    intro x mk hx hz
    have e : x = 2744 := by omega
    subst e
    refine br_t (nI_le (a := 2744) (b := 2744) (by decide) (by decide)) ⟨2746, ay_45 hSt hS (fun mk' hR => ⟨9, ay_124 (fun tr' cn' hP => h mk' tr' cn' (fun p hp => ?_)) 8 0 cn (by decide) (fun p hp => by omega)⟩) 2746 1 mk (fun s hs hne => ?_) ((hz 0 (by decide)).mpr rfl) (Or.inr ⟨rfl, by omega⟩)⟩
    · obtain ⟨k, e1, e2, e3, e4, e5⟩ := hP p hp
      refine ⟨k, e1, e2, fun j hj => ?_, fun t ht hr => e5 t ht (by omega) ((hR _ (by omega)).mpr hr)⟩
      obtain ⟨t, b1, b2, b3, b4⟩ := e4 j hj
      exact ⟨t, b1, b3, (hR _ (by omega)).mp b4⟩
    · rw [(hz s hs).mp hne]; exact af_Rc_0
  | succ d ih =>
    intro x mk hx hz
    have hin : vp_in (nI x) 2744 := vp_in_nI (by omega) (by decide)
    refine br_f (nI_ge (a := x) (b := 2744) (by omega) (by decide)) ?_
    rw [nI_clamp (by omega), af_b0, af_b1]
    refine pk_eq x 0 (fun e => ⟨hin, nm_e (nm_r (nI_1 x) (ih (x + 1) _ (by omega) (fun s hs => ?_)))⟩) (fun e => ⟨hin, nm_e (nm_r (nI_1 x) (ih (x + 1) _ (by omega) (fun s hs => ?_)))⟩)
    · have es : s = x := by omega
      subst es
      rw [pk_us]
      exact ⟨fun _ => e, fun _ => af_10⟩
    · by_cases es : s = x
      · subst es
        rw [pk_us]
        exact ⟨fun k => absurd rfl k, fun k => absurd k e⟩
      · rw [pk_un es]; exact hz s (by omega)
/-- what Y's tables say -/
def ay_I (R : Nat → Prop) (kw : Int32) (tr cn : Nat → Int32) : Prop := kw = 0 ∨ (¬ kw = 0 ∧ ay_K R tr cn)
theorem ay_work (hSt : af_St n E K F) (hS : ay_S n E K F ns en kn fm) (hI : ay_I (af_Rc n E K F) kw tr cn) (h : ∀ kw' mk' tr' cn', ¬ kw' = 0 → ay_K (af_Rc n E K F) tr' cn' → post (ns, kw', ls, en, kn, fm, mk', tr', cn', ho)) : wpY_work post (ns, kw, ls, en, kn, fm, mk, tr, cn, ho) := by
  rcases hI with z | ⟨z, hK⟩
  · exact br_t z ⟨2745, ay_15 hSt hS (fun mk' tr' cn' hK => h 1 mk' tr' cn' af_10 hK) 2744 0 mk (by decide) (fun s hs => by omega)⟩
  · exact br_f z (h kw mk tr cn z hK)
end
end
section
theorem ay_pt0 {post : Int32 → Prop} {u : SY} {x : Int32} (h : x < 0 ∨ nI 8 ≤ x) (hp : post 0) : wpY_isPoint post u x := ax_is0 8 rfl h hp
theorem ay_pt1 {post : Int32 → Prop} {u : SY} {j : Nat} (h : j < 8) (hp : post 1) : wpY_isPoint post u (nI j) := ax_is1 8 rfl (by decide) h hp
theorem ay_dg0 {post : Int32 → Prop} {u : SY} {x : Int32} (h : x < 0 ∨ nI 2401 ≤ x) (hp : post 0) : wpY_areDigits post u x := ay_c0 2400 rfl (by decide) h hp hp
theorem ay_dg1 {post : Int32 → Prop} {u : SY} {j : Nat} (h : j < 2401) (hp : post 1) : wpY_areDigits post u (nI j) := ay_c1 2400 rfl (by decide) h hp
/-- the equations listed for p, those below x being done -/
def ay_L (R : Nat → Prop) (p x : Nat) (ls : Int32) (ho : Nat → Int32) : Prop := ls = nI (af_ct (af_Hd R p) x) ∧ (∀ j, j < af_ct (af_Hd R p) x → ∃ e, e < x ∧ ho j = nI e ∧ af_Hd R p e) ∧ (∀ e, e < x → af_Hd R p e → ∃ j, j < af_ct (af_Hd R p) x ∧ ho j = nI e)
section
variable {n : Nat} {E K F : Nat → Nat} {post : Int32 → SY → Prop} {ns kw ls : Int32} {en kn fm mk tr cn ho : Nat → Int32}
theorem ay_reached0 {x : Int32} (hSt : af_St n E K F) (hS : ay_S n E K F ns en kn fm) (hI : ay_I (af_Rc n E K F) kw tr cn) (hx : x < 0 ∨ nI 8 ≤ x) (h : ∀ kw' mk' tr' cn', ay_I (af_Rc n E K F) kw' tr' cn' → post 0 (ns, kw', ls, en, kn, fm, mk', tr', cn', ho)) : wpY_reached post (ns, kw, ls, en, kn, fm, mk, tr, cn, ho) x := by
  unfold wpY_reached
  dsimp only
  refine ay_work hSt hS hI (fun kw' mk' tr' cn' hk hK => ?_)
  exact ay_pt0 hx (af_i0 (h kw' mk' tr' cn' (Or.inr ⟨hk, hK⟩)))
theorem ay_reached1 {p : Nat} (hSt : af_St n E K F) (hS : ay_S n E K F ns en kn fm) (hI : ay_I (af_Rc n E K F) kw tr cn) (hp : p < 8) (h1 : (∃ t, t < 343 ∧ af_Rc n E K F (343 * p + t)) → ∀ kw' mk' tr' cn', ay_I (af_Rc n E K F) kw' tr' cn' → post 1 (ns, kw', ls, en, kn, fm, mk', tr', cn', ho)) (h0 : ¬ (∃ t, t < 343 ∧ af_Rc n E K F (343 * p + t)) → ∀ kw' mk' tr' cn', ay_I (af_Rc n E K F) kw' tr' cn' → post 0 (ns, kw', ls, en, kn, fm, mk', tr', cn', ho)) : wpY_reached post (ns, kw, ls, en, kn, fm, mk, tr, cn, ho) (nI p) := by
  unfold wpY_reached
  dsimp only
  refine ay_work hSt hS hI (fun kw' mk' tr' cn' hk hK => ?_)
  obtain ⟨k, e1, e2, e3, e4⟩ := hK p hp
  refine ay_pt1 hp (af_i1 ⟨vp_in_nI hp (by decide), ?_⟩)
  dsimp only
  rw [nI_clamp (by omega), e1]
  refine pk_le k 0 (fun z => h0 (fun q => ?_) _ _ _ _ (Or.inr ⟨hk, hK⟩)) (fun z => h1 ?_ _ _ _ _ (Or.inr ⟨hk, hK⟩))
  · obtain ⟨t, ht, hr⟩ := q
    obtain ⟨j, hj, _⟩ := e4 t ht hr
    omega
  · obtain ⟨t, ht, _, hr⟩ := e3 0 z
    exact ⟨t, ht, hr⟩
theorem ay_holds24 {R : Nat → Prop} {p e k : Nat} (hp : p < 8) (he : e < 2401) (e1 : cn p = nI k) (e2 : k ≤ 343) (e3 : ∀ j, j < k → ∃ t, t < 343 ∧ tr (343 * p + j) = nI t ∧ R (343 * p + t)) (e4 : ∀ t, t < 343 → R (343 * p + t) → ∃ j, j < k ∧ tr (343 * p + j) = nI t) (h1 : af_Hd R p e → post 1 (ns, kw, ls, en, kn, fm, mk, tr, cn, ho)) (h0 : ¬ af_Hd R p e → post 0 (ns, kw, ls, en, kn, fm, mk, tr, cn, ho)) : ∀ d j : Nat, j + d = k → (∀ i, i < j → ∀ t, t < 343 → tr (343 * p + i) = nI t → af_kp e t) → wY_holds_24 post (nI p) (nI e) ns kw ls en kn fm mk tr cn ho (d + 1) (nI j) := by
  have hin : vp_in (nI p) 8 := vp_in_nI hp (by decide)
  have hcl : (nI p).toNatClampNeg = p := nI_clamp (by omega)
  intro d
  induction d with
  | zero =>
    intro j hj hk
    have e : j = k := by omega
    subst e
    refine ⟨hin, ?_⟩
    rw [hcl, e1]
    refine br_t (nI_le (Nat.le_refl _) (by omega)) (h1 (fun t ht hr => ?_))
    obtain ⟨i, hi, ei⟩ := e4 t ht hr
    exact hk i hi t ht ei
  | succ d ih =>
    intro j hj hk
    obtain ⟨t, ht, et, hr⟩ := e3 j (by omega)
    refine ⟨hin, ?_⟩
    rw [hcl, e1, af_m343, nI_add, nI_clamp (by omega), et]
    refine br_f (nI_ge (by omega) (by omega)) ⟨vp_in_nI (by omega) (by decide), ay_keeps he ht (fun z => af_i1 (nm_r (nI_1 j) (ih (j + 1) (by omega) (fun i hi t' ht' ei => ?_)))) (fun z => af_i0 (h0 (fun q => z (q t ht hr))))⟩
    by_cases e : i = j
    · subst e
      rw [et, nI_eq (by omega) (by omega)] at ei
      rw [← ei]
      exact z
    · exact hk i (by omega) t' ht' ei
theorem ay_holds0 {x y : Int32} (h : x < 0 ∨ nI 8 ≤ x) (hh : post 0 (ns, kw, ls, en, kn, fm, mk, tr, cn, ho)) : wpY_holds post (ns, kw, ls, en, kn, fm, mk, tr, cn, ho) x y := by
  unfold wpY_holds
  dsimp only
  exact ay_pt0 h (af_i0 hh)
theorem ay_holds00 {p : Nat} {y : Int32} (hp : p < 8) (h : y < 0 ∨ nI 2401 ≤ y) (hh : post 0 (ns, kw, ls, en, kn, fm, mk, tr, cn, ho)) : wpY_holds post (ns, kw, ls, en, kn, fm, mk, tr, cn, ho) (nI p) y := by
  unfold wpY_holds
  dsimp only
  exact ay_pt1 hp (af_i1 (ay_dg0 h (af_i0 hh)))
theorem ay_holds1 {p e : Nat} (hSt : af_St n E K F) (hS : ay_S n E K F ns en kn fm) (hI : ay_I (af_Rc n E K F) kw tr cn) (hp : p < 8) (he : e < 2401) (h1 : af_Hd (af_Rc n E K F) p e → ∀ kw' mk' tr' cn', ay_I (af_Rc n E K F) kw' tr' cn' → post 1 (ns, kw', ls, en, kn, fm, mk', tr', cn', ho)) (h0 : ¬ af_Hd (af_Rc n E K F) p e → ∀ kw' mk' tr' cn', ay_I (af_Rc n E K F) kw' tr' cn' → post 0 (ns, kw', ls, en, kn, fm, mk', tr', cn', ho)) : wpY_holds post (ns, kw, ls, en, kn, fm, mk, tr, cn, ho) (nI p) (nI e) := by
  unfold wpY_holds
  dsimp only
  refine ay_pt1 hp (af_i1 (ay_dg1 he (af_i1 (ay_work hSt hS hI (fun kw' mk' tr' cn' hk hK => ?_)))))
  obtain ⟨k, e1, e2, e3, e4⟩ := hK p hp
  exact ⟨k + 1, ay_holds24 hp he e1 e2 e3 e4 (fun z => h1 z _ _ _ _ (Or.inr ⟨hk, hK⟩)) (fun z => h0 z _ _ _ _ (Or.inr ⟨hk, hK⟩)) k 0 (by omega) (fun i hi => by omega)⟩
end
section
variable {n : Nat} {E K F : Nat → Nat} {post : SY → Prop} {ns kw ls : Int32} {en kn fm mk tr cn ho : Nat → Int32}
theorem ay_list7 {p : Nat} (hSt : af_St n E K F) (hS : ay_S n E K F ns en kn fm) (hp : p < 8) (h : ∀ kw' ls' mk' tr' cn' ho', ay_I (af_Rc n E K F) kw' tr' cn' → ay_L (af_Rc n E K F) p 2401 ls' ho' → post (ns, kw', ls', en, kn, fm, mk', tr', cn', ho')) : ∀ (d x : Nat) (kw ls : Int32) (mk tr cn ho : Nat → Int32), x + d = 2401 → ay_I (af_Rc n E K F) kw tr cn → ay_L (af_Rc n E K F) p x ls ho → wY_list_7 post (nI p) (d + 1) (nI x) ns kw ls en kn fm mk tr cn ho := by
  intro d
  induction d with
  | zero =>
    intro x kw ls mk tr cn ho hx hI hL
    have e : x = 2401 := by omega
    subst e
    exact br_t (nI_le (a := 2401) (b := 2401) (by decide) (by decide)) (h _ _ _ _ _ _ hI hL)
  | succ d ih =>
    intro x kw ls mk tr cn ho hx hI hL
    obtain ⟨l1, l2, l3⟩ := hL
    have hle := af_ct_le (af_Hd (af_Rc n E K F) p) x
    refine br_f (nI_ge (a := x) (b := 2401) (by omega) (by decide)) (ay_holds1 hSt hS hI hp (by omega) (fun z kw' mk' tr' cn' hI' => af_i1 ?_) (fun z kw' mk' tr' cn' hI' => af_i0 ?_))
    · rw [l1, nI_clamp (by omega), nI_1]
      refine ⟨vp_in_nI (by omega) (by decide), nm_e (nm_e (nm_r (nI_1 x) (ih (x + 1) _ _ _ _ _ _ (by omega) hI' ?_)))⟩
      have ec := af_ct_t (P := af_Hd (af_Rc n E K F) p) z
      refine ⟨by rw [ec], fun j hj => ?_, fun e he hd => ?_⟩
      · rw [ec] at hj
        by_cases ej : j = af_ct (af_Hd (af_Rc n E K F) p) x
        · rw [ej]; exact ⟨x, by omega, pk_us, z⟩
        · obtain ⟨e, he, eh, hd⟩ := l2 j (by omega)
          exact ⟨e, by omega, (pk_un ej).trans eh, hd⟩
      · rw [ec]
        by_cases ee : e = x
        · subst ee; exact ⟨_, by omega, pk_us⟩
        · obtain ⟨j, hj, eh⟩ := l3 e (by omega) hd
          exact ⟨j, by omega, (pk_un (by omega)).trans eh⟩
    · refine nm_r (nI_1 x) (ih (x + 1) _ _ _ _ _ _ (by omega) hI' ?_)
      have ec := af_ct_f (P := af_Hd (af_Rc n E K F) p) z
      refine ⟨by rw [ec]; exact l1, fun j hj => ?_, fun e he hd => ?_⟩
      · rw [ec] at hj
        obtain ⟨e, he, eh, hd⟩ := l2 j hj
        exact ⟨e, by omega, eh, hd⟩
      · rw [ec]
        by_cases ee : e = x
        · subst ee; exact absurd hd z
        · exact l3 e (by omega) hd
theorem ay_list {p : Nat} (hSt : af_St n E K F) (hS : ay_S n E K F ns en kn fm) (hI : ay_I (af_Rc n E K F) kw tr cn) (hp : p < 8) (h : ∀ kw' ls' mk' tr' cn' ho', ay_I (af_Rc n E K F) kw' tr' cn' → ay_L (af_Rc n E K F) p 2401 ls' ho' → post (ns, kw', ls', en, kn, fm, mk', tr', cn', ho')) : wpY_list post (ns, kw, ls, en, kn, fm, mk, tr, cn, ho) (nI p) :=
  ⟨2402, ay_list7 hSt hS hp h 2401 0 kw 0 mk tr cn ho (by decide) hI ⟨rfl, fun j hj => by rw [af_ct_0] at hj; omega, fun e he => by omega⟩⟩
end
section
variable {R : Nat → Prop} {post : Int32 → Prop} {ns kw ls : Int32} {en kn fm mk tr cn ho : Nat → Int32}
theorem ay_keepsAll2 {p t : Nat} (ht : t < 343) (hL : ay_L R p 2401 ls ho) (h1 : af_In R p t → post 1) (h0 : ¬ af_In R p t → post 0) : ∀ d j : Nat, j + d = af_ct (af_Hd R p) 2401 → (∀ i, i < j → ∀ e, e < 2401 → ho i = nI e → af_kp e t) → wY_keepsAll_2 post (nI t) ns kw ls en kn fm mk tr cn ho (d + 1) (nI j) := by
  obtain ⟨l1, l2, l3⟩ := hL
  have hle := af_ct_le (af_Hd R p) 2401
  intro d
  induction d with
  | zero =>
    intro j hj hk
    have e : j = af_ct (af_Hd R p) 2401 := by omega
    rw [l1]
    refine br_t (nI_le (by omega) (by omega)) (h1 (fun e he hd => ?_))
    obtain ⟨i, hi, ei⟩ := l3 e he hd
    exact hk i (by omega) e he ei
  | succ d ih =>
    intro j hj hk
    obtain ⟨e, he, ee, hd⟩ := l2 j (by omega)
    refine br_f (by rw [l1]; exact nI_ge (by omega) (by omega)) ⟨vp_in_nI (by omega) (by decide), ?_⟩
    rw [nI_clamp (by omega), ee]
    refine ay_keeps he ht (fun z => af_i1 (nm_r (nI_1 j) (ih (j + 1) (by omega) (fun i hi e' he' ei => ?_)))) (fun z => af_i0 (h0 (fun q => z (q e he hd))))
    by_cases e2 : i = j
    · subst e2
      rw [ee, nI_eq (by omega) (by omega)] at ei
      rw [← ei]
      exact z
    · exact hk i (by omega) e' he' ei
theorem ay_keepsAll {p t : Nat} (ht : t < 343) (hL : ay_L R p 2401 ls ho) (h1 : af_In R p t → post 1) (h0 : ¬ af_In R p t → post 0) : wpY_keepsAll post (ns, kw, ls, en, kn, fm, mk, tr, cn, ho) (nI t) :=
  ⟨af_ct (af_Hd R p) 2401 + 1, ay_keepsAll2 ht hL h1 h0 _ 0 (by omega) (fun i hi => by omega)⟩
end
section
variable {n : Nat} {E K F : Nat → Nat} {R : Nat → Prop} {post : Int32 → SY → Prop} {ns kw ls : Int32} {en kn fm mk tr cn ho : Nat → Int32}
theorem ay_equations0 {x : Int32} (h : x < 0 ∨ nI 8 ≤ x) (hh : post (-1) (ns, kw, ls, en, kn, fm, mk, tr, cn, ho)) : wpY_equations post (ns, kw, ls, en, kn, fm, mk, tr, cn, ho) x := by
  unfold wpY_equations
  dsimp only
  exact ay_pt0 h (af_i0 hh)
theorem ay_equations1 {p : Nat} (hSt : af_St n E K F) (hS : ay_S n E K F ns en kn fm) (hI : ay_I (af_Rc n E K F) kw tr cn) (hp : p < 8) (h : ∀ kw' ls' mk' tr' cn' ho', ay_I (af_Rc n E K F) kw' tr' cn' → post (nI (af_ct (af_Hd (af_Rc n E K F) p) 2401)) (ns, kw', ls', en, kn, fm, mk', tr', cn', ho')) : wpY_equations post (ns, kw, ls, en, kn, fm, mk, tr, cn, ho) (nI p) := by
  unfold wpY_equations
  dsimp only
  refine ay_pt1 hp (af_i1 (ay_list hSt hS hI hp (fun kw' ls' mk' tr' cn' ho' hI' hL => ?_)))
  have q := h kw' ls' mk' tr' cn' ho' hI'
  rw [← hL.1] at q
  exact q
theorem ay_span19 {p : Nat} (hL : ay_L R p 2401 ls ho) (h : post (nI (af_ct (af_In R p) 343)) (ns, kw, ls, en, kn, fm, mk, tr, cn, ho)) : ∀ d j : Nat, j + d = 343 → wY_span_19 post ns kw ls en kn fm mk tr cn ho (d + 1) (nI (af_ct (af_In R p) j)) (nI j) := by
  intro d
  induction d with
  | zero =>
    intro j hj
    have e : j = 343 := by omega
    subst e
    exact br_t (nI_le (a := 343) (b := 343) (by decide) (by decide)) h
  | succ d ih =>
    intro j hj
    refine br_f (nI_ge (a := j) (b := 343) (by omega) (by decide)) (ay_keepsAll (by omega) hL (fun z => af_i1 ?_) (fun z => af_i0 ?_))
    · have q := ih (j + 1) (by omega)
      rw [af_ct_t z] at q
      exact nm_r (nI_1 _) (nm_r (nI_1 j) q)
    · have q := ih (j + 1) (by omega)
      rw [af_ct_f z] at q
      exact nm_r (nI_1 j) q
theorem ay_span0 {x : Int32} (h : x < 0 ∨ nI 8 ≤ x) (hh : post (-1) (ns, kw, ls, en, kn, fm, mk, tr, cn, ho)) : wpY_span post (ns, kw, ls, en, kn, fm, mk, tr, cn, ho) x := by
  unfold wpY_span
  dsimp only
  exact ay_pt0 h (af_i0 hh)
theorem ay_span1 {p : Nat} (hSt : af_St n E K F) (hS : ay_S n E K F ns en kn fm) (hI : ay_I (af_Rc n E K F) kw tr cn) (hp : p < 8) (h : ∀ kw' ls' mk' tr' cn' ho', ay_I (af_Rc n E K F) kw' tr' cn' → post (nI (af_ct (af_In (af_Rc n E K F) p) 343)) (ns, kw', ls', en, kn, fm, mk', tr', cn', ho')) : wpY_span post (ns, kw, ls, en, kn, fm, mk, tr, cn, ho) (nI p) := by
  unfold wpY_span
  dsimp only
  exact ay_pt1 hp (af_i1 (ay_list hSt hS hI hp (fun kw' ls' mk' tr' cn' ho' hI' hL => ⟨344, ay_span19 hL (h kw' ls' mk' tr' cn' ho' hI') 343 0 (by decide)⟩)))
theorem ay_inSpan0 {x y : Int32} (h : x < 0 ∨ nI 8 ≤ x) (hh : post 0 (ns, kw, ls, en, kn, fm, mk, tr, cn, ho)) : wpY_inSpan post (ns, kw, ls, en, kn, fm, mk, tr, cn, ho) x y := by
  unfold wpY_inSpan
  dsimp only
  exact ay_pt0 h (af_i0 hh)
theorem ay_inSpan00 {p : Nat} {y : Int32} (hp : p < 8) (h : y < 0 ∨ nI 343 ≤ y) (hh : post 0 (ns, kw, ls, en, kn, fm, mk, tr, cn, ho)) : wpY_inSpan post (ns, kw, ls, en, kn, fm, mk, tr, cn, ho) (nI p) y := by
  unfold wpY_inSpan
  dsimp only
  exact ay_pt1 hp (af_i1 (ay_b0 342 rfl (by decide) h hh hh))
theorem ay_inSpan1 {p t : Nat} (hSt : af_St n E K F) (hS : ay_S n E K F ns en kn fm) (hI : ay_I (af_Rc n E K F) kw tr cn) (hp : p < 8) (ht : t < 343) (h1 : af_In (af_Rc n E K F) p t → ∀ kw' ls' mk' tr' cn' ho', ay_I (af_Rc n E K F) kw' tr' cn' → post 1 (ns, kw', ls', en, kn, fm, mk', tr', cn', ho')) (h0 : ¬ af_In (af_Rc n E K F) p t → ∀ kw' ls' mk' tr' cn' ho', ay_I (af_Rc n E K F) kw' tr' cn' → post 0 (ns, kw', ls', en, kn, fm, mk', tr', cn', ho')) : wpY_inSpan post (ns, kw, ls, en, kn, fm, mk, tr, cn, ho) (nI p) (nI t) := by
  unfold wpY_inSpan
  dsimp only
  refine ay_pt1 hp (af_i1 (ay_b1 342 rfl (by decide) ht (ay_list hSt hS hI hp (fun kw' ls' mk' tr' cn' ho' hI' hL => ?_))))
  exact ay_keepsAll ht hL (fun z => ⟨af_n1, h1 z _ _ _ _ _ _ hI'⟩) (fun z => ⟨af_n0, h0 z _ _ _ _ _ _ hI'⟩)
theorem ay_con33 {p k : Nat} (hk : k < 3) (hL : ay_L R p 2401 ls ho) (h : ∀ r, af_Qc R p k r → post r (ns, kw, ls, en, kn, fm, mk, tr, cn, ho)) : ∀ (d j : Nat) (a : Int32), j + d = 343 → ((a = -4 ∧ ∀ t, t < j → ¬ af_In R p t) ∨ (∃ q, q < 7 ∧ a = nI q ∧ (∃ t, t < j ∧ af_In R p t ∧ af_vl t k = q) ∧ ∀ t, t < j → af_In R p t → af_vl t k = q)) → wY_constant_33 post (nI k) ns kw ls en kn fm mk tr cn ho (d + 1) a (nI j) := by
  intro d
  induction d with
  | zero =>
    intro j a hj ha
    have e : j = 343 := by omega
    subst e
    refine br_t (nI_le (a := 343) (b := 343) (by decide) (by decide)) (h a ?_)
    rcases ha with ⟨e, hn⟩ | ⟨q, _, e, ⟨t, ht, hi, _⟩, hv⟩
    · exact Or.inl ⟨e, hn⟩
    · exact Or.inr (Or.inr ⟨q, e, ⟨t, ht, hi⟩, hv⟩)
  | succ d ih =>
    intro j a hj ha
    have hj' : j < 343 := by omega
    have b := af_vl_lt j k
    refine br_f (nI_ge (a := j) (b := 343) (by omega) (by decide)) (ay_keepsAll hj' hL (fun z => af_i1 ?_) (fun z => af_i0 (nm_r (nI_1 j) (ih (j + 1) a (by omega) ?_))))
    · unfold wY_constant_68
      rcases ha with ⟨e, hn⟩ | ⟨q, hq, e, ⟨t, ht, hi, hvt⟩, hv⟩
      · subst e
        refine br_t (by decide) (ay_digit hj' hk (nm_r (nI_1 j) (ih (j + 1) _ (by omega) (Or.inr ⟨_, b, rfl, ⟨j, by omega, z, rfl⟩, fun t ht hi => ?_⟩))))
        by_cases et : t = j
        · rw [et]
        · exact absurd hi (hn t (by omega))
      · subst e
        refine br_f (nI_pos (by omega)) (ay_digit hj' hk (pk_eq (af_vl j k) q (fun ee => ay_digit hj' hk (nm_r (nI_1 j) (ih (j + 1) _ (by omega) (Or.inr ⟨_, b, rfl, ⟨j, by omega, z, rfl⟩, fun t ht hi => ?_⟩)))) (fun ee => h _ (Or.inr (Or.inl ⟨rfl, j, t, hj', by omega, z, hi, by omega⟩)))))
        by_cases et : t = j
        · rw [et]
        · rw [hv t (by omega) hi, ee]
    · rcases ha with ⟨e, hn⟩ | ⟨q, hq, e, ⟨t, ht, hi, hvt⟩, hv⟩
      · refine Or.inl ⟨e, fun t ht hi => ?_⟩
        by_cases et : t = j
        · rw [et] at hi; exact z hi
        · exact hn t (by omega) hi
      · refine Or.inr ⟨q, hq, e, ⟨t, by omega, hi, hvt⟩, fun t ht hi => ?_⟩
        by_cases et : t = j
        · rw [et] at hi; exact absurd hi z
        · exact hv t (by omega) hi
theorem ay_constant0 {x y : Int32} (h : x < 0 ∨ nI 8 ≤ x) (hh : post (-1) (ns, kw, ls, en, kn, fm, mk, tr, cn, ho)) : wpY_constant post (ns, kw, ls, en, kn, fm, mk, tr, cn, ho) x y := by
  unfold wpY_constant
  dsimp only
  exact ay_pt0 h (af_i0 hh)
theorem ay_constant00 {p : Nat} {y : Int32} (hp : p < 8) (h : y < 0 ∨ nI 3 ≤ y) (hh : post (-2) (ns, kw, ls, en, kn, fm, mk, tr, cn, ho)) : wpY_constant post (ns, kw, ls, en, kn, fm, mk, tr, cn, ho) (nI p) y := by
  unfold wpY_constant
  dsimp only
  exact ay_pt1 hp (af_i1 (ay_b0 2 rfl (by decide) h hh hh))
theorem ay_constant1 {p k : Nat} (hSt : af_St n E K F) (hS : ay_S n E K F ns en kn fm) (hI : ay_I (af_Rc n E K F) kw tr cn) (hp : p < 8) (hk : k < 3) (h : ∀ r, af_Qc (af_Rc n E K F) p k r → ∀ kw' ls' mk' tr' cn' ho', ay_I (af_Rc n E K F) kw' tr' cn' → post r (ns, kw', ls', en, kn, fm, mk', tr', cn', ho')) : wpY_constant post (ns, kw, ls, en, kn, fm, mk, tr, cn, ho) (nI p) (nI k) := by
  unfold wpY_constant
  dsimp only
  refine ay_pt1 hp (af_i1 (ay_b1 2 rfl (by decide) hk (ay_list hSt hS hI hp (fun kw' ls' mk' tr' cn' ho' hI' hL => ⟨344, ?_⟩))))
  exact ay_con33 hk hL (fun r hr => h r hr _ _ _ _ _ _ hI') 343 0 (-4) (by decide) (Or.inl ⟨rfl, fun t ht => by omega⟩)
theorem ay_imp25 {p q : Nat} (hSt : af_St n E K F) (hS : ay_S n E K F ns en kn fm) (hp : p < 8) (hL : ay_L (af_Rc n E K F) q 2401 ls ho) (h1 : (∀ e, e < 2401 → af_Hd (af_Rc n E K F) q e → af_Hd (af_Rc n E K F) p e) → ∀ kw' mk' tr' cn', ay_I (af_Rc n E K F) kw' tr' cn' → post 1 (ns, kw', ls, en, kn, fm, mk', tr', cn', ho)) (h0 : ¬ (∀ e, e < 2401 → af_Hd (af_Rc n E K F) q e → af_Hd (af_Rc n E K F) p e) → ∀ kw' mk' tr' cn', ay_I (af_Rc n E K F) kw' tr' cn' → post 0 (ns, kw', ls, en, kn, fm, mk', tr', cn', ho)) : ∀ (d j : Nat) (kw : Int32) (mk tr cn : Nat → Int32), j + d = af_ct (af_Hd (af_Rc n E K F) q) 2401 → ay_I (af_Rc n E K F) kw tr cn → (∀ i, i < j → ∀ e, e < 2401 → ho i = nI e → af_Hd (af_Rc n E K F) p e) → wY_implies_25 post (nI p) (d + 1) (nI j) ns kw ls en kn fm mk tr cn ho := by
  obtain ⟨l1, l2, l3⟩ := hL
  have hle := af_ct_le (af_Hd (af_Rc n E K F) q) 2401
  intro d
  induction d with
  | zero =>
    intro j kw mk tr cn hj hI hk
    refine br_t (by rw [l1]; exact nI_le (by omega) (by omega)) (h1 (fun e he hd => ?_) _ _ _ _ hI)
    obtain ⟨i, hi, ei⟩ := l3 e he hd
    exact hk i (by omega) e he ei
  | succ d ih =>
    intro j kw mk tr cn hj hI hk
    obtain ⟨e, he, ee, hd⟩ := l2 j (by omega)
    refine br_f (by rw [l1]; exact nI_ge (by omega) (by omega)) ⟨vp_in_nI (by omega) (by decide), ?_⟩
    rw [nI_clamp (by omega), ee]
    refine ay_holds1 hSt hS hI hp he (fun z kw' mk' tr' cn' hI' => af_i1 (nm_r (nI_1 j) (ih (j + 1) _ _ _ _ (by omega) hI' (fun i hi e' he' ei => ?_)))) (fun z kw' mk' tr' cn' hI' => af_i0 (h0 (fun w => z (w e he hd)) _ _ _ _ hI'))
    by_cases e2 : i = j
    · subst e2
      rw [ee, nI_eq (by omega) (by omega)] at ei
      rw [← ei]
      exact z
    · exact hk i (by omega) e' he' ei
theorem ay_implies0 {x y : Int32} (h : x < 0 ∨ nI 8 ≤ x) (hh : post 0 (ns, kw, ls, en, kn, fm, mk, tr, cn, ho)) : wpY_implies post (ns, kw, ls, en, kn, fm, mk, tr, cn, ho) x y := by
  unfold wpY_implies
  dsimp only
  exact ay_pt0 h (af_i0 hh)
theorem ay_implies00 {p : Nat} {y : Int32} (hp : p < 8) (h : y < 0 ∨ nI 8 ≤ y) (hh : post 0 (ns, kw, ls, en, kn, fm, mk, tr, cn, ho)) : wpY_implies post (ns, kw, ls, en, kn, fm, mk, tr, cn, ho) (nI p) y := by
  unfold wpY_implies
  dsimp only
  exact ay_pt1 hp (af_i1 (ay_pt0 h (af_i0 hh)))
theorem ay_implies1 {p q : Nat} (hSt : af_St n E K F) (hS : ay_S n E K F ns en kn fm) (hI : ay_I (af_Rc n E K F) kw tr cn) (hp : p < 8) (hq : q < 8) (h1 : (∀ e, e < 2401 → af_Hd (af_Rc n E K F) q e → af_Hd (af_Rc n E K F) p e) → ∀ kw' ls' mk' tr' cn' ho', ay_I (af_Rc n E K F) kw' tr' cn' → post 1 (ns, kw', ls', en, kn, fm, mk', tr', cn', ho')) (h0 : ¬ (∀ e, e < 2401 → af_Hd (af_Rc n E K F) q e → af_Hd (af_Rc n E K F) p e) → ∀ kw' ls' mk' tr' cn' ho', ay_I (af_Rc n E K F) kw' tr' cn' → post 0 (ns, kw', ls', en, kn, fm, mk', tr', cn', ho')) : wpY_implies post (ns, kw, ls, en, kn, fm, mk, tr, cn, ho) (nI p) (nI q) := by
  unfold wpY_implies
  dsimp only
  refine ay_pt1 hp (af_i1 (ay_pt1 hq (af_i1 (ay_list hSt hS hI hq (fun kw' ls' mk' tr' cn' ho' hI' hL => ⟨af_ct (af_Hd (af_Rc n E K F) q) 2401 + 1, ?_⟩)))))
  exact ay_imp25 hSt hS hp hL (fun z kw2 mk2 tr2 cn2 hI2 => h1 z _ _ _ _ _ _ hI2) (fun z kw2 mk2 tr2 cn2 hI2 => h0 z _ _ _ _ _ _ hI2) _ 0 kw' mk' tr' cn' (Nat.zero_add _) hI' (fun i hi => by omega)
theorem ay_loo6 (hSt : af_St n E K F) (hS : ay_S n E K F ns en kn fm) (h : ∀ g k, af_V (fun j => af_ct (af_In (af_Rc n E K F) j) 343) 8 g k → ∀ kw' ls' mk' tr' cn' ho', ay_I (af_Rc n E K F) kw' tr' cn' → post (nI k) (ns, kw', ls', en, kn, fm, mk', tr', cn', ho')) : ∀ (d j k : Nat) (a kw ls : Int32) (mk tr cn ho : Nat → Int32), j + d = 8 → ay_I (af_Rc n E K F) kw tr cn → ((j = 0 ∧ a = -1 ∧ k = 0) ∨ (0 < j ∧ ∃ g, g ≤ 343 ∧ a = nI g ∧ af_V (fun j => af_ct (af_In (af_Rc n E K F) j) 343) j g k)) → wY_loosest_6 post (d + 1) a (nI k) (nI j) ns kw ls en kn fm mk tr cn ho := by
  intro d
  induction d with
  | zero =>
    intro j k a kw ls mk tr cn ho hj hI hV
    have e : j = 8 := by omega
    subst e
    rcases hV with ⟨z, _⟩ | ⟨_, g, _, _, hV⟩
    · omega
    · exact br_t (nI_le (a := 8) (b := 8) (by decide) (by decide)) (h g k hV _ _ _ _ _ _ hI)
  | succ d ih =>
    intro j k a kw ls mk tr cn ho hj hI hV
    have hj8 : j < 8 := by omega
    have hle := af_ct_le (af_In (af_Rc n E K F) j) 343
    refine br_f (nI_ge (a := j) (b := 8) (by omega) (by decide)) (ay_span1 hSt hS hI hj8 (fun kw' ls' mk' tr' cn' ho' hI' => ?_))
    unfold wY_loosest_27 wY_loosest_36
    have up : ∀ g k', g ≤ 343 → af_V (fun j => af_ct (af_In (af_Rc n E K F) j) 343) (j + 1) g k' → wY_loosest_6 post (d + 1) (nI g) (nI k') (nI (j + 1)) ns kw' ls' en kn fm mk' tr' cn' ho' := fun g k' hg hV' => ih (j + 1) k' _ _ _ _ _ _ _ (by omega) hI' (Or.inr ⟨by omega, g, hg, rfl, hV'⟩)
    rcases hV with ⟨ej, ea, ek⟩ | ⟨hj0, g, hg, ea, hV⟩
    · subst ej ea ek
      have hn : ¬ nI (af_ct (af_In (af_Rc n E K F) 0) 343) ≤ -1 := by
        rw [Int32.le_iff_toInt_le, nI_toInt (by omega), show (-1 : Int32).toInt = -1 from by decide]
        omega
      have q := up _ 1 hle ⟨fun i hi => by rw [show i = 0 from by omega]; exact Nat.le_refl _, fun _ => ⟨0, by omega, rfl⟩, by rw [af_ct_t (P := fun i => af_ct (af_In (af_Rc n E K F) i) 343 = af_ct (af_In (af_Rc n E K F) 0) 343) (n := 0) rfl]; rfl⟩
      exact br_f hn (br_f hn (br_t rfl (nm_r (nI_1 0) (nm_r (nI_1 0) q))))
    · subst ea
      refine pk_le (af_ct (af_In (af_Rc n E K F) j) 343) g (fun z => br_t (nI_le z (by omega)) ?_) (fun z => br_f (nI_ge z (by omega)) (br_t rfl ?_))
      · refine pk_eq (af_ct (af_In (af_Rc n E K F) j) 343) g (fun e => ?_) (fun e => ?_)
        · exact nm_r (nI_1 k) (nm_r (nI_1 j) (up g (k + 1) hg (af_V_eq hV e)))
        · exact nm_r (nI_1 j) (up g k hg (af_V_lt hV (show af_ct (af_In (af_Rc n E K F) j) 343 < g by omega) hj0))
      · exact nm_r (nI_1 0) (nm_r (nI_1 j) (up _ 1 hle (af_V_gt hV z)))
theorem ay_loosest (hSt : af_St n E K F) (hS : ay_S n E K F ns en kn fm) (hI : ay_I (af_Rc n E K F) kw tr cn) (h : ∀ g k, af_V (fun j => af_ct (af_In (af_Rc n E K F) j) 343) 8 g k → ∀ kw' ls' mk' tr' cn' ho', ay_I (af_Rc n E K F) kw' tr' cn' → post (nI k) (ns, kw', ls', en, kn, fm, mk', tr', cn', ho')) : wpY_loosest post (ns, kw, ls, en, kn, fm, mk, tr, cn, ho) :=
  ⟨9, ay_loo6 hSt hS h 8 0 0 (-1) kw ls mk tr cn ho (by decide) hI (Or.inl ⟨rfl, rfl, rfl⟩)⟩
end
end
section
/-- a table with one entry more -/
def af_ap (n e : Nat) (E : Nat → Nat) : Nat → Nat := fun i => if i = n then e else E i
theorem af_ap_s {n e : Nat} {E : Nat → Nat} : af_ap n e E n = e := if_pos rfl
theorem af_ap_n {n e i : Nat} {E : Nat → Nat} (h : i ≠ n) : af_ap n e E i = E i := if_neg h
theorem af_St_ap {n e k g : Nat} {E K F : Nat → Nat} (h : af_St n E K F) (hn : n < 12) (he : e < 64) (hk : k < 7) (hg : g < 2401) : af_St (n + 1) (af_ap n e E) (af_ap n k K) (af_ap n g F) := by
  refine ⟨hn, fun i hi => ?_⟩
  by_cases e : i = n
  · subst e
    rw [af_ap_s, af_ap_s, af_ap_s]
    exact ⟨he, hk, hg⟩
  · rw [af_ap_n e, af_ap_n e, af_ap_n e]
    exact h.2 i (by omega)
theorem af_St_dn {n : Nat} {E K F : Nat → Nat} (h : af_St (n + 1) E K F) : af_St n E K F := ⟨by have := h.1; omega, fun i hi => h.2 i (by omega)⟩
theorem af_St_0 {E K F : Nat → Nat} : af_St 0 E K F := ⟨by decide, fun i hi => by omega⟩
section
variable {n : Nat} {E K F : Nat → Nat} {c f : Int32} {sk se sv sd sr fo si sz og : Nat → Int32}
theorem ax_S_ap {e k g : Nat} (h : ax_S n E K F c sk se sv sd) : ax_S (n + 1) (af_ap n e E) (af_ap n k K) (af_ap n g F) (nI (n + 1)) (upd sk n (nI (af_kd k))) (upd se n (nI e)) (upd sv n (nI (k % 3))) (upd sd n (nI g)) := by
  refine ⟨rfl, fun i hi => ?_⟩
  by_cases e : i = n
  · subst e
    rw [af_ap_s, af_ap_s, af_ap_s]
    exact ⟨pk_us, pk_us, pk_us, pk_us⟩
  · rw [af_ap_n e, af_ap_n e, af_ap_n e, pk_un e, pk_un e, pk_un e, pk_un e]
    exact h.2 i (by omega)
theorem ax_S_dn {n : Nat} (h : ax_S (n + 1) E K F c sk se sv sd) : ax_S n E K F (nI n) sk se sv sd := ⟨rfl, fun i hi => h.2 i (by omega)⟩
theorem ax_S_0 : ax_S 0 E K F 0 sk se sv sd := ⟨rfl, fun i hi => by omega⟩
theorem ax_add {post : Int32 → SX → Prop} {e k g : Nat} {P0 P2 : Int32} (hSt : af_St n E K F) (hS : ax_S n E K F c sk se sv sd) (he : e < 64) (hk : k < 7) (hg : g < 2401) (h0 : P0 = nI (af_kd k)) (h2 : P2 = nI (k % 3)) (hfull : n = 12 → post (-3) (c, f, sk, se, sv, sd, sr, fo, si, sz, og)) (h : n < 12 → ∀ f' sr' fo' si' sz' og', ax_I (af_Rc (n + 1) (af_ap n e E) (af_ap n k K) (af_ap n g F)) sr' si' sz' og' → post (nI n) (nI (n + 1), f', upd sk n (nI (af_kd k)), upd se n (nI e), upd sv n (nI (k % 3)), upd sd n (nI g), sr', fo', si', sz', og')) : wpX_addStep post (c, f, sk, se, sv, sd, sr, fo, si, sz, og) P0 (nI e) P2 (nI g) := by
  have hn : n ≤ 12 := hSt.1
  have ec := hS.1
  subst ec h0 h2
  unfold wpX_addStep
  dsimp only
  rw [nI_clamp (by omega), nI_1]
  refine pk_lt n 12 (fun z => ?_) (fun z => hfull (by omega))
  have hin : vp_in (nI n) 12 := vp_in_nI z (by decide)
  refine ⟨hin, nm_e ⟨hin, nm_e ⟨hin, nm_e ⟨hin, nm_e (nm_e ?_)⟩⟩⟩⟩
  exact ax_follow (af_St_ap hSt z he hk hg) (ax_S_ap hS) (fun f' sr' fo' si' sz' og' hI => h z f' sr' fo' si' sz' og' hI)
theorem ax_assign0 {post : Int32 → SX → Prop} {x y z : Int32} (h : x < 0 ∨ nI 64 ≤ x) (hp : post (-1) (c, f, sk, se, sv, sd, sr, fo, si, sz, og)) : wpX_assign post (c, f, sk, se, sv, sd, sr, fo, si, sz, og) x y z := by
  unfold wpX_assign
  dsimp only
  exact ax_en0 h (af_i0 hp)
theorem ax_assign00 {post : Int32 → SX → Prop} {e : Nat} {y z : Int32} (he : e < 64) (h : y < 0 ∨ nI 3 ≤ y) (hp : post (-2) (c, f, sk, se, sv, sd, sr, fo, si, sz, og)) : wpX_assign post (c, f, sk, se, sv, sd, sr, fo, si, sz, og) (nI e) y z := by
  unfold wpX_assign
  dsimp only
  exact ax_en1 he (af_i1 (ax_va0 h (af_i0 hp)))
theorem ax_assign000 {post : Int32 → SX → Prop} {e k : Nat} {z : Int32} (he : e < 64) (hk : k < 3) (h : z < 0 ∨ nI 2401 ≤ z) (hp : post (-2) (c, f, sk, se, sv, sd, sr, fo, si, sz, og)) : wpX_assign post (c, f, sk, se, sv, sd, sr, fo, si, sz, og) (nI e) (nI k) z := by
  unfold wpX_assign
  dsimp only
  exact ax_en1 he (af_i1 (ax_va1 hk (af_i1 (ax_dg0 h (af_i0 hp)))))
theorem ax_assign1 {post : Int32 → SX → Prop} {e k g : Nat} (hSt : af_St n E K F) (hS : ax_S n E K F c sk se sv sd) (he : e < 64) (hk : k < 3) (hg : g < 2401) (hfull : n = 12 → post (-3) (c, f, sk, se, sv, sd, sr, fo, si, sz, og)) (h : n < 12 → ∀ f' sr' fo' si' sz' og', ax_I (af_Rc (n + 1) (af_ap n e E) (af_ap n k K) (af_ap n g F)) sr' si' sz' og' → post (nI n) (nI (n + 1), f', upd sk n (nI (af_kd k)), upd se n (nI e), upd sv n (nI (k % 3)), upd sd n (nI g), sr', fo', si', sz', og')) : wpX_assign post (c, f, sk, se, sv, sd, sr, fo, si, sz, og) (nI e) (nI k) (nI g) := by
  unfold wpX_assign
  dsimp only
  refine ax_en1 he (af_i1 (ax_va1 hk (af_i1 (ax_dg1 hg (af_i1 ?_)))))
  exact ax_add (k := k) hSt hS he (by omega) hg (by unfold af_kd; rw [if_pos hk]; rfl) (by rw [Nat.mod_eq_of_lt hk]) hfull h
theorem ax_forget0 {post : Int32 → SX → Prop} {x y : Int32} (h : x < 0 ∨ nI 64 ≤ x) (hp : post (-1) (c, f, sk, se, sv, sd, sr, fo, si, sz, og)) : wpX_forget post (c, f, sk, se, sv, sd, sr, fo, si, sz, og) x y := by
  unfold wpX_forget
  dsimp only
  exact ax_en0 h (af_i0 hp)
theorem ax_forget00 {post : Int32 → SX → Prop} {e : Nat} {y : Int32} (he : e < 64) (h : y < 0 ∨ nI 3 ≤ y) (hp : post (-2) (c, f, sk, se, sv, sd, sr, fo, si, sz, og)) : wpX_forget post (c, f, sk, se, sv, sd, sr, fo, si, sz, og) (nI e) y := by
  unfold wpX_forget
  dsimp only
  exact ax_en1 he (af_i1 (ax_va0 h (af_i0 hp)))
theorem ax_forget1 {post : Int32 → SX → Prop} {e k : Nat} (hSt : af_St n E K F) (hS : ax_S n E K F c sk se sv sd) (he : e < 64) (hk : k < 3) (hfull : n = 12 → post (-3) (c, f, sk, se, sv, sd, sr, fo, si, sz, og)) (h : n < 12 → ∀ f' sr' fo' si' sz' og', ax_I (af_Rc (n + 1) (af_ap n e E) (af_ap n (3 + k) K) (af_ap n 0 F)) sr' si' sz' og' → post (nI n) (nI (n + 1), f', upd sk n (nI (af_kd (3 + k))), upd se n (nI e), upd sv n (nI ((3 + k) % 3)), upd sd n (nI 0), sr', fo', si', sz', og')) : wpX_forget post (c, f, sk, se, sv, sd, sr, fo, si, sz, og) (nI e) (nI k) := by
  unfold wpX_forget
  dsimp only
  refine ax_en1 he (af_i1 (ax_va1 hk (af_i1 ?_)))
  exact ax_add (k := 3 + k) (g := 0) hSt hS he (by omega) (by decide) (by unfold af_kd; rw [if_neg (by omega), if_pos (by omega)]; rfl) (congrArg nI (by omega)) hfull h
theorem ax_pass0 {post : Int32 → SX → Prop} {x : Int32} (h : x < 0 ∨ nI 64 ≤ x) (hp : post (-1) (c, f, sk, se, sv, sd, sr, fo, si, sz, og)) : wpX_pass post (c, f, sk, se, sv, sd, sr, fo, si, sz, og) x := by
  unfold wpX_pass
  dsimp only
  exact ax_en0 h (af_i0 hp)
theorem ax_pass1 {post : Int32 → SX → Prop} {e : Nat} (hSt : af_St n E K F) (hS : ax_S n E K F c sk se sv sd) (he : e < 64) (hfull : n = 12 → post (-3) (c, f, sk, se, sv, sd, sr, fo, si, sz, og)) (h : n < 12 → ∀ f' sr' fo' si' sz' og', ax_I (af_Rc (n + 1) (af_ap n e E) (af_ap n 6 K) (af_ap n 0 F)) sr' si' sz' og' → post (nI n) (nI (n + 1), f', upd sk n (nI (af_kd 6)), upd se n (nI e), upd sv n (nI (6 % 3)), upd sd n (nI 0), sr', fo', si', sz', og')) : wpX_pass post (c, f, sk, se, sv, sd, sr, fo, si, sz, og) (nI e) := by
  unfold wpX_pass
  dsimp only
  refine ax_en1 he (af_i1 ?_)
  exact ax_add (k := 6) (g := 0) hSt hS he (by decide) (by decide) rfl rfl hfull h
end
section
variable {n : Nat} {E K F : Nat → Nat} {post : Int32 → SY → Prop} {ns kw ls : Int32} {en kn fm mk tr cn ho : Nat → Int32}
theorem ay_S_ap {e k g : Nat} (h : ay_S n E K F ns en kn fm) : ay_S (n + 1) (af_ap n e E) (af_ap n k K) (af_ap n g F) (nI (n + 1)) (upd en n (nI e)) (upd kn n (nI k)) (upd fm n (nI g)) := by
  refine ⟨rfl, fun i hi => ?_⟩
  by_cases e : i = n
  · subst e
    rw [af_ap_s, af_ap_s, af_ap_s]
    exact ⟨pk_us, pk_us, pk_us⟩
  · rw [af_ap_n e, af_ap_n e, af_ap_n e, pk_un e, pk_un e, pk_un e]
    exact h.2 i (by omega)
theorem ay_S_dn {n : Nat} (h : ay_S (n + 1) E K F ns en kn fm) : ay_S n E K F (nI n) en kn fm := ⟨rfl, fun i hi => h.2 i (by omega)⟩
theorem ay_S_0 : ay_S 0 E K F 0 en kn fm := ⟨rfl, fun i hi => by omega⟩
theorem ay_add {e k g : Nat} {P1 : Int32} (hSt : af_St n E K F) (hS : ay_S n E K F ns en kn fm) (h1 : P1 = nI k) (hfull : n = 12 → post (-3) (ns, kw, ls, en, kn, fm, mk, tr, cn, ho)) (h : n < 12 → post (nI n) (nI (n + 1), 0, ls, upd en n (nI e), upd kn n (nI k), upd fm n (nI g), mk, tr, cn, ho)) : wpY_add post (ns, kw, ls, en, kn, fm, mk, tr, cn, ho) (nI e) P1 (nI g) := by
  have hn : n ≤ 12 := hSt.1
  have ec := hS.1
  subst ec h1
  unfold wpY_add
  dsimp only
  rw [nI_clamp (by omega), nI_1]
  refine pk_eq n 12 (fun z => hfull z) (fun z => ?_)
  have hin : vp_in (nI n) 12 := vp_in_nI (by omega) (by decide)
  refine ⟨hin, nm_e ⟨hin, nm_e ⟨hin, nm_e (nm_e ?_)⟩⟩⟩
  rw [nI_pred]
  exact h (by omega)
theorem ay_assign0 {x y z : Int32} (h : x < 0 ∨ nI 64 ≤ x) (hp : post (-1) (ns, kw, ls, en, kn, fm, mk, tr, cn, ho)) : wpY_assign post (ns, kw, ls, en, kn, fm, mk, tr, cn, ho) x y z := ay_b0 63 rfl (by decide) h hp hp
theorem ay_assign00 {e : Nat} {y z : Int32} (he : e < 64) (h : y < 0 ∨ nI 3 ≤ y) (hp : post (-2) (ns, kw, ls, en, kn, fm, mk, tr, cn, ho)) : wpY_assign post (ns, kw, ls, en, kn, fm, mk, tr, cn, ho) (nI e) y z := ay_b1 63 rfl (by decide) he (ay_c0 2 rfl (by decide) h hp hp)
theorem ay_assign000 {e k : Nat} {z : Int32} (he : e < 64) (hk : k < 3) (h : z < 0 ∨ nI 2401 ≤ z) (hp : post (-2) (ns, kw, ls, en, kn, fm, mk, tr, cn, ho)) : wpY_assign post (ns, kw, ls, en, kn, fm, mk, tr, cn, ho) (nI e) (nI k) z := ay_b1 63 rfl (by decide) he (ay_c1 2 rfl (by decide) hk (ay_dg0 h (af_i0 hp)))
theorem ay_assign1 {e k g : Nat} (hSt : af_St n E K F) (hS : ay_S n E K F ns en kn fm) (he : e < 64) (hk : k < 3) (hg : g < 2401) (hfull : n = 12 → post (-3) (ns, kw, ls, en, kn, fm, mk, tr, cn, ho)) (h : n < 12 → post (nI n) (nI (n + 1), 0, ls, upd en n (nI e), upd kn n (nI k), upd fm n (nI g), mk, tr, cn, ho)) : wpY_assign post (ns, kw, ls, en, kn, fm, mk, tr, cn, ho) (nI e) (nI k) (nI g) := ay_b1 63 rfl (by decide) he (ay_c1 2 rfl (by decide) hk (ay_dg1 hg (af_i1 (ay_add hSt hS rfl hfull h))))
theorem ay_forget0 {x y : Int32} (h : x < 0 ∨ nI 64 ≤ x) (hp : post (-1) (ns, kw, ls, en, kn, fm, mk, tr, cn, ho)) : wpY_forget post (ns, kw, ls, en, kn, fm, mk, tr, cn, ho) x y := ay_b0 63 rfl (by decide) h hp hp
theorem ay_forget00 {e : Nat} {y : Int32} (he : e < 64) (h : y < 0 ∨ nI 3 ≤ y) (hp : post (-2) (ns, kw, ls, en, kn, fm, mk, tr, cn, ho)) : wpY_forget post (ns, kw, ls, en, kn, fm, mk, tr, cn, ho) (nI e) y := ay_b1 63 rfl (by decide) he (ay_b0 2 rfl (by decide) h hp hp)
theorem ay_forget1 {e k : Nat} (hSt : af_St n E K F) (hS : ay_S n E K F ns en kn fm) (he : e < 64) (hk : k < 3) (hfull : n = 12 → post (-3) (ns, kw, ls, en, kn, fm, mk, tr, cn, ho)) (h : n < 12 → post (nI n) (nI (n + 1), 0, ls, upd en n (nI e), upd kn n (nI (3 + k)), upd fm n (nI 0), mk, tr, cn, ho)) : wpY_forget post (ns, kw, ls, en, kn, fm, mk, tr, cn, ho) (nI e) (nI k) := ay_b1 63 rfl (by decide) he (ay_b1 2 rfl (by decide) hk (ay_add (k := 3 + k) (g := 0) hSt hS (nI_add 3 k) hfull h))
theorem ay_pass0 {x : Int32} (h : x < 0 ∨ nI 64 ≤ x) (hp : post (-1) (ns, kw, ls, en, kn, fm, mk, tr, cn, ho)) : wpY_pass post (ns, kw, ls, en, kn, fm, mk, tr, cn, ho) x := ay_b0 63 rfl (by decide) h hp hp
theorem ay_pass1 {e : Nat} (hSt : af_St n E K F) (hS : ay_S n E K F ns en kn fm) (he : e < 64) (hfull : n = 12 → post (-3) (ns, kw, ls, en, kn, fm, mk, tr, cn, ho)) (h : n < 12 → post (nI n) (nI (n + 1), 0, ls, upd en n (nI e), upd kn n (nI 6), upd fm n (nI 0), mk, tr, cn, ho)) : wpY_pass post (ns, kw, ls, en, kn, fm, mk, tr, cn, ho) (nI e) := ay_b1 63 rfl (by decide) he (ay_add (k := 6) (g := 0) hSt hS rfl hfull h)
end
end
section
/-- both sides keep the same steps; X's tables tell what these reach and span; Y's lists, when known, what they reach -/
def i_Rel (_ : Nat) (u : SX) (v : SY) : Prop := ∃ (n : Nat) (E K F : Nat → Nat) (c f : Int32) (sk se sv sd sr fo si sz og : Nat → Int32) (ns kw ls : Int32) (en kn fm mk tr cn ho : Nat → Int32), u = (c, f, sk, se, sv, sd, sr, fo, si, sz, og) ∧ v = (ns, kw, ls, en, kn, fm, mk, tr, cn, ho) ∧ af_St n E K F ∧ ax_S n E K F c sk se sv sd ∧ ax_I (af_Rc n E K F) sr si sz og ∧ ay_S n E K F ns en kn fm ∧ ay_I (af_Rc n E K F) kw tr cn
theorem af_rel {n k : Nat} {E K F : Nat → Nat} {c f : Int32} {sk se sv sd sr fo si sz og : Nat → Int32} {ns kw ls : Int32} {en kn fm mk tr cn ho : Nat → Int32} (h1 : af_St n E K F) (h2 : ax_S n E K F c sk se sv sd) (h3 : ax_I (af_Rc n E K F) sr si sz og) (h4 : ay_S n E K F ns en kn fm) (h5 : ay_I (af_Rc n E K F) kw tr cn) : i_Rel k (c, f, sk, se, sv, sd, sr, fo, si, sz, og) (ns, kw, ls, en, kn, fm, mk, tr, cn, ho) :=
  ⟨n, E, K, F, c, f, sk, se, sv, sd, sr, fo, si, sz, og, ns, kw, ls, en, kn, fm, mk, tr, cn, ho, rfl, rfl, h1, h2, h3, h4, h5⟩
theorem i_up {k : Nat} {u : SX} {v : SY} (h : i_Rel k u v) : i_Rel (k + 4) u v := h
theorem i_vc0 : wpX_init (fun u => wpY_init (fun v => i_Rel 0 u v)) := by
  unfold wpX_init
  refine ax_follow (n := 0) (E := fun _ => 0) (K := fun _ => 0) (F := fun _ => 0) af_St_0 ax_S_0 (fun f' sr' fo' si' sz' og' hI => ?_)
  exact af_rel (k := 0) (n := 0) (E := fun _ => 0) (K := fun _ => 0) (F := fun _ => 0) af_St_0 ax_S_0 hI ay_S_0 (Or.inl rfl)
theorem i_vc_assign {k : Nat} {u : SX} {v : SY} (I : i_Rel k u v) (hk : k + 4 ≤ 2048) (v1 : Int32) (v2 : Int32) (v3 : Int32) : wpX_assign (fun r u' => wpY_assign (fun r' v' => r' = r ∧ i_Rel (k + 4) u' v') v v1 v2 v3) u v1 v2 v3 := by
  obtain ⟨n, E, K, F, c, f, sk, se, sv, sd, sr, fo, si, sz, og, ns, kw, ls, en, kn, fm, mk, tr, cn, ho, rfl, rfl, h1, h2, h3, h4, h5⟩ := I
  have J : i_Rel (k + 4) (c, f, sk, se, sv, sd, sr, fo, si, sz, og) (ns, kw, ls, en, kn, fm, mk, tr, cn, ho) := af_rel h1 h2 h3 h4 h5
  have z1 : (v1 < 0 ∨ nI 64 ≤ v1) ∨ ∃ e, e < 64 ∧ v1 = nI e := or_assoc.mpr (pk_ix v1 (by decide))
  have z2 : (v2 < 0 ∨ nI 3 ≤ v2) ∨ ∃ e, e < 3 ∧ v2 = nI e := or_assoc.mpr (pk_ix v2 (by decide))
  have z3 : (v3 < 0 ∨ nI 2401 ≤ v3) ∨ ∃ e, e < 2401 ∧ v3 = nI e := or_assoc.mpr (pk_ix v3 (by decide))
  rcases z1 with z1 | ⟨e, he, rfl⟩
  · exact ax_assign0 z1 (ay_assign0 z1 ⟨rfl, J⟩)
  rcases z2 with z2 | ⟨q, hq, rfl⟩
  · exact ax_assign00 he z2 (ay_assign00 he z2 ⟨rfl, J⟩)
  rcases z3 with z3 | ⟨g, hg, rfl⟩
  · exact ax_assign000 he hq z3 (ay_assign000 he hq z3 ⟨rfl, J⟩)
  refine ax_assign1 h1 h2 he hq hg (fun e12 => ?_) (fun l12 f' sr' fo' si' sz' og' hI => ?_)
  · exact ay_assign1 h1 h4 he hq hg (fun _ => ⟨rfl, J⟩) (fun z => by omega)
  · exact ay_assign1 h1 h4 he hq hg (fun z => by omega) (fun _ => ⟨rfl, af_rel (af_St_ap h1 l12 he (by omega) hg) (ax_S_ap h2) hI (ay_S_ap h4) (Or.inl rfl)⟩)
theorem i_vc_forget {k : Nat} {u : SX} {v : SY} (I : i_Rel k u v) (hk : k + 4 ≤ 2048) (v1 : Int32) (v2 : Int32) : wpX_forget (fun r u' => wpY_forget (fun r' v' => r' = r ∧ i_Rel (k + 4) u' v') v v1 v2) u v1 v2 := by
  obtain ⟨n, E, K, F, c, f, sk, se, sv, sd, sr, fo, si, sz, og, ns, kw, ls, en, kn, fm, mk, tr, cn, ho, rfl, rfl, h1, h2, h3, h4, h5⟩ := I
  have J : i_Rel (k + 4) (c, f, sk, se, sv, sd, sr, fo, si, sz, og) (ns, kw, ls, en, kn, fm, mk, tr, cn, ho) := af_rel h1 h2 h3 h4 h5
  have z1 : (v1 < 0 ∨ nI 64 ≤ v1) ∨ ∃ e, e < 64 ∧ v1 = nI e := or_assoc.mpr (pk_ix v1 (by decide))
  have z2 : (v2 < 0 ∨ nI 3 ≤ v2) ∨ ∃ e, e < 3 ∧ v2 = nI e := or_assoc.mpr (pk_ix v2 (by decide))
  rcases z1 with z1 | ⟨e, he, rfl⟩
  · exact ax_forget0 z1 (ay_forget0 z1 ⟨rfl, J⟩)
  rcases z2 with z2 | ⟨q, hq, rfl⟩
  · exact ax_forget00 he z2 (ay_forget00 he z2 ⟨rfl, J⟩)
  refine ax_forget1 h1 h2 he hq (fun e12 => ?_) (fun l12 f' sr' fo' si' sz' og' hI => ?_)
  · exact ay_forget1 h1 h4 he hq (fun _ => ⟨rfl, J⟩) (fun z => by omega)
  · exact ay_forget1 h1 h4 he hq (fun z => by omega) (fun _ => ⟨rfl, af_rel (af_St_ap h1 l12 he (by omega) (by decide)) (ax_S_ap h2) hI (ay_S_ap h4) (Or.inl rfl)⟩)
theorem i_vc_pass {k : Nat} {u : SX} {v : SY} (I : i_Rel k u v) (hk : k + 4 ≤ 2048) (v1 : Int32) : wpX_pass (fun r u' => wpY_pass (fun r' v' => r' = r ∧ i_Rel (k + 4) u' v') v v1) u v1 := by
  obtain ⟨n, E, K, F, c, f, sk, se, sv, sd, sr, fo, si, sz, og, ns, kw, ls, en, kn, fm, mk, tr, cn, ho, rfl, rfl, h1, h2, h3, h4, h5⟩ := I
  have J : i_Rel (k + 4) (c, f, sk, se, sv, sd, sr, fo, si, sz, og) (ns, kw, ls, en, kn, fm, mk, tr, cn, ho) := af_rel h1 h2 h3 h4 h5
  have z1 : (v1 < 0 ∨ nI 64 ≤ v1) ∨ ∃ e, e < 64 ∧ v1 = nI e := or_assoc.mpr (pk_ix v1 (by decide))
  rcases z1 with z1 | ⟨e, he, rfl⟩
  · exact ax_pass0 z1 (ay_pass0 z1 ⟨rfl, J⟩)
  refine ax_pass1 h1 h2 he (fun e12 => ?_) (fun l12 f' sr' fo' si' sz' og' hI => ?_)
  · exact ay_pass1 h1 h4 he (fun _ => ⟨rfl, J⟩) (fun z => by omega)
  · exact ay_pass1 h1 h4 he (fun z => by omega) (fun _ => ⟨rfl, af_rel (af_St_ap h1 l12 he (by decide) (by decide)) (ax_S_ap h2) hI (ay_S_ap h4) (Or.inl rfl)⟩)
theorem i_vc_drop {k : Nat} {u : SX} {v : SY} (I : i_Rel k u v) (hk : k + 4 ≤ 2048) : wpX_drop (fun r u' => wpY_drop (fun r' v' => r' = r ∧ i_Rel (k + 4) u' v') v) u := by
  obtain ⟨n, E, K, F, c, f, sk, se, sv, sd, sr, fo, si, sz, og, ns, kw, ls, en, kn, fm, mk, tr, cn, ho, rfl, rfl, h1, h2, h3, h4, h5⟩ := I
  have J : i_Rel (k + 4) (c, f, sk, se, sv, sd, sr, fo, si, sz, og) (ns, kw, ls, en, kn, fm, mk, tr, cn, ho) := af_rel h1 h2 h3 h4 h5
  have hn := h1.1
  have ec := h2.1
  have en' := h4.1
  subst ec en'
  cases n with
  | zero => exact br_t rfl (br_t rfl ⟨rfl, J⟩)
  | succ n =>
    have hz : ¬ nI (n + 1) = 0 := nI_ne0 (by omega) (by omega)
    refine br_f hz (nm_r (nI_pred n) ?_)
    refine ax_follow (af_St_dn h1) (ax_S_dn h2) (fun f' sr' fo' si' sz' og' hI => ?_)
    exact br_f hz (nm_r (nI_pred n) ⟨rfl, af_rel (af_St_dn h1) (ax_S_dn h2) hI (ay_S_dn h4) (Or.inl rfl)⟩)
theorem i_vc_clear {k : Nat} {u : SX} {v : SY} (I : i_Rel k u v) (hk : k + 4 ≤ 2048) : wpX_clear (fun u' => wpY_clear (fun v' => i_Rel (k + 4) u' v') v) u := by
  obtain ⟨n, E, K, F, c, f, sk, se, sv, sd, sr, fo, si, sz, og, ns, kw, ls, en, kn, fm, mk, tr, cn, ho, rfl, rfl, h1, h2, h3, h4, h5⟩ := I
  unfold wpX_clear
  dsimp only
  refine ax_follow (n := 0) (E := E) (K := K) (F := F) af_St_0 ax_S_0 (fun f' sr' fo' si' sz' og' hI => ?_)
  exact af_rel (k := k + 4) (n := 0) (E := E) (K := K) (F := F) af_St_0 ax_S_0 hI ay_S_0 (Or.inl rfl)
theorem i_vc_reached {k : Nat} {u : SX} {v : SY} (I : i_Rel k u v) (hk : k + 4 ≤ 2048) (v1 : Int32) : wpX_reached (fun r => wpY_reached (fun r' v' => r' = r ∧ i_Rel (k + 4) u v') v v1) u v1 := by
  obtain ⟨n, E, K, F, c, f, sk, se, sv, sd, sr, fo, si, sz, og, ns, kw, ls, en, kn, fm, mk, tr, cn, ho, rfl, rfl, h1, h2, h3, h4, h5⟩ := I
  have z1 : (v1 < 0 ∨ nI 8 ≤ v1) ∨ ∃ e, e < 8 ∧ v1 = nI e := or_assoc.mpr (pk_ix v1 (by decide))
  rcases z1 with z1 | ⟨p, hp, rfl⟩
  · exact ax_reached0 z1 (ay_reached0 h1 h4 h5 z1 (fun kw' mk' tr' cn' hI' => ⟨rfl, af_rel h1 h2 h3 h4 hI'⟩))
  refine ax_reached1 h3 hp (fun z => ?_) (fun z => ?_)
  · exact ay_reached1 h1 h4 h5 hp (fun _ kw' mk' tr' cn' hI' => ⟨rfl, af_rel h1 h2 h3 h4 hI'⟩) (fun w => absurd z w)
  · exact ay_reached1 h1 h4 h5 hp (fun w => absurd w z) (fun _ kw' mk' tr' cn' hI' => ⟨rfl, af_rel h1 h2 h3 h4 hI'⟩)
theorem i_vc_holds {k : Nat} {u : SX} {v : SY} (I : i_Rel k u v) (hk : k + 4 ≤ 2048) (v1 : Int32) (v2 : Int32) : wpX_holds (fun r => wpY_holds (fun r' v' => r' = r ∧ i_Rel (k + 4) u v') v v1 v2) u v1 v2 := by
  obtain ⟨n, E, K, F, c, f, sk, se, sv, sd, sr, fo, si, sz, og, ns, kw, ls, en, kn, fm, mk, tr, cn, ho, rfl, rfl, h1, h2, h3, h4, h5⟩ := I
  have J : i_Rel (k + 4) (c, f, sk, se, sv, sd, sr, fo, si, sz, og) (ns, kw, ls, en, kn, fm, mk, tr, cn, ho) := af_rel h1 h2 h3 h4 h5
  have z1 : (v1 < 0 ∨ nI 8 ≤ v1) ∨ ∃ e, e < 8 ∧ v1 = nI e := or_assoc.mpr (pk_ix v1 (by decide))
  have z2 : (v2 < 0 ∨ nI 2401 ≤ v2) ∨ ∃ e, e < 2401 ∧ v2 = nI e := or_assoc.mpr (pk_ix v2 (by decide))
  rcases z1 with z1 | ⟨p, hp, rfl⟩
  · exact ax_holds0 z1 (ay_holds0 z1 ⟨rfl, J⟩)
  rcases z2 with z2 | ⟨e, he, rfl⟩
  · exact ax_holds00 hp z2 (ay_holds00 hp z2 ⟨rfl, J⟩)
  refine ax_holds1 h3 hp he (fun z => ?_) (fun z => ?_)
  · exact ay_holds1 h1 h4 h5 hp he (fun _ kw' mk' tr' cn' hI' => ⟨rfl, af_rel h1 h2 h3 h4 hI'⟩) (fun w => absurd z w)
  · exact ay_holds1 h1 h4 h5 hp he (fun w => absurd w z) (fun _ kw' mk' tr' cn' hI' => ⟨rfl, af_rel h1 h2 h3 h4 hI'⟩)
theorem i_vc_equations {k : Nat} {u : SX} {v : SY} (I : i_Rel k u v) (hk : k + 4 ≤ 2048) (v1 : Int32) : wpX_equations (fun r => wpY_equations (fun r' v' => r' = r ∧ i_Rel (k + 4) u v') v v1) u v1 := by
  obtain ⟨n, E, K, F, c, f, sk, se, sv, sd, sr, fo, si, sz, og, ns, kw, ls, en, kn, fm, mk, tr, cn, ho, rfl, rfl, h1, h2, h3, h4, h5⟩ := I
  have J : i_Rel (k + 4) (c, f, sk, se, sv, sd, sr, fo, si, sz, og) (ns, kw, ls, en, kn, fm, mk, tr, cn, ho) := af_rel h1 h2 h3 h4 h5
  have z1 : (v1 < 0 ∨ nI 8 ≤ v1) ∨ ∃ e, e < 8 ∧ v1 = nI e := or_assoc.mpr (pk_ix v1 (by decide))
  rcases z1 with z1 | ⟨p, hp, rfl⟩
  · exact ax_equations0 z1 (ay_equations0 z1 ⟨rfl, J⟩)
  exact ax_equations1 h3 hp (ay_equations1 h1 h4 h5 hp (fun kw' ls' mk' tr' cn' ho' hI' => ⟨rfl, af_rel h1 h2 h3 h4 hI'⟩))
theorem i_vc_span {k : Nat} {u : SX} {v : SY} (I : i_Rel k u v) (hk : k + 4 ≤ 2048) (v1 : Int32) : wpX_span (fun r => wpY_span (fun r' v' => r' = r ∧ i_Rel (k + 4) u v') v v1) u v1 := by
  obtain ⟨n, E, K, F, c, f, sk, se, sv, sd, sr, fo, si, sz, og, ns, kw, ls, en, kn, fm, mk, tr, cn, ho, rfl, rfl, h1, h2, h3, h4, h5⟩ := I
  have J : i_Rel (k + 4) (c, f, sk, se, sv, sd, sr, fo, si, sz, og) (ns, kw, ls, en, kn, fm, mk, tr, cn, ho) := af_rel h1 h2 h3 h4 h5
  have z1 : (v1 < 0 ∨ nI 8 ≤ v1) ∨ ∃ e, e < 8 ∧ v1 = nI e := or_assoc.mpr (pk_ix v1 (by decide))
  rcases z1 with z1 | ⟨p, hp, rfl⟩
  · exact ax_span0 z1 (ay_span0 z1 ⟨rfl, J⟩)
  exact ax_span1 h3 hp (ay_span1 h1 h4 h5 hp (fun kw' ls' mk' tr' cn' ho' hI' => ⟨rfl, af_rel h1 h2 h3 h4 hI'⟩))
theorem i_vc_inSpan {k : Nat} {u : SX} {v : SY} (I : i_Rel k u v) (hk : k + 4 ≤ 2048) (v1 : Int32) (v2 : Int32) : wpX_inSpan (fun r => wpY_inSpan (fun r' v' => r' = r ∧ i_Rel (k + 4) u v') v v1 v2) u v1 v2 := by
  obtain ⟨n, E, K, F, c, f, sk, se, sv, sd, sr, fo, si, sz, og, ns, kw, ls, en, kn, fm, mk, tr, cn, ho, rfl, rfl, h1, h2, h3, h4, h5⟩ := I
  have J : i_Rel (k + 4) (c, f, sk, se, sv, sd, sr, fo, si, sz, og) (ns, kw, ls, en, kn, fm, mk, tr, cn, ho) := af_rel h1 h2 h3 h4 h5
  have z1 : (v1 < 0 ∨ nI 8 ≤ v1) ∨ ∃ e, e < 8 ∧ v1 = nI e := or_assoc.mpr (pk_ix v1 (by decide))
  have z2 : (v2 < 0 ∨ nI 343 ≤ v2) ∨ ∃ e, e < 343 ∧ v2 = nI e := or_assoc.mpr (pk_ix v2 (by decide))
  rcases z1 with z1 | ⟨p, hp, rfl⟩
  · exact ax_inSpan0 z1 (ay_inSpan0 z1 ⟨rfl, J⟩)
  rcases z2 with z2 | ⟨t, ht, rfl⟩
  · exact ax_inSpan00 hp z2 (ay_inSpan00 hp z2 ⟨rfl, J⟩)
  refine ax_inSpan1 h3 hp ht (fun z => ?_) (fun z => ?_)
  · exact ay_inSpan1 h1 h4 h5 hp ht (fun _ kw' ls' mk' tr' cn' ho' hI' => ⟨rfl, af_rel h1 h2 h3 h4 hI'⟩) (fun w => absurd z w)
  · exact ay_inSpan1 h1 h4 h5 hp ht (fun w => absurd w z) (fun _ kw' ls' mk' tr' cn' ho' hI' => ⟨rfl, af_rel h1 h2 h3 h4 hI'⟩)
theorem i_vc_constant {k : Nat} {u : SX} {v : SY} (I : i_Rel k u v) (hk : k + 4 ≤ 2048) (v1 : Int32) (v2 : Int32) : wpX_constant (fun r => wpY_constant (fun r' v' => r' = r ∧ i_Rel (k + 4) u v') v v1 v2) u v1 v2 := by
  obtain ⟨n, E, K, F, c, f, sk, se, sv, sd, sr, fo, si, sz, og, ns, kw, ls, en, kn, fm, mk, tr, cn, ho, rfl, rfl, h1, h2, h3, h4, h5⟩ := I
  have J : i_Rel (k + 4) (c, f, sk, se, sv, sd, sr, fo, si, sz, og) (ns, kw, ls, en, kn, fm, mk, tr, cn, ho) := af_rel h1 h2 h3 h4 h5
  have z1 : (v1 < 0 ∨ nI 8 ≤ v1) ∨ ∃ e, e < 8 ∧ v1 = nI e := or_assoc.mpr (pk_ix v1 (by decide))
  have z2 : (v2 < 0 ∨ nI 3 ≤ v2) ∨ ∃ e, e < 3 ∧ v2 = nI e := or_assoc.mpr (pk_ix v2 (by decide))
  rcases z1 with z1 | ⟨p, hp, rfl⟩
  · exact ax_constant0 z1 (ay_constant0 z1 ⟨rfl, J⟩)
  rcases z2 with z2 | ⟨q, hq, rfl⟩
  · exact ax_constant00 hp z2 (ay_constant00 hp z2 ⟨rfl, J⟩)
  exact ax_constant1 h3 hp hq (fun r hr => ay_constant1 h1 h4 h5 hp hq (fun r' hr' kw' ls' mk' tr' cn' ho' hI' => ⟨af_Qc_u hr hr', af_rel h1 h2 h3 h4 hI'⟩))
theorem i_vc_implies {k : Nat} {u : SX} {v : SY} (I : i_Rel k u v) (hk : k + 4 ≤ 2048) (v1 : Int32) (v2 : Int32) : wpX_implies (fun r => wpY_implies (fun r' v' => r' = r ∧ i_Rel (k + 4) u v') v v1 v2) u v1 v2 := by
  obtain ⟨n, E, K, F, c, f, sk, se, sv, sd, sr, fo, si, sz, og, ns, kw, ls, en, kn, fm, mk, tr, cn, ho, rfl, rfl, h1, h2, h3, h4, h5⟩ := I
  have J : i_Rel (k + 4) (c, f, sk, se, sv, sd, sr, fo, si, sz, og) (ns, kw, ls, en, kn, fm, mk, tr, cn, ho) := af_rel h1 h2 h3 h4 h5
  have z1 : (v1 < 0 ∨ nI 8 ≤ v1) ∨ ∃ e, e < 8 ∧ v1 = nI e := or_assoc.mpr (pk_ix v1 (by decide))
  have z2 : (v2 < 0 ∨ nI 8 ≤ v2) ∨ ∃ e, e < 8 ∧ v2 = nI e := or_assoc.mpr (pk_ix v2 (by decide))
  rcases z1 with z1 | ⟨p, hp, rfl⟩
  · exact ax_implies0 z1 (ay_implies0 z1 ⟨rfl, J⟩)
  rcases z2 with z2 | ⟨q, hq, rfl⟩
  · exact ax_implies00 hp z2 (ay_implies00 hp z2 ⟨rfl, J⟩)
  refine ax_implies1 h3 hp hq (fun z => ?_) (fun z => ?_)
  · exact ay_implies1 h1 h4 h5 hp hq (fun _ kw' ls' mk' tr' cn' ho' hI' => ⟨rfl, af_rel h1 h2 h3 h4 hI'⟩) (fun w => absurd z w)
  · exact ay_implies1 h1 h4 h5 hp hq (fun w => absurd w z) (fun _ kw' ls' mk' tr' cn' ho' hI' => ⟨rfl, af_rel h1 h2 h3 h4 hI'⟩)
theorem i_vc_loosest {k : Nat} {u : SX} {v : SY} (I : i_Rel k u v) (hk : k + 4 ≤ 2048) : wpX_loosest (fun r => wpY_loosest (fun r' v' => r' = r ∧ i_Rel (k + 4) u v') v) u := by
  obtain ⟨n, E, K, F, c, f, sk, se, sv, sd, sr, fo, si, sz, og, ns, kw, ls, en, kn, fm, mk, tr, cn, ho, rfl, rfl, h1, h2, h3, h4, h5⟩ := I
  exact ax_loosest h3 (fun g q hV => ay_loosest h1 h4 h5 (fun g' q' hV' kw' ls' mk' tr' cn' ho' hI' => ⟨by rw [af_V_u (by decide) hV hV'], af_rel h1 h2 h3 h4 hI'⟩))
end
