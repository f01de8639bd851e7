/-- a number as a digit modulo 7 -/
def af_ph (n : Nat) : Fin 7 := Fin.ofNat 7 n
theorem af_ph_v (n : Nat) : (af_ph n).val = n % 7 := rfl
theorem af_ph_eq {a b : Nat} : af_ph a = af_ph b ↔ a % 7 = b % 7 :=
  ⟨fun h => congrArg Fin.val h, fun h => Fin.ext h⟩
theorem af_ph_add (a b : Nat) : af_ph (a + b) = af_ph a + af_ph b := by
  apply Fin.ext
  rw [Fin.val_add, af_ph_v, af_ph_v, af_ph_v, Nat.add_mod]
theorem af_ph_mul (a b : Nat) : af_ph (a * b) = af_ph a * af_ph b := by
  apply Fin.ext
  rw [Fin.val_mul, af_ph_v, af_ph_v, af_ph_v, Nat.mul_mod]
theorem af_ph_mod (a : Nat) : af_ph (a % 7) = af_ph a := af_ph_eq.mpr (Nat.mod_mod _ _)
theorem af_ph_val (a : Fin 7) : af_ph a.val = a := Fin.ext (Nat.mod_eq_of_lt a.isLt)
theorem af_ph_7 : af_ph 7 = 0 := rfl
theorem af_ph_0 : af_ph 0 = 0 := rfl
theorem af_ph_1 : af_ph 1 = 1 := rfl
theorem af_inv : ∀ a : Fin 7, a ≠ 0 → ∃ b : Fin 7, a * b = 1 := by decide
/-- the left side of an equation at a triple -/
def af_lf (e t : Nat) : Nat := e % 7 * (t % 7) + e / 7 % 7 * (t / 7 % 7) + e / 49 % 7 * (t / 49 % 7)
/-- a triple keeps to an equation -/
def af_kp (e t : Nat) : Prop := af_lf e t % 7 = e / 343 % 7
/-- a triple with another value of one variable -/
def af_wv (t k v : Nat) : Nat := if k = 0 then t - t % 7 + v else if k = 1 then t % 7 + 7 * v + t / 49 * 49 else t % 49 + 49 * v
/-- a triple moved s times by the way from o to w -/
def af_sh (t s o w : Nat) : Nat := (t % 7 + s * (w % 7 + 7 - o % 7)) % 7 + 7 * ((t / 7 % 7 + s * (w / 7 % 7 + 7 - o / 7 % 7)) % 7) + 49 * ((t / 49 % 7 + s * (w / 49 % 7 + 7 - o / 49 % 7)) % 7)
def af_L (e t : Nat) : Fin 7 := af_ph e * af_ph t + af_ph (e / 7) * af_ph (t / 7) + af_ph (e / 49) * af_ph (t / 49) - af_ph (e / 343)
theorem af_lf_ph (e t : Nat) : af_ph (af_lf e t) = af_ph e * af_ph t + af_ph (e / 7) * af_ph (t / 7) + af_ph (e / 49) * af_ph (t / 49) := by
  unfold af_lf
  simp only [af_ph_add, af_ph_mul, af_ph_mod]
theorem af_kp_iff {e t : Nat} : af_kp e t ↔ af_L e t = 0 := by
  have h : af_kp e t ↔ af_ph (af_lf e t) = af_ph (e / 343) := af_ph_eq.symm
  rw [h, af_lf_ph]
  unfold af_L
  generalize af_ph e * af_ph t + af_ph (e / 7) * af_ph (t / 7) + af_ph (e / 49) * af_ph (t / 49) = x
  generalize af_ph (e / 343) = y
  constructor
  · intro h; rw [h]; grind
  · intro h; grind
theorem af_way (w o : Nat) : af_ph (w % 7 + 7 - o % 7) = af_ph w - af_ph o := by
  have h : af_ph (w % 7 + 7 - o % 7) + af_ph o = af_ph w := by
    rw [← af_ph_add]
    exact af_ph_eq.mpr (by omega)
  grind
theorem af_dig (a b c : Nat) : af_ph (a % 7 + 7 * (b % 7) + 49 * (c % 7)) = af_ph a ∧ af_ph ((a % 7 + 7 * (b % 7) + 49 * (c % 7)) / 7) = af_ph b ∧ af_ph ((a % 7 + 7 * (b % 7) + 49 * (c % 7)) / 49) = af_ph c :=
  ⟨af_ph_eq.mpr (by omega), af_ph_eq.mpr (by omega), af_ph_eq.mpr (by omega)⟩
theorem af_sh_lt (t s o w : Nat) : af_sh t s o w < 343 := by
  unfold af_sh
  generalize t % 7 + s * (w % 7 + 7 - o % 7) = a
  generalize t / 7 % 7 + s * (w / 7 % 7 + 7 - o / 7 % 7) = b
  generalize t / 49 % 7 + s * (w / 49 % 7 + 7 - o / 49 % 7) = c
  omega
theorem af_sh_ph (t s o w : Nat) : af_ph (af_sh t s o w) = af_ph t + af_ph s * (af_ph w - af_ph o) ∧ af_ph (af_sh t s o w / 7) = af_ph (t / 7) + af_ph s * (af_ph (w / 7) - af_ph (o / 7)) ∧ af_ph (af_sh t s o w / 49) = af_ph (t / 49) + af_ph s * (af_ph (w / 49) - af_ph (o / 49)) := by
  have h := af_dig (t % 7 + s * (w % 7 + 7 - o % 7)) (t / 7 % 7 + s * (w / 7 % 7 + 7 - o / 7 % 7)) (t / 49 % 7 + s * (w / 49 % 7 + 7 - o / 49 % 7))
  unfold af_sh
  rw [h.1, h.2.1, h.2.2]
  simp only [af_ph_add, af_ph_mul, af_ph_mod, af_way, and_self]
theorem af_ext {t t' : Nat} (h : t < 343) (h' : t' < 343) (e0 : af_ph t = af_ph t') (e1 : af_ph (t / 7) = af_ph (t' / 7)) (e2 : af_ph (t / 49) = af_ph (t' / 49)) : t = t' := by
  rw [af_ph_eq] at e0 e1 e2
  omega
theorem af_mk (a b c d : Fin 7) : ∃ e, e < 2401 ∧ af_ph e = a ∧ af_ph (e / 7) = b ∧ af_ph (e / 49) = c ∧ af_ph (e / 343) = d := by
  obtain ⟨a, ha⟩ := a
  obtain ⟨b, hb⟩ := b
  obtain ⟨c, hc⟩ := c
  obtain ⟨d, hd⟩ := d
  refine ⟨a + 7 * b + 49 * c + 343 * d, by omega, Fin.ext ?_, Fin.ext ?_, Fin.ext ?_, Fin.ext ?_⟩
  · show (a + 7 * b + 49 * c + 343 * d) % 7 = a
    omega
  · show (a + 7 * b + 49 * c + 343 * d) / 7 % 7 = b
    omega
  · show (a + 7 * b + 49 * c + 343 * d) / 49 % 7 = c
    omega
  · show (a + 7 * b + 49 * c + 343 * d) / 343 % 7 = d
    omega
theorem af_L_sh (e t s o w : Nat) : af_L e (af_sh t s o w) = af_L e t + af_ph s * (af_L e w - af_L e o) := by
  have h := af_sh_ph t s o w
  unfold af_L
  rw [h.1, h.2.1, h.2.2]
  generalize af_ph e = e0
  generalize af_ph (e / 7) = e1
  generalize af_ph (e / 49) = e2
  generalize af_ph (e / 343) = e3
  generalize af_ph t = t0
  generalize af_ph (t / 7) = t1
  generalize af_ph (t / 49) = t2
  generalize af_ph o = o0
  generalize af_ph (o / 7) = o1
  generalize af_ph (o / 49) = o2
  generalize af_ph w = w0
  generalize af_ph (w / 7) = w1
  generalize af_ph (w / 49) = w2
  generalize af_ph s = s0
  clear h
  grind
theorem af_comb (e1 e2 : Nat) (c : Fin 7) : ∃ e, e < 2401 ∧ ∀ t, af_L e t = af_L e1 t - c * af_L e2 t := by
  obtain ⟨e, he, h0, h1, h2, h3⟩ := af_mk (af_ph e1 - c * af_ph e2) (af_ph (e1 / 7) - c * af_ph (e2 / 7)) (af_ph (e1 / 49) - c * af_ph (e2 / 49)) (af_ph (e1 / 343) - c * af_ph (e2 / 343))
  refine ⟨e, he, fun t => ?_⟩
  unfold af_L
  rw [h0, h1, h2, h3]
  generalize af_ph e1 = a0
  generalize af_ph (e1 / 7) = a1
  generalize af_ph (e1 / 49) = a2
  generalize af_ph (e1 / 343) = a3
  generalize af_ph e2 = b0
  generalize af_ph (e2 / 7) = b1
  generalize af_ph (e2 / 49) = b2
  generalize af_ph (e2 / 343) = b3
  generalize af_ph t = t0
  generalize af_ph (t / 7) = t1
  generalize af_ph (t / 49) = t2
  clear h0 h1 h2 h3
  grind
theorem af_dg (a : Fin 7) : ∃ s, s < 7 ∧ af_ph s = a := ⟨a.val, a.isLt, af_ph_val a⟩
theorem af_sh_0 {t o w : Nat} (h : t < 343) : af_sh t 0 o w = t := by
  have p := af_sh_ph t 0 o w
  rw [af_ph_0] at p
  exact af_ext (af_sh_lt _ _ _ _) h (by rw [p.1]; grind) (by rw [p.2.1]; grind) (by rw [p.2.2]; grind)
theorem af_sh_1 {o w : Nat} (h : w < 343) : af_sh o 1 o w = w := by
  have p := af_sh_ph o 1 o w
  rw [af_ph_1] at p
  exact af_ext (af_sh_lt _ _ _ _) h (by rw [p.1]; grind) (by rw [p.2.1]; grind) (by rw [p.2.2]; grind)
theorem af_sh_sh (t s s' o w : Nat) : ∃ q, q < 7 ∧ af_sh (af_sh t s o w) s' o w = af_sh t q o w := by
  obtain ⟨q, hq, e⟩ := af_dg (af_ph s + af_ph s')
  refine ⟨q, hq, ?_⟩
  have p := af_sh_ph t s o w
  have p' := af_sh_ph (af_sh t s o w) s' o w
  have p2 := af_sh_ph t q o w
  exact af_ext (af_sh_lt _ _ _ _) (af_sh_lt _ _ _ _) (by rw [p'.1, p.1, p2.1, e]; grind) (by rw [p'.2.1, p.2.1, p2.2.1, e]; grind) (by rw [p'.2.2, p.2.2, p2.2.2, e]; grind)
/-- whatever lies outside is told apart by an equation that holds inside -/
def af_Sep (A : Nat → Prop) : Prop := ∀ t, t < 343 → ¬ A t → ∃ e, e < 2401 ∧ (∀ a, a < 343 → A a → af_kp e a) ∧ ¬ af_kp e t
/-- the set, widened by the way from o to w -/
def af_Wd (A : Nat → Prop) (o w : Nat) : Nat → Prop := fun t => ∃ a, a < 343 ∧ A a ∧ ∃ s, s < 7 ∧ t = af_sh a s o w
theorem af_sep_none {A : Nat → Prop} (h : ∀ t, t < 343 → ¬ A t) : af_Sep A := by
  intro t _ _
  refine ⟨343, by decide, fun a ha hA => (h a ha hA).elim, ?_⟩
  intro z
  have e : af_lf 343 t = 0 := by
    show 0 * (t % 7) + 0 * (t / 7 % 7) + 0 * (t / 49 % 7) = 0
    omega
  unfold af_kp at z
  rw [e] at z
  exact absurd z (by decide)
theorem af_sep_one {w : Nat} (hw : w < 343) {A : Nat → Prop} (hA : ∀ t, t < 343 → (A t ↔ t = w)) : af_Sep A := by
  intro t ht hn
  have hne : t ≠ w := fun e => hn ((hA t ht).mpr e)
  have go : ∀ x y z : Fin 7, (x * af_ph t + y * af_ph (t / 7) + z * af_ph (t / 49)) ≠ (x * af_ph w + y * af_ph (w / 7) + z * af_ph (w / 49)) → ∃ e, e < 2401 ∧ (∀ a, a < 343 → A a → af_kp e a) ∧ ¬ af_kp e t := by
    intro x y z hd
    obtain ⟨e, he, h0, h1, h2, h3⟩ := af_mk x y z (x * af_ph w + y * af_ph (w / 7) + z * af_ph (w / 49))
    refine ⟨e, he, fun a ha hAa => ?_, fun k => ?_⟩
    · rw [(hA a ha).mp hAa, af_kp_iff]
      unfold af_L
      rw [h0, h1, h2, h3]
      generalize x * af_ph w + y * af_ph (w / 7) + z * af_ph (w / 49) = q
      grind
    · rw [af_kp_iff] at k
      unfold af_L at k
      rw [h0, h1, h2, h3] at k
      apply hd
      revert k
      generalize x * af_ph w + y * af_ph (w / 7) + z * af_ph (w / 49) = q
      generalize x * af_ph t + y * af_ph (t / 7) + z * af_ph (t / 49) = q'
      intro k
      grind
  by_cases e0 : af_ph t = af_ph w
  · by_cases e1 : af_ph (t / 7) = af_ph (w / 7)
    · by_cases e2 : af_ph (t / 49) = af_ph (w / 49)
      · exact absurd (af_ext ht hw e0 e1 e2) hne
      · exact go 0 0 1 (fun k => e2 (by grind))
    · exact go 0 1 0 (fun k => e1 (by grind))
  · exact go 1 0 0 (fun k => e0 (by grind))
theorem af_wd_in {A : Nat → Prop} {o w t : Nat} (ht : t < 343) (h : A t) : af_Wd A o w t := ⟨t, ht, h, 0, by decide, (af_sh_0 ht).symm⟩
theorem af_wd_w {A : Nat → Prop} {o w : Nat} (ho : o < 343) (hw : w < 343) (h : A o) : af_Wd A o w w := ⟨o, ho, h, 1, by decide, (af_sh_1 hw).symm⟩
theorem af_wd_sh {A : Nat → Prop} {o w t s : Nat} (h : af_Wd A o w t) : af_Wd A o w (af_sh t s o w) := by
  obtain ⟨a, ha, hA, q, _, rfl⟩ := h
  obtain ⟨q', hq', e⟩ := af_sh_sh a q s o w
  exact ⟨a, ha, hA, q', hq', e⟩
theorem af_wd_kp {A : Nat → Prop} {o w e : Nat} (hA : ∀ a, a < 343 → A a → af_kp e a) (ho : af_kp e o) (hw : af_kp e w) {t : Nat} (h : af_Wd A o w t) : af_kp e t := by
  obtain ⟨a, ha, hAa, s, _, rfl⟩ := h
  have h1 := af_kp_iff.mp (hA a ha hAa)
  have h2 := af_kp_iff.mp ho
  have h3 := af_kp_iff.mp hw
  rw [af_kp_iff, af_L_sh, h1, h2, h3]
  grind
theorem af_sep_wd {A : Nat → Prop} {o w : Nat} (hS : af_Sep A) (ho : o < 343) (hw : w < 343) (hAo : A o) (hAw : ¬ A w) : af_Sep (af_Wd A o w) := by
  intro t ht hn
  obtain ⟨f, _, hf, hfw⟩ := hS w hw hAw
  rw [af_kp_iff] at hfw
  obtain ⟨b, hb⟩ := af_inv _ hfw
  have hfo := af_kp_iff.mp (hf o ho hAo)
  -- back along the way until f is zero
  obtain ⟨s, hs, es⟩ := af_dg (0 - af_L f t * b)
  obtain ⟨s', _, es'⟩ := af_dg (af_L f t * b)
  have hft : af_L f (af_sh t s o w) = 0 := by
    rw [af_L_sh, es, hfo]
    grind
  have hnA : ¬ A (af_sh t s o w) := by
    intro hA
    apply hn
    refine ⟨_, af_sh_lt t s o w, hA, ?_⟩
    obtain ⟨q, hq, eq⟩ := af_sh_sh t s s' o w
    refine ⟨s', by omega, ?_⟩
    have p := af_sh_ph t s o w
    have p' := af_sh_ph (af_sh t s o w) s' o w
    exact af_ext ht (af_sh_lt _ _ _ _) (by rw [p'.1, p.1, es, es']; grind) (by rw [p'.2.1, p.2.1, es, es']; grind) (by rw [p'.2.2, p.2.2, es, es']; grind)
  obtain ⟨g, _, hg, hgt⟩ := hS _ (af_sh_lt t s o w) hnA
  rw [af_kp_iff] at hgt
  obtain ⟨h, hh, eh⟩ := af_comb g f (af_L g w * b)
  have hgo := af_kp_iff.mp (hg o ho hAo)
  have hho : af_kp h o := by
    rw [af_kp_iff, eh, hgo, hfo]
    grind
  have hhw : af_kp h w := by
    rw [af_kp_iff, eh]
    grind
  refine ⟨h, hh, fun a ha hW => af_wd_kp (A := A) (o := o) (w := w) (fun a ha hAa => ?_) hho hhw hW, ?_⟩
  · rw [af_kp_iff, eh, af_kp_iff.mp (hg a ha hAa), af_kp_iff.mp (hf a ha hAa)]
    grind
  · intro k
    rw [af_kp_iff] at k
    apply hgt
    have e1 := eh (af_sh t s o w)
    rw [hft] at e1
    have e2 := af_L_sh h t s o w
    rw [k, af_kp_iff.mp hho, af_kp_iff.mp hhw] at e2
    grind
theorem af_ct_wd {A : Nat → Prop} {o w : Nat} (hS : af_Sep A) (ho : o < 343) (hw : w < 343) (hAo : A o) (hAw : ¬ A w) : af_ct (af_Wd A o w) 343 = 7 * af_ct A 343 := by
  obtain ⟨f, _, hf, hfw⟩ := hS w hw hAw
  rw [af_kp_iff] at hfw
  obtain ⟨b, hb⟩ := af_inv _ hfw
  have hfo := af_kp_iff.mp (hf o ho hAo)
  have hB : af_ct (fun k => A (k % 343)) 2401 = 7 * af_ct A 343 := by
    have h := af_ct_rep A 343 7 0 (by decide)
    rw [af_ct_0, Nat.add_zero, Nat.add_zero] at h
    exact h
  rw [← hB]
  apply Nat.le_antisymm
  · refine af_ct_inj (P := af_Wd A o w) (m := 2401) (fun i k => i = af_sh (k % 343) (k / 343) o w) (fun i i' j h h' => h.trans h'.symm) 343 _ ?_
    intro i _ hi
    obtain ⟨a, ha, hA, s, hs, e⟩ := hi
    refine ⟨343 * s + a, by omega, ?_, ?_⟩
    · show A ((343 * s + a) % 343)
      rw [show (343 * s + a) % 343 = a from by omega]
      exact hA
    · show i = af_sh ((343 * s + a) % 343) ((343 * s + a) / 343) o w
      rw [show (343 * s + a) % 343 = a from by omega, show (343 * s + a) / 343 = s from by omega]
      exact e
  · refine af_ct_inj (P := fun k => A (k % 343)) (m := 343) (fun k t => k < 2401 ∧ A (k % 343) ∧ t = af_sh (k % 343) (k / 343) o w) ?_ 2401 _ ?_
    · intro k k' t h h'
      obtain ⟨hk, hA, e⟩ := h
      obtain ⟨hk', hA', e'⟩ := h'
      have z := af_kp_iff.mp (hf (k % 343) (by omega) hA)
      have z' := af_kp_iff.mp (hf (k' % 343) (by omega) hA')
      have q := af_L_sh f (k % 343) (k / 343) o w
      have q' := af_L_sh f (k' % 343) (k' / 343) o w
      rw [← e, hfo, z] at q
      rw [← e', hfo, z'] at q'
      have es : af_ph (k / 343) = af_ph (k' / 343) := by
        have e1 : af_ph (k / 343) * af_L f w = af_ph (k' / 343) * af_L f w := by grind
        have e2 : af_ph (k / 343) = af_ph (k / 343) * (af_L f w * b) := by rw [hb]; grind
        have e3 : af_ph (k' / 343) = af_ph (k' / 343) * (af_L f w * b) := by rw [hb]; grind
        rw [e2, e3]
        grind
      have es' := af_ph_eq.mp es
      have p := af_sh_ph (k % 343) (k / 343) o w
      have p' := af_sh_ph (k' % 343) (k' / 343) o w
      rw [← e, es] at p
      rw [← e'] at p'
      have ea : k % 343 = k' % 343 := af_ext (by omega) (by omega) (by have := p.1; have := p'.1; grind) (by have := p.2.1; have := p'.2.1; grind) (by have := p.2.2; have := p'.2.2; grind)
      omega
    · intro k hk hA
      exact ⟨af_sh (k % 343) (k / 343) o w, af_sh_lt _ _ _ _, ⟨k % 343, by omega, hA, k / 343, by omega, rfl⟩, hk, hA, rfl⟩
