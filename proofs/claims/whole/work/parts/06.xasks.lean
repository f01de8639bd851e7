theorem ax_pt0 {post : Int32 → Prop} {x : Int32} (h : x < 0 ∨ nI 8 ≤ x) (hp : post 0) : wpX_isPoint post x := ax_is0 8 rfl h hp
theorem ax_pt1 {post : Int32 → Prop} {j : Nat} (h : j < 8) (hp : post 1) : wpX_isPoint post (nI j) := ax_is1 8 rfl (by decide) h hp
theorem ax_en0 {post : Int32 → Prop} {x : Int32} (h : x < 0 ∨ nI 64 ≤ x) (hp : post 0) : wpX_isEnds post x := ax_is0 64 rfl h hp
theorem ax_en1 {post : Int32 → Prop} {j : Nat} (h : j < 64) (hp : post 1) : wpX_isEnds post (nI j) := ax_is1 64 rfl (by decide) h hp
theorem ax_va0 {post : Int32 → Prop} {x : Int32} (h : x < 0 ∨ nI 3 ≤ x) (hp : post 0) : wpX_isVariable post x := ax_is0 3 rfl h hp
theorem ax_va1 {post : Int32 → Prop} {j : Nat} (h : j < 3) (hp : post 1) : wpX_isVariable post (nI j) := ax_is1 3 rfl (by decide) h hp
theorem ax_dg0 {post : Int32 → Prop} {x : Int32} (h : x < 0 ∨ nI 2401 ≤ x) (hp : post 0) : wpX_isDigits post x := ax_is0 2401 rfl h hp
theorem ax_dg1 {post : Int32 → Prop} {j : Nat} (h : j < 2401) (hp : post 1) : wpX_isDigits post (nI j) := ax_is1 2401 rfl (by decide) h hp
theorem ax_tr0 {post : Int32 → Prop} {x : Int32} (h : x < 0 ∨ nI 343 ≤ x) (hp : post 0) : wpX_isTriple post x := ax_is0 343 rfl h hp
theorem ax_tr1 {post : Int32 → Prop} {j : Nat} (h : j < 343) (hp : post 1) : wpX_isTriple post (nI j) := ax_is1 343 rfl (by decide) h hp
theorem ax_mem {R : Nat → Prop} {sr si sz og : Nat → Int32} (hI : ax_I R sr si sz og) {p t : Nat} (hp : p < 8) (ht : t < 343) : ¬ si (343 * p + t) = 0 ↔ af_In R p t := by
  obtain ⟨h1, h2, h3, h4, h5⟩ := hI.2 p hp
  refine ⟨h2 t ht, fun hin k => ?_⟩
  obtain ⟨e, he, ha, hn⟩ := h4 t ht (fun z => z k)
  exact hn (hin e he (fun t' ht' hr => ha t' ht' (h3 t' ht' (by omega) hr)))
theorem ax_size {R : Nat → Prop} {sr si sz og : Nat → Int32} (hI : ax_I R sr si sz og) {p : Nat} (hp : p < 8) : sz p = nI (af_ct (af_In R p) 343) := by
  rw [(hI.2 p hp).1]
  exact congrArg nI (af_ct_congr 343 (fun t ht => ax_mem hI hp ht))
theorem ax_org {R : Nat → Prop} {sr si sz og : Nat → Int32} (hI : ax_I R sr si sz og) {p : Nat} (hp : p < 8) (h : 0 < af_ct (af_In R p) 343) : ∃ o, o < 343 ∧ og p = nI o ∧ af_In R p o := by
  rcases (hI.2 p hp).2.2.2.2 with z | ⟨o, ho, eo, hne⟩
  · obtain ⟨t, ht, hin⟩ := af_ct_ex 343 h
    exact absurd (z t ht) ((ax_mem hI hp ht).mpr hin)
  · exact ⟨o, ho, eo, (ax_mem hI hp ho).mp hne⟩
/-- something is reached at p just when its span isn't empty -/
theorem af_In_none {R : Nat → Prop} {p : Nat} (h : ∀ t, t < 343 → ¬ R (343 * p + t)) : ∀ t, t < 343 → ¬ af_In R p t := by
  intro t ht hin
  have k := hin 343 (by decide) (fun t' ht' hr => (h t' ht' hr).elim)
  have e : af_lf 343 t = 0 := by
    show 0 * (t % 7) + 0 * (t / 7 % 7) + 0 * (t / 49 % 7) = 0
    omega
  unfold af_kp at k
  rw [e] at k
  exact absurd k (by decide)
theorem af_In_pos {R : Nat → Prop} {p : Nat} : 0 < af_ct (af_In R p) 343 ↔ ∃ t, t < 343 ∧ R (343 * p + t) := by
  refine ⟨fun h => ?_, fun ⟨t, ht, hr⟩ => af_ct_pos ht (af_In_R ht hr)⟩
  refine Classical.byContradiction fun k => ?_
  rw [af_ct_zero 343 (af_In_none (fun t ht hr => k ⟨t, ht, hr⟩))] at h
  omega
/-- the answer of constant -/
def af_Qc (R : Nat → Prop) (p k : Nat) (r : Int32) : Prop := (r = -4 ∧ ∀ t, t < 343 → ¬ af_In R p t) ∨ (r = -4 ∧ ∃ t t', t < 343 ∧ t' < 343 ∧ af_In R p t ∧ af_In R p t' ∧ af_vl t k ≠ af_vl t' k) ∨ (∃ d, r = nI d ∧ (∃ t, t < 343 ∧ af_In R p t) ∧ ∀ t, t < 343 → af_In R p t → af_vl t k = d)
theorem af_Qc_u {R : Nat → Prop} {p k : Nat} {r r' : Int32} (h : af_Qc R p k r) (h' : af_Qc R p k r') : r' = r := by
  rcases h with ⟨e, h⟩ | ⟨e, t, t', ht, ht', a, a', n⟩ | ⟨d, e, ⟨t, ht, a⟩, h⟩
  · rcases h' with ⟨e', _⟩ | ⟨e', _⟩ | ⟨_, _, ⟨t, ht, a⟩, _⟩
    · rw [e, e']
    · rw [e, e']
    · exact absurd a (h t ht)
  · rcases h' with ⟨e', _⟩ | ⟨e', _⟩ | ⟨d, _, _, h'⟩
    · rw [e, e']
    · rw [e, e']
    · exact absurd ((h' t ht a).trans (h' t' ht' a').symm) n
  · rcases h' with ⟨_, h'⟩ | ⟨e', s, s', hs, hs', b, b', n⟩ | ⟨d', e', _, h'⟩
    · exact absurd a (h' t ht)
    · exact absurd ((h s hs b).trans (h s' hs' b').symm) n
    · rw [e, e', ← h t ht a, ← h' t ht a]
/-- the scan for the greatest: g so far, found k times -/
def af_V (c : Nat → Nat) (j g k : Nat) : Prop := (∀ i, i < j → c i ≤ g) ∧ (0 < j → ∃ i, i < j ∧ c i = g) ∧ k = af_ct (fun i => c i = g) j
theorem af_V_gt {c : Nat → Nat} {j g k : Nat} (h : af_V c j g k) (hg : g < c j) : af_V c (j + 1) (c j) 1 := by
  refine ⟨fun i hi => ?_, fun _ => ⟨j, by omega, rfl⟩, ?_⟩
  · by_cases e : i = j
    · subst e; exact Nat.le_refl _
    · have := h.1 i (by omega)
      omega
  · rw [af_ct_t (P := fun i => c i = c j) (n := j) rfl, af_ct_zero j (fun i hi e => ?_)]
    have := h.1 i hi
    omega
theorem af_V_eq {c : Nat → Nat} {j g k : Nat} (h : af_V c j g k) (hg : c j = g) : af_V c (j + 1) g (k + 1) := by
  refine ⟨fun i hi => ?_, fun _ => ⟨j, by omega, hg⟩, ?_⟩
  · by_cases e : i = j
    · subst e; omega
    · exact h.1 i (by omega)
  · rw [af_ct_t (P := fun i => c i = g) (n := j) hg, h.2.2]
theorem af_V_lt {c : Nat → Nat} {j g k : Nat} (h : af_V c j g k) (hg : c j < g) (hj : 0 < j) : af_V c (j + 1) g k := by
  obtain ⟨i, hi, ei⟩ := h.2.1 hj
  refine ⟨fun i hi => ?_, fun _ => ⟨i, by omega, ei⟩, ?_⟩
  · by_cases e : i = j
    · subst e; omega
    · exact h.1 i (by omega)
  · rw [af_ct_f (P := fun i => c i = g) (n := j) (by omega), h.2.2]
theorem af_V_u {c : Nat → Nat} {j g k g' k' : Nat} (hj : 0 < j) (h : af_V c j g k) (h' : af_V c j g' k') : k = k' := by
  obtain ⟨i, hi, ei⟩ := h.2.1 hj
  obtain ⟨i', hi', ei'⟩ := h'.2.1 hj
  have a := h.1 i' hi'
  have b := h'.1 i hi
  have e : g = g' := by omega
  subst e
  rw [h.2.2, h'.2.2]
section
variable {post : Int32 → Prop} {R : Nat → Prop} {c f : Int32} {sk se sv sd sr fo si sz og : Nat → Int32}
theorem ax_reached0 {x : Int32} (h : x < 0 ∨ nI 8 ≤ x) (hp : post 0) : wpX_reached post (c, f, sk, se, sv, sd, sr, fo, si, sz, og) x := by
  unfold wpX_reached
  dsimp only
  exact ax_pt0 h (af_i0 hp)
theorem ax_reached1 {p : Nat} (hI : ax_I R sr si sz og) (hp : p < 8) (h1 : (∃ t, t < 343 ∧ R (343 * p + t)) → post 1) (h0 : ¬ (∃ t, t < 343 ∧ R (343 * p + t)) → post 0) : wpX_reached post (c, f, sk, se, sv, sd, sr, fo, si, sz, og) (nI p) := by
  have hle := af_ct_le (af_In R p) 343
  unfold wpX_reached
  dsimp only
  refine ax_pt1 hp (af_i1 ⟨vp_in_nI hp (by decide), ?_⟩)
  rw [nI_clamp (by omega), ax_size hI hp]
  refine pk_le (af_ct (af_In R p) 343) 0 (fun z => h0 (fun k => ?_)) (fun z => h1 (af_In_pos.mp z))
  have := af_In_pos.mpr k
  omega
theorem ax_keep8 {p e : Nat} (hI : ax_I R sr si sz og) (hp : p < 8) (he : e < 2401) (h1 : af_Hd R p e → post 1) (h0 : ¬ af_Hd R p e → post 0) : ∀ d j : Nat, j + d = 343 → (∀ t, t < j → R (343 * p + t) → af_kp e t) → wX_allKeepTo_8 post (nI p) (nI e) (nI (e / 343 % 7)) c f sk se sv sd sr fo si sz og (d + 1) (nI j) := by
  intro d
  induction d with
  | zero =>
    intro j hj hk
    have e : j = 343 := by omega
    subst e
    exact br_t (nI_le (a := 343) (b := 343) (by decide) (by decide)) (h1 hk)
  | succ d ih =>
    intro j hj hk
    refine br_f (nI_ge (a := j) (b := 343) (by omega) (by decide)) ?_
    rw [af_343m, nI_add, nI_clamp (by omega)]
    refine ⟨vp_in_nI (by omega) (by decide), br_c (fun hz => nm_r (nI_1 j) (ih (j + 1) (by omega) (fun t ht hr => ?_))) (fun hz => ax_left he (by omega) ?_)⟩
    · by_cases e' : t = j
      · subst e'; exact absurd hz ((hI.1 _ (by omega)).mpr hr)
      · exact hk t (by omega) hr
    · refine pk_eq (af_lf e j % 7) (e / 343 % 7) (fun z => nm_r (nI_1 j) (ih (j + 1) (by omega) (fun t ht hr => ?_))) (fun z => h0 (fun k => z (k j (by omega) ((hI.1 _ (by omega)).mp hz))))
      by_cases e' : t = j
      · subst e'; exact z
      · exact hk t (by omega) hr
theorem ax_keep {p e : Nat} (hI : ax_I R sr si sz og) (hp : p < 8) (he : e < 2401) (h1 : af_Hd R p e → post 1) (h0 : ¬ af_Hd R p e → post 0) : wpX_allKeepTo post (c, f, sk, se, sv, sd, sr, fo, si, sz, og) (nI p) (nI e) := by
  unfold wpX_allKeepTo
  dsimp only
  exact ax_right he ⟨344, ax_keep8 hI hp he h1 h0 343 0 (by decide) (fun t ht => by omega)⟩
theorem ax_holds0 {x y : Int32} (h : x < 0 ∨ nI 8 ≤ x) (hp : post 0) : wpX_holds post (c, f, sk, se, sv, sd, sr, fo, si, sz, og) x y := by
  unfold wpX_holds
  dsimp only
  exact ax_pt0 h (af_i0 hp)
theorem ax_holds00 {p : Nat} {y : Int32} (hp : p < 8) (h : y < 0 ∨ nI 2401 ≤ y) (hh : post 0) : wpX_holds post (c, f, sk, se, sv, sd, sr, fo, si, sz, og) (nI p) y := by
  unfold wpX_holds
  dsimp only
  exact ax_pt1 hp (af_i1 (ax_dg0 h (af_i0 hh)))
theorem ax_holds1 {p e : Nat} (hI : ax_I R sr si sz og) (hp : p < 8) (he : e < 2401) (h1 : af_Hd R p e → post 1) (h0 : ¬ af_Hd R p e → post 0) : wpX_holds post (c, f, sk, se, sv, sd, sr, fo, si, sz, og) (nI p) (nI e) := by
  unfold wpX_holds
  dsimp only
  exact ax_pt1 hp (af_i1 (ax_dg1 he (af_i1 (ax_keep hI hp he (fun z => af_i1 (h1 z)) (fun z => af_i0 (h0 z))))))
theorem ax_eq13 {p : Nat} (hI : ax_I R sr si sz og) (hp : p < 8) (h : post (nI (af_ct (af_Hd R p) 2401))) : ∀ d j : Nat, j + d = 2401 → wX_equations_13 post (nI p) c f sk se sv sd sr fo si sz og (d + 1) (nI (af_ct (af_Hd R p) j)) (nI j) := by
  intro d
  induction d with
  | zero =>
    intro j hj
    have e : j = 2401 := by omega
    subst e
    exact br_t (nI_le (a := 2401) (b := 2401) (by decide) (by decide)) h
  | succ d ih =>
    intro j hj
    refine br_f (nI_ge (a := j) (b := 2401) (by omega) (by decide)) (ax_keep hI hp (by omega) (fun z => af_i1 ?_) (fun z => af_i0 ?_))
    · have q := ih (j + 1) (by omega)
      rw [af_ct_t z] at q
      exact nm_r (nI_1 _) (nm_r (nI_1 j) q)
    · have q := ih (j + 1) (by omega)
      rw [af_ct_f z] at q
      exact nm_r (nI_1 j) q
theorem ax_equations0 {x : Int32} (h : x < 0 ∨ nI 8 ≤ x) (hp : post (-1)) : wpX_equations post (c, f, sk, se, sv, sd, sr, fo, si, sz, og) x := by
  unfold wpX_equations
  dsimp only
  exact ax_pt0 h (af_i0 hp)
theorem ax_equations1 {p : Nat} (hI : ax_I R sr si sz og) (hp : p < 8) (h : post (nI (af_ct (af_Hd R p) 2401))) : wpX_equations post (c, f, sk, se, sv, sd, sr, fo, si, sz, og) (nI p) := by
  unfold wpX_equations
  dsimp only
  exact ax_pt1 hp (af_i1 ⟨2402, ax_eq13 hI hp h 2401 0 (by decide)⟩)
theorem ax_span0 {x : Int32} (h : x < 0 ∨ nI 8 ≤ x) (hp : post (-1)) : wpX_span post (c, f, sk, se, sv, sd, sr, fo, si, sz, og) x := by
  unfold wpX_span
  dsimp only
  exact ax_pt0 h (af_i0 hp)
theorem ax_span1 {p : Nat} (hI : ax_I R sr si sz og) (hp : p < 8) (h : post (nI (af_ct (af_In R p) 343))) : wpX_span post (c, f, sk, se, sv, sd, sr, fo, si, sz, og) (nI p) := by
  unfold wpX_span
  dsimp only
  refine ax_pt1 hp (af_i1 ⟨vp_in_nI hp (by decide), ?_⟩)
  rw [nI_clamp (by omega), ax_size hI hp]
  exact h
theorem ax_inSpan0 {x y : Int32} (h : x < 0 ∨ nI 8 ≤ x) (hp : post 0) : wpX_inSpan post (c, f, sk, se, sv, sd, sr, fo, si, sz, og) x y := by
  unfold wpX_inSpan
  dsimp only
  exact ax_pt0 h (af_i0 hp)
theorem ax_inSpan00 {p : Nat} {y : Int32} (hp : p < 8) (h : y < 0 ∨ nI 343 ≤ y) (hh : post 0) : wpX_inSpan post (c, f, sk, se, sv, sd, sr, fo, si, sz, og) (nI p) y := by
  unfold wpX_inSpan
  dsimp only
  exact ax_pt1 hp (af_i1 (ax_tr0 h (af_i0 hh)))
theorem ax_inSpan1 {p t : Nat} (hI : ax_I R sr si sz og) (hp : p < 8) (ht : t < 343) (h1 : af_In R p t → post 1) (h0 : ¬ af_In R p t → post 0) : wpX_inSpan post (c, f, sk, se, sv, sd, sr, fo, si, sz, og) (nI p) (nI t) := by
  unfold wpX_inSpan
  dsimp only
  refine ax_pt1 hp (af_i1 (ax_tr1 ht (af_i1 ?_)))
  rw [af_343m, nI_add, nI_clamp (by omega)]
  exact ⟨vp_in_nI (by omega) (by decide), br_c (fun hz => h0 (fun k => (ax_mem hI hp ht).mpr k hz)) (fun hz => h1 ((ax_mem hI hp ht).mp hz))⟩
theorem ax_con45 {p k o : Nat} (hI : ax_I R sr si sz og) (hp : p < 8) (hk : k < 3) (ho : o < 343) (hin : af_In R p o) (h : ∀ r, af_Qc R p k r → post r) : ∀ d j : Nat, j + d = 343 → (∀ t, t < j → af_In R p t → af_vl t k = af_vl o k) → wX_constant_45 post (nI p) (nI k) (nI (af_vl o k)) c f sk se sv sd sr fo si sz og (d + 1) (nI j) := by
  intro d
  induction d with
  | zero =>
    intro j hj ha
    have e : j = 343 := by omega
    subst e
    exact br_t (nI_le (a := 343) (b := 343) (by decide) (by decide)) (h _ (Or.inr (Or.inr ⟨_, rfl, ⟨o, ho, hin⟩, ha⟩)))
  | succ d ih =>
    intro j hj ha
    have hj' : j < 343 := by omega
    refine br_f (nI_ge (a := j) (b := 343) (by omega) (by decide)) ?_
    rw [af_343m, nI_add, nI_clamp (by omega)]
    refine ⟨vp_in_nI (by omega) (by decide), br_c (fun hz => nm_r (nI_1 j) (ih (j + 1) (by omega) (fun t ht hr => ?_))) (fun hz => ax_valueIn hj' hk ?_)⟩
    · by_cases e' : t = j
      · subst e'; exact absurd hz ((ax_mem hI hp hj').mpr hr)
      · exact ha t (by omega) hr
    · have b1 := af_vl_lt j k
      have b2 := af_vl_lt o k
      refine pk_eq (af_vl j k) (af_vl o k) (fun z => nm_r (nI_1 j) (ih (j + 1) (by omega) (fun t ht hr => ?_))) (fun z => h _ (Or.inr (Or.inl ⟨rfl, j, o, hj', ho, (ax_mem hI hp hj').mp hz, hin, z⟩)))
      by_cases e' : t = j
      · subst e'; exact z
      · exact ha t (by omega) hr
theorem ax_constant0 {x y : Int32} (h : x < 0 ∨ nI 8 ≤ x) (hp : post (-1)) : wpX_constant post (c, f, sk, se, sv, sd, sr, fo, si, sz, og) x y := by
  unfold wpX_constant
  dsimp only
  exact ax_pt0 h (af_i0 hp)
theorem ax_constant00 {p : Nat} {y : Int32} (hp : p < 8) (h : y < 0 ∨ nI 3 ≤ y) (hh : post (-2)) : wpX_constant post (c, f, sk, se, sv, sd, sr, fo, si, sz, og) (nI p) y := by
  unfold wpX_constant
  dsimp only
  exact ax_pt1 hp (af_i1 (ax_va0 h (af_i0 hh)))
theorem ax_constant1 {p k : Nat} (hI : ax_I R sr si sz og) (hp : p < 8) (hk : k < 3) (h : ∀ r, af_Qc R p k r → post r) : wpX_constant post (c, f, sk, se, sv, sd, sr, fo, si, sz, og) (nI p) (nI k) := by
  have hle := af_ct_le (af_In R p) 343
  have hin : vp_in (nI p) 8 := vp_in_nI hp (by decide)
  unfold wpX_constant
  dsimp only
  refine ax_pt1 hp (af_i1 (ax_va1 hk (af_i1 ⟨hin, ?_⟩)))
  rw [nI_clamp (by omega), ax_size hI hp]
  refine pk_eq (af_ct (af_In R p) 343) 0 (fun z => h _ (Or.inl ⟨rfl, fun t ht q => ?_⟩)) (fun z => ⟨hin, ?_⟩)
  · have := af_ct_pos ht q
    omega
  · obtain ⟨o, ho, eo, hino⟩ := ax_org hI hp (by omega)
    rw [eo]
    exact ax_valueIn ho hk ⟨344, ax_con45 hI hp hk ho hino h 343 0 (by decide) (fun t ht => by omega)⟩
theorem ax_imp18 {p q : Nat} (hI : ax_I R sr si sz og) (hp : p < 8) (hq : q < 8) (h1 : (∀ e, e < 2401 → af_Hd R q e → af_Hd R p e) → post 1) (h0 : ¬ (∀ e, e < 2401 → af_Hd R q e → af_Hd R p e) → post 0) : ∀ d j : Nat, j + d = 2401 → (∀ e, e < j → af_Hd R q e → af_Hd R p e) → wX_implies_18 post (nI p) (nI q) c f sk se sv sd sr fo si sz og (d + 1) (nI j) := by
  intro d
  induction d with
  | zero =>
    intro j hj ha
    have e : j = 2401 := by omega
    subst e
    exact br_t (nI_le (a := 2401) (b := 2401) (by decide) (by decide)) (h1 ha)
  | succ d ih =>
    intro j hj ha
    refine br_f (nI_ge (a := j) (b := 2401) (by omega) (by decide)) (ax_keep hI hq (by omega) (fun z => af_i1 (ax_keep hI hp (by omega) (fun z' => af_i1 (nm_r (nI_1 j) (ih (j + 1) (by omega) (fun e he hd => ?_)))) (fun z' => af_i0 (h0 (fun k => z' (k j (by omega) z)))))) (fun z => af_i0 (nm_r (nI_1 j) (ih (j + 1) (by omega) (fun e he hd => ?_)))))
    · by_cases e' : e = j
      · subst e'; exact z'
      · exact ha e (by omega) hd
    · by_cases e' : e = j
      · subst e'; exact absurd hd z
      · exact ha e (by omega) hd
theorem ax_implies0 {x y : Int32} (h : x < 0 ∨ nI 8 ≤ x) (hp : post 0) : wpX_implies post (c, f, sk, se, sv, sd, sr, fo, si, sz, og) x y := by
  unfold wpX_implies
  dsimp only
  exact ax_pt0 h (af_i0 hp)
theorem ax_implies00 {p : Nat} {y : Int32} (hp : p < 8) (h : y < 0 ∨ nI 8 ≤ y) (hh : post 0) : wpX_implies post (c, f, sk, se, sv, sd, sr, fo, si, sz, og) (nI p) y := by
  unfold wpX_implies
  dsimp only
  exact ax_pt1 hp (af_i1 (ax_pt0 h (af_i0 hh)))
theorem ax_implies1 {p q : Nat} (hI : ax_I R sr si sz og) (hp : p < 8) (hq : q < 8) (h1 : (∀ e, e < 2401 → af_Hd R q e → af_Hd R p e) → post 1) (h0 : ¬ (∀ e, e < 2401 → af_Hd R q e → af_Hd R p e) → post 0) : wpX_implies post (c, f, sk, se, sv, sd, sr, fo, si, sz, og) (nI p) (nI q) := by
  unfold wpX_implies
  dsimp only
  exact ax_pt1 hp (af_i1 (ax_pt1 hq (af_i1 ⟨2402, ax_imp18 hI hp hq h1 h0 2401 0 (by decide) (fun e he => by omega)⟩)))
theorem ax_loo6 (hI : ax_I R sr si sz og) (h : ∀ g k, af_V (fun j => af_ct (af_In R j) 343) 8 g k → post (nI k)) : ∀ d j g k : Nat, j + d = 8 → af_V (fun j => af_ct (af_In R j) 343) j g k → (0 < j ∨ g = 0) → g ≤ 343 → wX_loosest_6 post c f sk se sv sd sr fo si sz og (d + 1) (nI g) (nI k) (nI j) := by
  intro d
  induction d with
  | zero =>
    intro j g k hj hV hg hb
    have e : j = 8 := by omega
    subst e
    exact br_t (nI_le (a := 8) (b := 8) (by decide) (by decide)) (h g k hV)
  | succ d ih =>
    intro j g k hj hV hg hb
    have hj8 : j < 8 := by omega
    have hin : vp_in (nI j) 8 := vp_in_nI hj8 (by decide)
    have hle := af_ct_le (af_In R j) 343
    refine br_f (nI_ge (a := j) (b := 8) (by omega) (by decide)) ⟨hin, ?_⟩
    unfold wX_loosest_31
    rw [nI_clamp (by omega), ax_size hI hj8]
    refine pk_le (af_ct (af_In R j) 343) g (fun z => ⟨hin, ?_⟩) (fun z => ⟨hin, nm_e ⟨hin, ?_⟩⟩)
    · refine pk_eq (af_ct (af_In R j) 343) g (fun e => ?_) (fun e => ?_)
      · exact nm_r (nI_1 k) (nm_r (nI_1 j) (ih (j + 1) g (k + 1) (by omega) (af_V_eq hV e) (Or.inl (by omega)) hb))
      · have hj0 : 0 < j := by
          rcases hg with hg | hg
          · exact hg
          · omega
        exact nm_r (nI_1 j) (ih (j + 1) g k (by omega) (af_V_lt hV (show af_ct (af_In R j) 343 < g by omega) hj0) (Or.inl (by omega)) hb)
    · refine br_t rfl ?_
      exact nm_r (nI_1 0) (nm_r (nI_1 j) (ih (j + 1) _ 1 (by omega) (af_V_gt hV z) (Or.inl (by omega)) hle))
theorem ax_loosest (hI : ax_I R sr si sz og) (h : ∀ g k, af_V (fun j => af_ct (af_In R j) 343) 8 g k → post (nI k)) : wpX_loosest post (c, f, sk, se, sv, sd, sr, fo, si, sz, og) :=
  ⟨9, ax_loo6 hI h 8 0 0 0 (by decide) ⟨fun i hi => by omega, fun hj => by omega, rfl⟩ (Or.inr rfl) (by decide)⟩
end
