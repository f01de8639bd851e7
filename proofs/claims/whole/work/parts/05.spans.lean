/-- an equation holds at a point -/
def af_Hd (R : Nat → Prop) (p e : Nat) : Prop := ∀ t, t < 343 → R (343 * p + t) → af_kp e t
/-- a triple lies in the span of a point -/
def af_In (R : Nat → Prop) (p t : Nat) : Prop := ∀ e, e < 2401 → af_Hd R p e → af_kp e t
theorem af_In_R {R : Nat → Prop} {p t : Nat} (ht : t < 343) (h : R (343 * p + t)) : af_In R p t := fun _ _ hd => hd t ht h
/-- what the tables of a point say, the states below x being done -/
def ax_P (R : Nat → Prop) (p x : Nat) (si sz og : Nat → Int32) : Prop :=
  sz p = nI (af_ct (fun t => ¬ si (343 * p + t) = 0) 343) ∧ (∀ t, t < 343 → ¬ si (343 * p + t) = 0 → af_In R p t) ∧ (∀ t, t < 343 → 343 * p + t < x → R (343 * p + t) → ¬ si (343 * p + t) = 0) ∧ af_Sep (fun t => ¬ si (343 * p + t) = 0) ∧ ((∀ t, t < 343 → si (343 * p + t) = 0) ∨ ∃ o, o < 343 ∧ og p = nI o ∧ ¬ si (343 * p + o) = 0)
theorem ax_P_congr {R : Nat → Prop} {p x : Nat} {si sz og si' sz' og' : Nat → Int32} (h1 : ∀ t, t < 343 → si' (343 * p + t) = si (343 * p + t)) (h2 : sz' p = sz p) (h3 : og' p = og p) (h : ax_P R p x si sz og) : ax_P R p x si' sz' og' := by
  obtain ⟨a, b, c, d, e⟩ := h
  refine ⟨?_, fun t ht hne => b t ht (by rw [← h1 t ht]; exact hne), fun t ht hx hr => by rw [h1 t ht]; exact c t ht hx hr, ?_, ?_⟩
  · rw [h2, a]
    exact congrArg nI (af_ct_congr 343 (fun i hi => by rw [h1 i hi]))
  · intro t ht hn
    obtain ⟨q, hq, ha, hb⟩ := d t ht (by dsimp only; rw [← h1 t ht]; exact hn)
    exact ⟨q, hq, fun y hy hne => ha y hy (by dsimp only; rw [← h1 y hy]; exact hne), hb⟩
  · rcases e with e | ⟨o, ho, eo, hne⟩
    · exact Or.inl (fun t ht => by rw [h1 t ht]; exact e t ht)
    · exact Or.inr ⟨o, ho, by rw [h3]; exact eo, by rw [h1 o ho]; exact hne⟩
theorem ax_P_up {R : Nat → Prop} {p x : Nat} {si sz og : Nat → Int32} (h : ax_P R p x si sz og) (hx : R x → ¬ si x = 0) : ax_P R p (x + 1) si sz og := by
  obtain ⟨a, b, c, d, e⟩ := h
  refine ⟨a, b, fun t ht hlt hr => ?_, d, e⟩
  by_cases q : 343 * p + t = x
  · rw [q] at hr ⊢; exact hx hr
  · exact c t ht (by omega) hr
/-- while a span is widened: what is marked -/
def ax_M (A : Nat → Prop) (p o w : Nat) (si0 : Nat → Int32) (j : Nat) (si : Nat → Int32) : Prop :=
  (∀ x, (x < 343 * p ∨ 343 * p + 343 ≤ x) → si x = si0 x) ∧ (∀ t, t < 343 → A t → ¬ si (343 * p + t) = 0) ∧ (∀ t, t < 343 → ¬ si (343 * p + t) = 0 → af_Wd A o w t) ∧ (∀ a, a < j → a < 343 → A a → ∀ s, s < 7 → ¬ si (343 * p + af_sh a s o w) = 0)
section
variable {post : SX → Prop} {c f : Int32} {sk se sv sd sr fo si sz og : Nat → Int32}
theorem ax_65 {J : Int32 → (Nat → Int32) → (Nat → Int32) → (Nat → Int32) → (Nat → Int32) → (Nat → Int32) → (Nat → Int32) → (Nat → Int32) → (Nat → Int32) → (Nat → Int32) → Prop} {A : Nat → Prop} {p o w a : Nat} {si0 : Nat → Int32} (hp : p < 8) (ho : o < 343) (hw : w < 343) (ha : a < 343) (hog : og p = nI o) (hW : af_Wd A o w a) (h : ∀ si', ax_M A p o w si0 (a + 1) si' → J (nI (a + 1)) sk se sv sd sr fo si' sz og) : ∀ (d j : Nat) (si : Nat → Int32), j + d = 7 → 1 ≤ j → ax_M A p o w si0 a si → (∀ s, 1 ≤ s → s < j → ¬ si (343 * p + af_sh a s o w) = 0) → wX_widenSpan_65 post J (nI p) (nI w) (nI (343 * p)) (nI a) c f (d + 1) (nI j) sk se sv sd sr fo si sz og := by
  intro d
  induction d with
  | zero =>
    intro j si hj h1 hM hs
    have e : j = 7 := by omega
    subst e
    refine br_t (nI_le (a := 7) (b := 7) (by decide) (by decide)) (nm_r (nI_1 a) (h si ⟨hM.1, hM.2.1, hM.2.2.1, fun a' ha' h343 hA s hs7 => ?_⟩))
    by_cases e : a' = a
    · subst e
      by_cases e0 : s = 0
      · subst e0
        rw [af_sh_0 h343]
        exact hM.2.1 a' h343 hA
      · exact hs s (by omega) hs7
    · exact hM.2.2.2 a' (by omega) h343 hA s hs7
  | succ d ih =>
    intro j si hj h1 hM hs
    have hcl : (nI p).toNatClampNeg = p := nI_clamp (by omega)
    refine br_f (nI_ge (a := j) (b := 7) (by omega) (by decide)) ⟨vp_in_nI hp (by decide), ?_⟩
    rw [hcl, hog]
    refine ax_shifted ha (by omega) ho hw ?_
    have hl := af_sh_lt a j o w
    rw [nI_add, nI_clamp (by omega), af_b1]
    refine ⟨vp_in_nI (by omega) (by decide), nm_e (nm_r (nI_1 j) (ih (j + 1) _ (by omega) (by omega) ⟨fun x hx => ?_, fun t ht hA => af_upd_ne.mpr (Or.inl (hM.2.1 t ht hA)), fun t ht hne => ?_, fun a' ha' h343 hA s hs7 => af_upd_ne.mpr (Or.inl (hM.2.2.2 a' ha' h343 hA s hs7))⟩ (fun s hs1 hsj => ?_)))⟩
    · rw [pk_un (by omega)]; exact hM.1 x hx
    · rcases af_upd_ne.mp hne with z | z
      · exact hM.2.2.1 t ht z
      · have e : t = af_sh a j o w := by omega
        rw [e]
        exact af_wd_sh hW
    · by_cases e : s = j
      · subst e; exact af_upd_ne.mpr (Or.inr rfl)
      · exact af_upd_ne.mpr (Or.inl (hs s hs1 (by omega)))
theorem ax_42 {A : Nat → Prop} {p o w m : Nat} {si0 : Nat → Int32} (hp : p < 8) (ho : o < 343) (hw : w < 343) (hog : og p = nI o) (hsz : sz p = nI m) (h : ∀ si', (∀ x, (x < 343 * p ∨ 343 * p + 343 ≤ x) → si' x = si0 x) → (∀ t, t < 343 → (¬ si' (343 * p + t) = 0 ↔ af_Wd A o w t)) → post (c, f, sk, se, sv, sd, sr, fo, si', upd sz p (nI (m * 7)), og)) : ∀ (d j : Nat) (si : Nat → Int32), j + d = 343 → ax_M A p o w si0 j si → wX_widenSpan_42 post (nI p) (nI w) (nI (343 * p)) c f (d + 1) (nI j) sk se sv sd sr fo si sz og := by
  have hcl : (nI p).toNatClampNeg = p := nI_clamp (by omega)
  intro d
  induction d with
  | zero =>
    intro j si hj hM
    have e : j = 343 := by omega
    subst e
    refine br_t (nI_le (a := 343) (b := 343) (by decide) (by decide)) ⟨vp_in_nI hp (by decide), vp_in_nI hp (by decide), ?_⟩
    rw [hcl, hsz, show nI m * 7 = nI (m * 7) from pk_mul m 7]
    refine nm_e (h si hM.1 (fun t ht => ⟨hM.2.2.1 t ht, fun hW => ?_⟩))
    obtain ⟨a, ha, hA, s, hs, rfl⟩ := hW
    exact hM.2.2.2 a ha ha hA s hs
  | succ d ih =>
    intro j si hj hM
    refine br_f (nI_ge (a := j) (b := 343) (by omega) (by decide)) ?_
    rw [nI_add, nI_clamp (by omega)]
    refine ⟨vp_in_nI (by omega) (by decide), br_c (fun hz => nm_r (nI_1 j) (ih (j + 1) si (by omega) ⟨hM.1, hM.2.1, hM.2.2.1, fun a' ha' h343 hA s hs7 => ?_⟩)) (fun hz => ⟨7, ?_⟩)⟩
    · by_cases e : a' = j
      · subst e; exact absurd hz (hM.2.1 a' h343 hA)
      · exact hM.2.2.2 a' (by omega) h343 hA s hs7
    · exact ax_65 hp ho hw (by omega) hog (hM.2.2.1 j (by omega) hz) (fun si' hM' => ih (j + 1) si' (by omega) hM') 6 1 si (by decide) (by decide) hM (fun s h1 h2 => by omega)
theorem ax_widen {R : Nat → Prop} {p w : Nat} (hp : p < 8) (hw : w < 343) (hR : R (343 * p + w)) (hz : si (343 * p + w) = 0) (hP : ax_P R p (343 * p + w) si sz og) (h : ∀ si' sz' og', (∀ q, q < 8 → q ≠ p → sz' q = sz q ∧ og' q = og q ∧ ∀ t, t < 343 → si' (343 * q + t) = si (343 * q + t)) → ax_P R p (343 * p + w + 1) si' sz' og' → post (c, f, sk, se, sv, sd, sr, fo, si', sz', og')) : wpX_widenSpan post (c, f, sk, se, sv, sd, sr, fo, si, sz, og) (nI p) (nI w) := by
  have hcl : (nI p).toNatClampNeg = p := nI_clamp (by omega)
  have hin : vp_in (nI p) 8 := vp_in_nI hp (by decide)
  have hle := af_ct_le (fun t => ¬ si (343 * p + t) = 0) 343
  obtain ⟨h1, h2, h3, h4, h5⟩ := hP
  have hpos : (∃ t, t < 343 ∧ ¬ si (343 * p + t) = 0) → 0 < af_ct (fun t => ¬ si (343 * p + t) = 0) 343 := fun ⟨t, ht, hne⟩ => af_ct_pos ht hne
  unfold wpX_widenSpan
  dsimp only
  rw [hcl, af_343m, h1, af_b1]
  refine nm_e ⟨hin, pk_eq (af_ct (fun t => ¬ si (343 * p + t) = 0) 343) 0 (fun e => ⟨hin, ?_⟩) (fun e => ?_)⟩
  · have hno : ∀ t, t < 343 → si (343 * p + t) = 0 := fun t ht => Classical.byContradiction fun k => by
      have := hpos ⟨t, ht, k⟩
      omega
    rw [nI_add, nI_clamp (by omega)]
    refine nm_e ⟨hin, nm_e ⟨vp_in_nI (by omega) (by decide), nm_e (h _ _ _ (fun q hq hqp => ⟨pk_un hqp, pk_un hqp, fun t ht => pk_un (by omega)⟩) ?_)⟩⟩
    have hA : ∀ t, t < 343 → (¬ upd si (343 * p + w) 1 (343 * p + t) = 0 ↔ t = w) := fun t ht => by
      rw [af_upd_ne]
      exact ⟨fun z => z.elim (fun z => absurd (hno t ht) z) (fun z => by omega), fun z => Or.inr (by omega)⟩
    have hct : af_ct (fun t => ¬ upd si (343 * p + w) 1 (343 * p + t) = 0) 343 = 1 := by
      have q := af_ct_add1 (P := fun _ => False) (Q := fun t => t = w) (j := w) (fun z => z) (fun i => ⟨fun z => Or.inr z, fun z => z.elim (fun z => z.elim) (fun z => z)⟩) 343 hw
      rw [af_ct_zero 343 (fun _ _ z => z)] at q
      rw [af_ct_congr (Q := fun t => t = w) 343 hA, q]
    refine ⟨?_, fun t ht hne => ?_, fun t ht hlt hr => ?_, af_sep_one hw hA, Or.inr ⟨w, hw, pk_us, (hA w hw).mpr rfl⟩⟩
    · rw [pk_us, hct]; rfl
    · rw [(hA t ht).mp hne]; exact af_In_R hw hR
    · by_cases e' : t = w
      · exact (hA t ht).mpr e'
      · exact absurd (hno t ht) (h3 t ht (by omega) hr)
  · rcases h5 with h5 | ⟨o, ho, hog, hne⟩
    · exact absurd (af_ct_zero 343 (fun i hi k => k (h5 i hi))) e
    refine ⟨344, ax_42 (A := fun t => ¬ si (343 * p + t) = 0) (si0 := si) (m := af_ct (fun t => ¬ si (343 * p + t) = 0) 343) hp ho hw hog h1 (fun si' ho' hW => ?_) 343 0 si (by decide) ⟨fun _ _ => rfl, fun t _ k => k, fun t ht k => af_wd_in ht k, fun a ha => by omega⟩⟩
    refine h si' _ og (fun q hq hqp => ⟨pk_un hqp, rfl, fun t ht => ho' _ (by omega)⟩) ?_
    have hnw : ¬ (fun t => ¬ si (343 * p + t) = 0) w := fun k => k hz
    have hS := af_sep_wd h4 ho hw hne hnw
    have hC := af_ct_wd h4 ho hw hne hnw
    refine ⟨?_, fun t ht k q hq hd => ?_, fun t ht hlt hr => ?_, fun t ht k => ?_, Or.inr ⟨o, ho, hog, (hW o ho).mpr (af_wd_in ho hne)⟩⟩
    · rw [pk_us, af_ct_congr (Q := af_Wd (fun t => ¬ si (343 * p + t) = 0) o w) 343 hW, hC, Nat.mul_comm]
    · exact af_wd_kp (fun a ha hA => h2 a ha hA q hq hd) (h2 o ho hne q hq hd) (hd w hw hR) ((hW t ht).mp k)
    · by_cases e' : t = w
      · subst e'; exact (hW t ht).mpr (af_wd_w ho ht hne)
      · exact (hW t ht).mpr (af_wd_in ht (h3 t ht (by omega) hr))
    · obtain ⟨q, hq, ha, hb⟩ := hS t ht (fun z => k ((hW t ht).mpr z))
      exact ⟨q, hq, fun a ha' hA => ha a ha' ((hW a ha').mp hA), hb⟩
theorem ax_45 {R : Nat → Prop} (hR : ∀ s, s < 2744 → (¬ sr s = 0 ↔ R s)) (h : ∀ si' sz' og', (∀ p, p < 8 → ax_P R p 2744 si' sz' og') → post (c, f, sk, se, sv, sd, sr, fo, si', sz', og')) : ∀ (d x : Nat) (si sz og : Nat → Int32), x + d = 2744 → (∀ p, p < 8 → ax_P R p x si sz og) → wX_findSpans_45 post (d + 1) (nI x) c f sk se sv sd sr fo si sz og := by
  intro d
  induction d with
  | zero =>
    intro x si sz og hx hP
    have e : x = 2744 := by omega
    subst e
    exact br_t (nI_le (a := 2744) (b := 2744) (by decide) (by decide)) (h si sz og hP)
  | succ d ih =>
    intro x si sz og hx hP
    have hcl : (nI x).toNatClampNeg = x := nI_clamp (by omega)
    have hin : vp_in (nI x) 2744 := vp_in_nI (by omega) (by decide)
    refine br_f (nI_ge (a := x) (b := 2744) (by omega) (by decide)) ⟨hin, ?_⟩
    rw [hcl]
    refine br_c (fun hz => nm_r (nI_1 x) (ih (x + 1) si sz og (by omega) (fun p hp => ax_P_up (hP p hp) (fun r => absurd hz ((hR x (by omega)).mpr r))))) (fun hz => ⟨hin, br_c (fun hs => ⟨by decide, ?_⟩) (fun hs => nm_r (nI_1 x) (ih (x + 1) si sz og (by omega) (fun p hp => ax_P_up (hP p hp) (fun _ => hs))))⟩)
    refine nm_r (af_d343 (by omega)) ⟨by decide, nm_r (af_r343 (by omega)) ?_⟩
    have ex : 343 * (x / 343) + x % 343 = x := by omega
    have hp8 : x / 343 < 8 := by omega
    refine ax_widen (R := R) hp8 (by omega) (by rw [ex]; exact (hR x (by omega)).mp hz) (by rw [ex]; exact hs) (by rw [ex]; exact hP _ hp8) (fun si' sz' og' ho hP' => ?_)
    rw [ex] at hP'
    refine nm_r (nI_1 x) (ih (x + 1) si' sz' og' (by omega) (fun p hp => ?_))
    by_cases e : p = x / 343
    · subst e; exact hP'
    · obtain ⟨o1, o2, o3⟩ := ho p hp e
      refine ax_P_congr o3 o1 o2 ?_
      obtain ⟨a1, a2, a3, a4, a5⟩ := hP p hp
      exact ⟨a1, a2, fun t ht hlt hr => a3 t ht (by omega) hr, a4, a5⟩
theorem ax_23 {R : Nat → Prop} (hR : ∀ s, s < 2744 → (¬ sr s = 0 ↔ R s)) (hsz : ∀ p, p < 8 → sz p = 0) (h : ∀ si' sz' og', (∀ p, p < 8 → ax_P R p 2744 si' sz' og') → post (c, f, sk, se, sv, sd, sr, fo, si', sz', og')) : ∀ (d x : Nat) (si : Nat → Int32), x + d = 2744 → (∀ s, s < x → si s = 0) → wX_findSpans_23 post c f (d + 1) (nI x) sk se sv sd sr fo si sz og := by
  intro d
  induction d with
  | zero =>
    intro x si hx hz
    have e : x = 2744 := by omega
    subst e
    refine br_t (nI_le (a := 2744) (b := 2744) (by decide) (by decide)) ⟨2745, ax_45 hR h 2744 0 si sz og (by decide) (fun p hp => ?_)⟩
    have hno : ∀ t, t < 343 → si (343 * p + t) = 0 := fun t ht => hz _ (by omega)
    refine ⟨?_, fun t ht k => absurd (hno t ht) k, fun t ht hlt => by omega, af_sep_none (fun t ht k => k (hno t ht)), Or.inl hno⟩
    rw [hsz p hp, af_ct_zero 343 (fun i hi k => k (hno i hi))]
    rfl
  | succ d ih =>
    intro x si hx hz
    have hcl : (nI x).toNatClampNeg = x := nI_clamp (by omega)
    refine br_f (nI_ge (a := x) (b := 2744) (by omega) (by decide)) ⟨vp_in_nI (by omega) (by decide), ?_⟩
    rw [hcl, af_b0]
    refine nm_e (nm_r (nI_1 x) (ih (x + 1) _ (by omega) (fun s hs => ?_)))
    by_cases e : s = x
    · subst e; exact pk_us
    · rw [pk_un e]; exact hz s (by omega)
theorem ax_fs2 {R : Nat → Prop} (hR : ∀ s, s < 2744 → (¬ sr s = 0 ↔ R s)) (h : ∀ si' sz' og', (∀ p, p < 8 → ax_P R p 2744 si' sz' og') → post (c, f, sk, se, sv, sd, sr, fo, si', sz', og')) : ∀ (d x : Nat) (sz : Nat → Int32), x + d = 8 → (∀ p, p < x → sz p = 0) → wX_findSpans_2 post c f (d + 1) (nI x) sk se sv sd sr fo si sz og := by
  intro d
  induction d with
  | zero =>
    intro x sz hx hz
    have e : x = 8 := by omega
    subst e
    exact br_t (nI_le (a := 8) (b := 8) (by decide) (by decide)) ⟨2745, ax_23 hR hz h 2744 0 si (by decide) (fun s hs => by omega)⟩
  | succ d ih =>
    intro x sz hx hz
    have hcl : (nI x).toNatClampNeg = x := nI_clamp (by omega)
    refine br_f (nI_ge (a := x) (b := 8) (by omega) (by decide)) ⟨vp_in_nI (by omega) (by decide), ?_⟩
    rw [hcl]
    refine nm_e (nm_r (nI_1 x) (ih (x + 1) _ (by omega) (fun s hs => ?_)))
    by_cases e : s = x
    · subst e; exact pk_us
    · rw [pk_un e]; exact hz s (by omega)
/-- what X's tables say -/
def ax_I (R : Nat → Prop) (sr si sz og : Nat → Int32) : Prop := (∀ s, s < 2744 → (¬ sr s = 0 ↔ R s)) ∧ ∀ p, p < 8 → ax_P R p 2744 si sz og
theorem ax_follow {n : Nat} {E K F : Nat → Nat} (hSt : af_St n E K F) (hS : ax_S n E K F c sk se sv sd) (h : ∀ f' sr' fo' si' sz' og', ax_I (af_Rc n E K F) sr' si' sz' og' → post (c, f', sk, se, sv, sd, sr', fo', si', sz', og')) : wpX_followSteps post (c, f, sk, se, sv, sd, sr, fo, si, sz, og) := by
  unfold wpX_followSteps
  dsimp only
  refine ax_find hSt hS (fun sr' fo' f' hR => ?_)
  exact ⟨9, ax_fs2 hR (fun si' sz' og' hP => h f' sr' fo' si' sz' og' ⟨hR, hP⟩) 8 0 sz (by decide) (fun p hp => by omega)⟩
end
