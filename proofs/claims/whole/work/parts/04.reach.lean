/-- what a step of kind k with formula F makes of a triple -/
def af_Sc (k F t t' : Nat) : Prop := (k = 6 ∧ t' = t) ∨ (k < 3 ∧ t' = af_wv t k ((af_lf F t + F / 343) % 7)) ∨ (3 ≤ k ∧ k < 6 ∧ ∃ v, v < 7 ∧ t' = af_wv t (k - 3) v)
/-- a set of states with the beginning in it, closed under the steps -/
def af_Cl (n : Nat) (E K F : Nat → Nat) (P : Nat → Prop) : Prop := P 0 ∧ ∀ i, i < n → ∀ t, t < 343 → P (343 * (E i % 8) + t) → ∀ t', af_Sc (K i) (F i) t t' → P (343 * (E i / 8) + t')
/-- reached -/
def af_Rc (n : Nat) (E K F : Nat → Nat) (s : Nat) : Prop := ∀ P : Nat → Prop, af_Cl n E K F P → P s
/-- the steps are within their bounds -/
def af_St (n : Nat) (E K F : Nat → Nat) : Prop := n ≤ 12 ∧ ∀ i, i < n → E i < 64 ∧ K i < 7 ∧ F i < 2401
theorem af_Rc_0 {n : Nat} {E K F : Nat → Nat} : af_Rc n E K F 0 := fun _ h => h.1
theorem af_Rc_s {n : Nat} {E K F : Nat → Nat} {i t t' : Nat} (hi : i < n) (ht : t < 343) (h : af_Rc n E K F (343 * (E i % 8) + t)) (hs : af_Sc (K i) (F i) t t') : af_Rc n E K F (343 * (E i / 8) + t') :=
  fun P hP => hP.2 i hi t ht (h P hP) t' hs
theorem af_Sc_lt {k F t t' : Nat} (ht : t < 343) (h : af_Sc k F t t') : t' < 343 := by
  rcases h with ⟨_, rfl⟩ | ⟨_, rfl⟩ | ⟨_, _, v, hv, rfl⟩
  · exact ht
  · exact af_wv_lt ht (by omega)
  · exact af_wv_lt ht hv
/-- X's number of a kind, and its variable -/
def af_kd (k : Nat) : Nat := if k < 3 then 0 else if k < 6 then 1 else 2
def ax_S (n : Nat) (E K F : Nat → Nat) (c : Int32) (sk se sv sd : Nat → Int32) : Prop := c = nI n ∧ ∀ i, i < n → se i = nI (E i) ∧ sk i = nI (af_kd (K i)) ∧ sv i = nI (K i % 3) ∧ sd i = nI (F i)
def ax_B (n : Nat) (E K F : Nat → Nat) (sr fo : Nat → Int32) (fc : Nat) : Prop := fc = af_ct (fun s => ¬ sr s = 0) 2744 ∧ (∀ s, s < 2744 → ¬ sr s = 0 → af_Rc n E K F s ∧ ∃ j, j < fc ∧ fo j = nI s) ∧ (∀ j, j < fc → ∃ s, s < 2744 ∧ fo j = nI s ∧ ¬ sr s = 0)
def ax_X (sr fo : Nat → Int32) (fc : Nat) (sr' fo' : Nat → Int32) (fc' : Nat) : Prop := fc ≤ fc' ∧ (∀ j, j < fc → fo' j = fo j) ∧ ∀ x, ¬ sr x = 0 → ¬ sr' x = 0
theorem ax_X_rf {sr fo : Nat → Int32} {fc : Nat} : ax_X sr fo fc sr fo fc := ⟨Nat.le_refl _, fun _ _ => rfl, fun _ h => h⟩
theorem ax_X_tr {sr fo sr' fo' sr'' fo'' : Nat → Int32} {fc fc' fc'' : Nat} (h : ax_X sr fo fc sr' fo' fc') (h' : ax_X sr' fo' fc' sr'' fo'' fc'') : ax_X sr fo fc sr'' fo'' fc'' :=
  ⟨Nat.le_trans h.1 h'.1, fun j hj => (h'.2.1 j (Nat.lt_of_lt_of_le hj h.1)).trans (h.2.1 j hj), fun x hx => h'.2.2 x (h.2.2 x hx)⟩
theorem af_upd_ne {a : Nat → Int32} {s x : Nat} : ¬ upd a s 1 x = 0 ↔ (¬ a x = 0 ∨ x = s) := by
  by_cases e : x = s
  · subst e
    rw [pk_us]
    exact ⟨fun _ => Or.inr rfl, fun _ => af_10⟩
  · rw [pk_un e]
    exact ⟨fun h => Or.inl h, fun h => h.resolve_right e⟩
section
variable {n : Nat} {E K F : Nat → Nat} {post : SX → Prop} {c f : Int32} {sk se sv sd sr fo si sz og : Nat → Int32}
theorem ax_enter {fc s : Nat} (hB : ax_B n E K F sr fo fc) (hs : s < 2744) (hR : af_Rc n E K F s) (h : ∀ sr' fo' fc', ax_B n E K F sr' fo' fc' → ax_X sr fo fc sr' fo' fc' → ¬ sr' s = 0 → post (c, nI fc', sk, se, sv, sd, sr', fo', si, sz, og)) : wpX_enter post (c, nI fc, sk, se, sv, sd, sr, fo, si, sz, og) (nI s) := by
  have hc : (nI s).toNatClampNeg = s := nI_clamp (by omega)
  have hle : fc ≤ 2744 := by rw [hB.1]; exact af_ct_le _ _
  have hcf : (nI fc).toNatClampNeg = fc := nI_clamp (by omega)
  unfold wpX_enter
  dsimp only
  rw [hc, hcf, af_b1]
  refine ⟨vp_in_nI hs (by decide), br_c (fun hz => ?_) (fun hz => h sr fo fc hB ax_X_rf hz)⟩
  have hlt : fc < 2744 := by rw [hB.1]; exact af_ct_top hs (fun k => k hz)
  refine br_f (nI_ge hlt (by decide)) ⟨vp_in_nI hs (by decide), fun a ea => ⟨vp_in_nI hlt (by decide), fun b eb x ex => ?_⟩⟩
  rw [ea, eb, ex, nI_1]
  refine h (upd sr s 1) (upd fo fc (nI s)) (fc + 1) ⟨?_, ?_, ?_⟩ ⟨by omega, fun j hj => pk_un (by omega), fun x hx => af_upd_ne.mpr (Or.inl hx)⟩ (af_upd_ne.mpr (Or.inr rfl))
  · rw [af_ct_add1 (P := fun s => ¬ sr s = 0) (Q := fun x => ¬ upd sr s 1 x = 0) (j := s) (fun k => k hz) (fun i => af_upd_ne) 2744 hs, ← hB.1]
  · intro x hx hne
    by_cases e : x = s
    · subst e
      exact ⟨hR, fc, by omega, pk_us⟩
    · obtain ⟨r, j, hj, ej⟩ := hB.2.1 x hx ((af_upd_ne.mp hne).resolve_right e)
      exact ⟨r, j, by omega, (pk_un (by omega)).trans ej⟩
  · intro j hj
    by_cases e : j = fc
    · subst e
      exact ⟨s, hs, pk_us, af_upd_ne.mpr (Or.inr rfl)⟩
    · obtain ⟨x, hx, ex, hne⟩ := hB.2.2 j (by omega)
      exact ⟨x, hx, (pk_un e).trans ex, af_upd_ne.mpr (Or.inl hne)⟩
theorem ax_take100 {sr0 fo0 : Nat → Int32} {fc0 T t k : Nat} (hT : T ≤ 2401) (ht : t < 343) (hk : k < 3) (hR : ∀ v, v < 7 → af_Rc n E K F (T + af_wv t k v)) (h : ∀ sr' fo' fc', ax_B n E K F sr' fo' fc' → ax_X sr0 fo0 fc0 sr' fo' fc' → (∀ v, v < 7 → ¬ sr' (T + af_wv t k v) = 0) → post (c, nI fc', sk, se, sv, sd, sr', fo', si, sz, og)) : ∀ (d j : Nat) (sr fo : Nat → Int32) (fc : Nat), j + d = 7 → ax_B n E K F sr fo fc → ax_X sr0 fo0 fc0 sr fo fc → (∀ v, v < j → ¬ sr (T + af_wv t k v) = 0) → wX_takeStep_100 post (nI t) (nI T) (nI k) (d + 1) (nI j) c (nI fc) sk se sv sd sr fo si sz og := by
  intro d
  induction d with
  | zero =>
    intro j sr fo fc hj hB hX hv
    have e : j = 7 := by omega
    subst e
    exact br_t (nI_le (a := 7) (b := 7) (by decide) (by decide)) (h sr fo fc hB hX hv)
  | succ d ih =>
    intro j sr fo fc hj hB hX hv
    refine br_f (nI_ge (a := j) (b := 7) (by omega) (by decide)) (ax_with ht hk (by omega) ?_)
    rw [nI_add]
    have hw := af_wv_lt (t := t) (k := k) (v := j) ht (by omega)
    refine ax_enter hB (by omega) (hR j (by omega)) (fun sr' fo' fc' b x m => ?_)
    refine nm_r (nI_1 j) (ih (j + 1) sr' fo' fc' (by omega) b (ax_X_tr hX x) (fun v hvj => ?_))
    by_cases e : v = j
    · subst e; exact m
    · exact x.2.2 _ (hv v (by omega))
theorem ax_takeStep {fc i t : Nat} (hSt : af_St n E K F) (hS : ax_S n E K F c sk se sv sd) (hB : ax_B n E K F sr fo fc) (hi : i < n) (ht : t < 343) (hR : af_Rc n E K F (343 * (E i % 8) + t)) (h : ∀ sr' fo' fc', ax_B n E K F sr' fo' fc' → ax_X sr fo fc sr' fo' fc' → (∀ t', af_Sc (K i) (F i) t t' → ¬ sr' (343 * (E i / 8) + t') = 0) → post (c, nI fc', sk, se, sv, sd, sr', fo', si, sz, og)) : wpX_takeStep post (c, nI fc, sk, se, sv, sd, sr, fo, si, sz, og) (nI i) (nI t) := by
  obtain ⟨hn, hE⟩ := hSt
  obtain ⟨e1, e2, e3⟩ := hE i hi
  obtain ⟨s1, s2, s3, s4⟩ := hS.2 i hi
  have hcl : (nI i).toNatClampNeg = i := nI_clamp (by omega)
  have hin : vp_in (nI i) 12 := vp_in_nI (by omega) (by decide)
  unfold wpX_takeStep
  dsimp only
  rw [hcl, s1, s2, s3, s4]
  refine ⟨hin, by decide, nm_r (e' := nI (343 * (E i / 8))) (by rw [af_d8 (by omega), af_343m]) ⟨hin, nm_e ⟨hin, ?_⟩⟩⟩
  by_cases k6 : K i = 6
  · have hk : af_kd (K i) = 2 := by rw [k6]; rfl
    rw [hk]
    refine br_t rfl ?_
    rw [nI_add]
    refine ax_enter hB (by omega) (af_Rc_s hi ht hR (Or.inl ⟨k6, rfl⟩)) (fun sr' fo' fc' b x m => h sr' fo' fc' b x (fun t' ht' => ?_))
    rcases ht' with ⟨_, rfl⟩ | ⟨z, _⟩ | ⟨_, z, _⟩
    · exact m
    · omega
    · omega
  · by_cases k3 : K i < 3
    · have hk : af_kd (K i) = 0 := by unfold af_kd; rw [if_pos k3]
      have hm : K i % 3 = K i := Nat.mod_eq_of_lt k3
      rw [hk, hm]
      refine br_f (show ¬ nI 0 = nI 2 by decide) ⟨hin, br_t rfl ⟨hin, nm_e (ax_left e3 ht (ax_right e3 ⟨by decide, ?_⟩))⟩⟩
      have em : F i / 343 % 7 = F i / 343 := Nat.mod_eq_of_lt (by omega)
      refine nm_r (e' := nI ((af_lf (F i) t + F i / 343) % 7)) (by rw [nI_add, af_r7 (by omega), em]; exact congrArg nI (by omega)) ?_
      refine ax_with ht k3 (by omega) ?_
      rw [nI_add]
      have hw := af_wv_lt (t := t) (k := K i) (v := (af_lf (F i) t + F i / 343) % 7) ht (by omega)
      refine ax_enter hB (by omega) (af_Rc_s hi ht hR (Or.inr (Or.inl ⟨k3, rfl⟩))) (fun sr' fo' fc' b x m => h sr' fo' fc' b x (fun t' ht' => ?_))
      rcases ht' with ⟨z, _⟩ | ⟨_, rfl⟩ | ⟨z, _⟩
      · omega
      · exact m
      · omega
    · have hk : af_kd (K i) = 1 := by unfold af_kd; rw [if_neg k3, if_pos (by omega)]
      have hm : K i % 3 = K i - 3 := by omega
      rw [hk, hm]
      refine br_f (show ¬ nI 1 = nI 2 by decide) ⟨hin, br_f (show ¬ nI 1 = nI 0 by decide) ⟨8, ?_⟩⟩
      refine ax_take100 (n := n) (E := E) (K := K) (F := F) (sr0 := sr) (fo0 := fo) (fc0 := fc) (by omega) ht (by omega) (fun v hv => af_Rc_s hi ht hR (Or.inr (Or.inr ⟨by omega, by omega, v, hv, rfl⟩))) (fun sr' fo' fc' b x m => h sr' fo' fc' b x (fun t' ht' => ?_)) 7 0 sr fo fc (by omega) hB ax_X_rf (fun v hv => by omega)
      rcases ht' with ⟨z, _⟩ | ⟨z, _⟩ | ⟨_, _, v, hv, rfl⟩
      · omega
      · omega
      · exact m v hv
/-- all that the steps make of a state is marked -/
def ax_D (n : Nat) (E K F : Nat → Nat) (sr : Nat → Int32) (p t : Nat) : Nat → Prop := fun j => ∀ i, i < j → E i % 8 = p → ∀ t', af_Sc (K i) (F i) t t' → ¬ sr (343 * (E i / 8) + t') = 0
theorem ax_74 {J : Int32 → Int32 → Int32 → (Nat → Int32) → (Nat → Int32) → (Nat → Int32) → (Nat → Int32) → (Nat → Int32) → (Nat → Int32) → (Nat → Int32) → (Nat → Int32) → (Nat → Int32) → Prop} {sr0 fo0 : Nat → Int32} {fc0 x p t : Nat} (hSt : af_St n E K F) (hS : ax_S n E K F c sk se sv sd) (hp : p < 8) (ht : t < 343) (hR : af_Rc n E K F (343 * p + t)) (h : ∀ sr' fo' fc', ax_B n E K F sr' fo' fc' → ax_X sr0 fo0 fc0 sr' fo' fc' → ax_D n E K F sr' p t n → J (nI (x + 1)) c (nI fc') sk se sv sd sr' fo' si sz og) : ∀ (d j : Nat) (sr fo : Nat → Int32) (fc : Nat), j + d = n → ax_B n E K F sr fo fc → ax_X sr0 fo0 fc0 sr fo fc → ax_D n E K F sr p t j → wX_findReachedStates_74 post J (nI x) (nI p) (nI t) (d + 1) (nI j) c (nI fc) sk se sv sd sr fo si sz og := by
  have hn : n ≤ 12 := hSt.1
  have ec := hS.1
  intro d
  induction d with
  | zero =>
    intro j sr fo fc hj hB hX hD
    have e : j = n := by omega
    subst e
    rw [ec]
    refine br_t (nI_le (Nat.le_refl _) (by omega)) (nm_r (nI_1 x) ?_)
    rw [← ec]
    exact h sr fo fc hB hX hD
  | succ d ih =>
    intro j sr fo fc hj hB hX hD
    have hjn : j < n := by omega
    obtain ⟨e1, e2, e3⟩ := hSt.2 j hjn
    obtain ⟨s1, s2, s3, s4⟩ := hS.2 j hjn
    have hcl : (nI j).toNatClampNeg = j := nI_clamp (by omega)
    refine br_f (by rw [ec]; exact nI_ge hjn (by omega)) ⟨vp_in_nI (by omega) (by decide), by decide, ?_⟩
    rw [hcl, s1, af_r8 (by omega)]
    refine pk_eq (E j % 8) p (fun e => ?_) (fun e => ?_)
    · refine ax_takeStep hSt hS hB hjn ht (by rw [e]; exact hR) (fun sr' fo' fc' b x m => ?_)
      refine nm_r (nI_1 j) (ih (j + 1) sr' fo' fc' (by omega) b (ax_X_tr hX x) (fun i hi ei t' ht' => ?_))
      by_cases e' : i = j
      · subst e'; exact m t' ht'
      · exact x.2.2 _ (hD i (by omega) ei t' ht')
    · refine nm_r (nI_1 j) (ih (j + 1) sr fo fc (by omega) hB hX (fun i hi ei t' ht' => ?_))
      by_cases e' : i = j
      · subst e'; exact absurd ei e
      · exact hD i (by omega) ei t' ht'
theorem ax_34 (hSt : af_St n E K F) (hS : ax_S n E K F c sk se sv sd) (h : ∀ sr' fo' f', (∀ s, s < 2744 → (¬ sr' s = 0 ↔ af_Rc n E K F s)) → post (c, f', sk, se, sv, sd, sr', fo', si, sz, og)) : ∀ (d x : Nat) (sr fo : Nat → Int32) (fc : Nat), x + d = 2744 → ax_B n E K F sr fo fc → ¬ sr 0 = 0 → (∀ j, j < x → j < fc → ∀ s, s < 2744 → fo j = nI s → ax_D n E K F sr (s / 343) (s % 343) n) → wX_findReachedStates_34 post (d + 1) (nI x) c (nI fc) sk se sv sd sr fo si sz og := by
  have done : ∀ (x : Nat) (sr fo : Nat → Int32) (fc : Nat), fc ≤ x → ax_B n E K F sr fo fc → ¬ sr 0 = 0 → (∀ j, j < x → j < fc → ∀ s, s < 2744 → fo j = nI s → ax_D n E K F sr (s / 343) (s % 343) n) → post (c, nI fc, sk, se, sv, sd, sr, fo, si, sz, og) := by
    intro x sr fo fc hx hB h0 hD
    refine h sr fo _ (fun s hs => ⟨fun hne => (hB.2.1 s hs hne).1, fun hr => ?_⟩)
    refine (hr (fun s => s < 2744 ∧ ¬ sr s = 0) ⟨⟨by decide, h0⟩, fun i hi t ht hP t' ht' => ?_⟩).2
    have hE := (hSt.2 i hi).1
    have hl := af_Sc_lt ht ht'
    refine ⟨by omega, ?_⟩
    obtain ⟨_, j, hj, ej⟩ := hB.2.1 _ hP.1 hP.2
    refine hD j (by omega) hj _ hP.1 ej i hi (by omega) t' ?_
    rw [show (343 * (E i % 8) + t) % 343 = t from by omega]
    exact ht'
  intro d
  induction d with
  | zero =>
    intro x sr fo fc hx hB h0 hD
    have e : x = 2744 := by omega
    subst e
    have hle : fc ≤ 2744 := by rw [hB.1]; exact af_ct_le _ _
    exact br_t (nI_le (a := 2744) (b := 2744) (by decide) (by decide)) (done 2744 sr fo fc hle hB h0 hD)
  | succ d ih =>
    intro x sr fo fc hx hB h0 hD
    have hle : fc ≤ 2744 := by rw [hB.1]; exact af_ct_le _ _
    have hcl : (nI x).toNatClampNeg = x := nI_clamp (by omega)
    refine br_f (nI_ge (a := x) (b := 2744) (by omega) (by decide)) (pk_le fc x (fun e => done x sr fo fc e hB h0 hD) (fun e => ⟨vp_in_nI (by omega) (by decide), by decide, ?_⟩))
    obtain ⟨s, hs, es, hne⟩ := hB.2.2 x e
    rw [hcl, es]
    refine nm_r (af_d343 (by omega)) ⟨vp_in_nI (by omega) (by decide), by decide, nm_r (af_r343 (by omega)) ⟨n + 1, ?_⟩⟩
    refine ax_74 (sr0 := sr) (fo0 := fo) (fc0 := fc) hSt hS (by omega) (by omega) (by rw [show 343 * (s / 343) + s % 343 = s from by omega]; exact (hB.2.1 s hs hne).1) (fun sr' fo' fc' b x' m => ?_) n 0 sr fo fc (by omega) hB ax_X_rf (fun i hi => by omega)
    refine ih (x + 1) sr' fo' fc' (by omega) b (x'.2.2 0 h0) (fun j hj hjf q hq eq => ?_)
    by_cases e' : j = x
    · subst e'
      rw [x'.2.1 j e, es, nI_eq (by omega) (by omega)] at eq
      subst eq
      exact m
    · rw [x'.2.1 j (by omega)] at eq
      exact fun i hi ei t' ht' => x'.2.2 _ (hD j (by omega) (by omega) q hq eq i hi ei t' ht')
theorem ax_fr2 (hSt : af_St n E K F) (hS : ax_S n E K F c sk se sv sd) (h : ∀ sr' fo' f', (∀ s, s < 2744 → (¬ sr' s = 0 ↔ af_Rc n E K F s)) → post (c, f', sk, se, sv, sd, sr', fo', si, sz, og)) : ∀ (d x : Nat) (sr : Nat → Int32), x + d = 2744 → (∀ s, s < x → sr s = 0) → wX_findReachedStates_2 post c f (d + 1) (nI x) sk se sv sd sr fo si sz og := by
  intro d
  induction d with
  | zero =>
    intro x sr hx hz
    have e : x = 2744 := by omega
    subst e
    refine br_t (nI_le (a := 2744) (b := 2744) (by decide) (by decide)) ?_
    have hB : ax_B n E K F sr fo 0 := ⟨(af_ct_zero 2744 (fun i hi k => k (hz i hi))).symm, fun s hs hne => absurd (hz s hs) hne, fun j hj => by omega⟩
    refine ax_enter (fc := 0) (s := 0) hB (by decide) af_Rc_0 (fun sr' fo' fc' b x m => ⟨2745, ?_⟩)
    exact ax_34 hSt hS h 2744 0 sr' fo' fc' (by decide) b m (fun j hj => by omega)
  | succ d ih =>
    intro x sr hx hz
    have hcl : (nI x).toNatClampNeg = x := nI_clamp (by omega)
    refine br_f (nI_ge (a := x) (b := 2744) (by omega) (by decide)) ⟨vp_in_nI (by omega) (by decide), ?_⟩
    rw [hcl, af_b0]
    refine nm_e (nm_r (nI_1 x) (ih (x + 1) _ (by omega) (fun s hs => ?_)))
    by_cases e : s = x
    · subst e; exact pk_us
    · rw [pk_un e]; exact hz s (by omega)
theorem ax_find (hSt : af_St n E K F) (hS : ax_S n E K F c sk se sv sd) (h : ∀ sr' fo' f', (∀ s, s < 2744 → (¬ sr' s = 0 ↔ af_Rc n E K F s)) → post (c, f', sk, se, sv, sd, sr', fo', si, sz, og)) : wpX_findReachedStates post (c, f, sk, se, sv, sd, sr, fo, si, sz, og) :=
  ⟨2745, ax_fr2 hSt hS h 2744 0 sr (by decide) (fun s hs => by omega)⟩
end
