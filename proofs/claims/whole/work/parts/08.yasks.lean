theorem ay_pt0 {post : Int32 → Prop} {u : SY} {x : Int32} (h : x < 0 ∨ nI 8 ≤ x) (hp : post 0) : wpY_isPoint post u x := ax_is0 8 rfl h hp
theorem ay_pt1 {post : Int32 → Prop} {u : SY} {j : Nat} (h : j < 8) (hp : post 1) : wpY_isPoint post u (nI j) := ax_is1 8 rfl (by decide) h hp
theorem ay_dg0 {post : Int32 → Prop} {u : SY} {x : Int32} (h : x < 0 ∨ nI 2401 ≤ x) (hp : post 0) : wpY_areDigits post u x := ay_c0 2400 rfl (by decide) h hp hp
theorem ay_dg1 {post : Int32 → Prop} {u : SY} {j : Nat} (h : j < 2401) (hp : post 1) : wpY_areDigits post u (nI j) := ay_c1 2400 rfl (by decide) h hp
/-- the equations listed for p, those below x being done -/
def ay_L (R : Nat → Prop) (p x : Nat) (ls : Int32) (ho : Nat → Int32) : Prop := ls = nI (af_ct (af_Hd R p) x) ∧ (∀ j, j < af_ct (af_Hd R p) x → ∃ e, e < x ∧ ho j = nI e ∧ af_Hd R p e) ∧ (∀ e, e < x → af_Hd R p e → ∃ j, j < af_ct (af_Hd R p) x ∧ ho j = nI e)
section
variable {n : Nat} {E K F : Nat → Nat} {post : Int32 → SY → Prop} {ns kw ls : Int32} {en kn fm mk tr cn ho : Nat → Int32}
theorem ay_reached0 {x : Int32} (hSt : af_St n E K F) (hS : ay_S n E K F ns en kn fm) (hI : ay_I (af_Rc n E K F) kw tr cn) (hx : x < 0 ∨ nI 8 ≤ x) (h : ∀ kw' mk' tr' cn', ay_I (af_Rc n E K F) kw' tr' cn' → post 0 (ns, kw', ls, en, kn, fm, mk', tr', cn', ho)) : wpY_reached post (ns, kw, ls, en, kn, fm, mk, tr, cn, ho) x := by
  unfold wpY_reached
  dsimp only
  refine ay_work hSt hS hI (fun kw' mk' tr' cn' hk hK => ?_)
  exact ay_pt0 hx (af_i0 (h kw' mk' tr' cn' (Or.inr ⟨hk, hK⟩)))
theorem ay_reached1 {p : Nat} (hSt : af_St n E K F) (hS : ay_S n E K F ns en kn fm) (hI : ay_I (af_Rc n E K F) kw tr cn) (hp : p < 8) (h1 : (∃ t, t < 343 ∧ af_Rc n E K F (343 * p + t)) → ∀ kw' mk' tr' cn', ay_I (af_Rc n E K F) kw' tr' cn' → post 1 (ns, kw', ls, en, kn, fm, mk', tr', cn', ho)) (h0 : ¬ (∃ t, t < 343 ∧ af_Rc n E K F (343 * p + t)) → ∀ kw' mk' tr' cn', ay_I (af_Rc n E K F) kw' tr' cn' → post 0 (ns, kw', ls, en, kn, fm, mk', tr', cn', ho)) : wpY_reached post (ns, kw, ls, en, kn, fm, mk, tr, cn, ho) (nI p) := by
  unfold wpY_reached
  dsimp only
  refine ay_work hSt hS hI (fun kw' mk' tr' cn' hk hK => ?_)
  obtain ⟨k, e1, e2, e3, e4⟩ := hK p hp
  refine ay_pt1 hp (af_i1 ⟨vp_in_nI hp (by decide), ?_⟩)
  dsimp only
  rw [nI_clamp (by omega), e1]
  refine pk_le k 0 (fun z => h0 (fun q => ?_) _ _ _ _ (Or.inr ⟨hk, hK⟩)) (fun z => h1 ?_ _ _ _ _ (Or.inr ⟨hk, hK⟩))
  · obtain ⟨t, ht, hr⟩ := q
    obtain ⟨j, hj, _⟩ := e4 t ht hr
    omega
  · obtain ⟨t, ht, _, hr⟩ := e3 0 z
    exact ⟨t, ht, hr⟩
theorem ay_holds24 {R : Nat → Prop} {p e k : Nat} (hp : p < 8) (he : e < 2401) (e1 : cn p = nI k) (e2 : k ≤ 343) (e3 : ∀ j, j < k → ∃ t, t < 343 ∧ tr (343 * p + j) = nI t ∧ R (343 * p + t)) (e4 : ∀ t, t < 343 → R (343 * p + t) → ∃ j, j < k ∧ tr (343 * p + j) = nI t) (h1 : af_Hd R p e → post 1 (ns, kw, ls, en, kn, fm, mk, tr, cn, ho)) (h0 : ¬ af_Hd R p e → post 0 (ns, kw, ls, en, kn, fm, mk, tr, cn, ho)) : ∀ d j : Nat, j + d = k → (∀ i, i < j → ∀ t, t < 343 → tr (343 * p + i) = nI t → af_kp e t) → wY_holds_24 post (nI p) (nI e) ns kw ls en kn fm mk tr cn ho (d + 1) (nI j) := by
  have hin : vp_in (nI p) 8 := vp_in_nI hp (by decide)
  have hcl : (nI p).toNatClampNeg = p := nI_clamp (by omega)
  intro d
  induction d with
  | zero =>
    intro j hj hk
    have e : j = k := by omega
    subst e
    refine ⟨hin, ?_⟩
    rw [hcl, e1]
    refine br_t (nI_le (Nat.le_refl _) (by omega)) (h1 (fun t ht hr => ?_))
    obtain ⟨i, hi, ei⟩ := e4 t ht hr
    exact hk i hi t ht ei
  | succ d ih =>
    intro j hj hk
    obtain ⟨t, ht, et, hr⟩ := e3 j (by omega)
    refine ⟨hin, ?_⟩
    rw [hcl, e1, af_m343, nI_add, nI_clamp (by omega), et]
    refine br_f (nI_ge (by omega) (by omega)) ⟨vp_in_nI (by omega) (by decide), ay_keeps he ht (fun z => af_i1 (nm_r (nI_1 j) (ih (j + 1) (by omega) (fun i hi t' ht' ei => ?_)))) (fun z => af_i0 (h0 (fun q => z (q t ht hr))))⟩
    by_cases e : i = j
    · subst e
      rw [et, nI_eq (by omega) (by omega)] at ei
      rw [← ei]
      exact z
    · exact hk i (by omega) t' ht' ei
theorem ay_holds0 {x y : Int32} (h : x < 0 ∨ nI 8 ≤ x) (hh : post 0 (ns, kw, ls, en, kn, fm, mk, tr, cn, ho)) : wpY_holds post (ns, kw, ls, en, kn, fm, mk, tr, cn, ho) x y := by
  unfold wpY_holds
  dsimp only
  exact ay_pt0 h (af_i0 hh)
theorem ay_holds00 {p : Nat} {y : Int32} (hp : p < 8) (h : y < 0 ∨ nI 2401 ≤ y) (hh : post 0 (ns, kw, ls, en, kn, fm, mk, tr, cn, ho)) : wpY_holds post (ns, kw, ls, en, kn, fm, mk, tr, cn, ho) (nI p) y := by
  unfold wpY_holds
  dsimp only
  exact ay_pt1 hp (af_i1 (ay_dg0 h (af_i0 hh)))
theorem ay_holds1 {p e : Nat} (hSt : af_St n E K F) (hS : ay_S n E K F ns en kn fm) (hI : ay_I (af_Rc n E K F) kw tr cn) (hp : p < 8) (he : e < 2401) (h1 : af_Hd (af_Rc n E K F) p e → ∀ kw' mk' tr' cn', ay_I (af_Rc n E K F) kw' tr' cn' → post 1 (ns, kw', ls, en, kn, fm, mk', tr', cn', ho)) (h0 : ¬ af_Hd (af_Rc n E K F) p e → ∀ kw' mk' tr' cn', ay_I (af_Rc n E K F) kw' tr' cn' → post 0 (ns, kw', ls, en, kn, fm, mk', tr', cn', ho)) : wpY_holds post (ns, kw, ls, en, kn, fm, mk, tr, cn, ho) (nI p) (nI e) := by
  unfold wpY_holds
  dsimp only
  refine ay_pt1 hp (af_i1 (ay_dg1 he (af_i1 (ay_work hSt hS hI (fun kw' mk' tr' cn' hk hK => ?_)))))
  obtain ⟨k, e1, e2, e3, e4⟩ := hK p hp
  exact ⟨k + 1, ay_holds24 hp he e1 e2 e3 e4 (fun z => h1 z _ _ _ _ (Or.inr ⟨hk, hK⟩)) (fun z => h0 z _ _ _ _ (Or.inr ⟨hk, hK⟩)) k 0 (by omega) (fun i hi => by omega)⟩
end
section
variable {n : Nat} {E K F : Nat → Nat} {post : SY → Prop} {ns kw ls : Int32} {en kn fm mk tr cn ho : Nat → Int32}
theorem ay_list7 {p : Nat} (hSt : af_St n E K F) (hS : ay_S n E K F ns en kn fm) (hp : p < 8) (h : ∀ kw' ls' mk' tr' cn' ho', ay_I (af_Rc n E K F) kw' tr' cn' → ay_L (af_Rc n E K F) p 2401 ls' ho' → post (ns, kw', ls', en, kn, fm, mk', tr', cn', ho')) : ∀ (d x : Nat) (kw ls : Int32) (mk tr cn ho : Nat → Int32), x + d = 2401 → ay_I (af_Rc n E K F) kw tr cn → ay_L (af_Rc n E K F) p x ls ho → wY_list_7 post (nI p) (d + 1) (nI x) ns kw ls en kn fm mk tr cn ho := by
  intro d
  induction d with
  | zero =>
    intro x kw ls mk tr cn ho hx hI hL
    have e : x = 2401 := by omega
    subst e
    exact br_t (nI_le (a := 2401) (b := 2401) (by decide) (by decide)) (h _ _ _ _ _ _ hI hL)
  | succ d ih =>
    intro x kw ls mk tr cn ho hx hI hL
    obtain ⟨l1, l2, l3⟩ := hL
    have hle := af_ct_le (af_Hd (af_Rc n E K F) p) x
    refine br_f (nI_ge (a := x) (b := 2401) (by omega) (by decide)) (ay_holds1 hSt hS hI hp (by omega) (fun z kw' mk' tr' cn' hI' => af_i1 ?_) (fun z kw' mk' tr' cn' hI' => af_i0 ?_))
    · rw [l1, nI_clamp (by omega), nI_1]
      refine ⟨vp_in_nI (by omega) (by decide), nm_e (nm_e (nm_r (nI_1 x) (ih (x + 1) _ _ _ _ _ _ (by omega) hI' ?_)))⟩
      have ec := af_ct_t (P := af_Hd (af_Rc n E K F) p) z
      refine ⟨by rw [ec], fun j hj => ?_, fun e he hd => ?_⟩
      · rw [ec] at hj
        by_cases ej : j = af_ct (af_Hd (af_Rc n E K F) p) x
        · rw [ej]; exact ⟨x, by omega, pk_us, z⟩
        · obtain ⟨e, he, eh, hd⟩ := l2 j (by omega)
          exact ⟨e, by omega, (pk_un ej).trans eh, hd⟩
      · rw [ec]
        by_cases ee : e = x
        · subst ee; exact ⟨_, by omega, pk_us⟩
        · obtain ⟨j, hj, eh⟩ := l3 e (by omega) hd
          exact ⟨j, by omega, (pk_un (by omega)).trans eh⟩
    · refine nm_r (nI_1 x) (ih (x + 1) _ _ _ _ _ _ (by omega) hI' ?_)
      have ec := af_ct_f (P := af_Hd (af_Rc n E K F) p) z
      refine ⟨by rw [ec]; exact l1, fun j hj => ?_, fun e he hd => ?_⟩
      · rw [ec] at hj
        obtain ⟨e, he, eh, hd⟩ := l2 j hj
        exact ⟨e, by omega, eh, hd⟩
      · rw [ec]
        by_cases ee : e = x
        · subst ee; exact absurd hd z
        · exact l3 e (by omega) hd
theorem ay_list {p : Nat} (hSt : af_St n E K F) (hS : ay_S n E K F ns en kn fm) (hI : ay_I (af_Rc n E K F) kw tr cn) (hp : p < 8) (h : ∀ kw' ls' mk' tr' cn' ho', ay_I (af_Rc n E K F) kw' tr' cn' → ay_L (af_Rc n E K F) p 2401 ls' ho' → post (ns, kw', ls', en, kn, fm, mk', tr', cn', ho')) : wpY_list post (ns, kw, ls, en, kn, fm, mk, tr, cn, ho) (nI p) :=
  ⟨2402, ay_list7 hSt hS hp h 2401 0 kw 0 mk tr cn ho (by decide) hI ⟨rfl, fun j hj => by rw [af_ct_0] at hj; omega, fun e he => by omega⟩⟩
end
section
variable {R : Nat → Prop} {post : Int32 → Prop} {ns kw ls : Int32} {en kn fm mk tr cn ho : Nat → Int32}
theorem ay_keepsAll2 {p t : Nat} (ht : t < 343) (hL : ay_L R p 2401 ls ho) (h1 : af_In R p t → post 1) (h0 : ¬ af_In R p t → post 0) : ∀ d j : Nat, j + d = af_ct (af_Hd R p) 2401 → (∀ i, i < j → ∀ e, e < 2401 → ho i = nI e → af_kp e t) → wY_keepsAll_2 post (nI t) ns kw ls en kn fm mk tr cn ho (d + 1) (nI j) := by
  obtain ⟨l1, l2, l3⟩ := hL
  have hle := af_ct_le (af_Hd R p) 2401
  intro d
  induction d with
  | zero =>
    intro j hj hk
    have e : j = af_ct (af_Hd R p) 2401 := by omega
    rw [l1]
    refine br_t (nI_le (by omega) (by omega)) (h1 (fun e he hd => ?_))
    obtain ⟨i, hi, ei⟩ := l3 e he hd
    exact hk i (by omega) e he ei
  | succ d ih =>
    intro j hj hk
    obtain ⟨e, he, ee, hd⟩ := l2 j (by omega)
    refine br_f (by rw [l1]; exact nI_ge (by omega) (by omega)) ⟨vp_in_nI (by omega) (by decide), ?_⟩
    rw [nI_clamp (by omega), ee]
    refine ay_keeps he ht (fun z => af_i1 (nm_r (nI_1 j) (ih (j + 1) (by omega) (fun i hi e' he' ei => ?_)))) (fun z => af_i0 (h0 (fun q => z (q e he hd))))
    by_cases e2 : i = j
    · subst e2
      rw [ee, nI_eq (by omega) (by omega)] at ei
      rw [← ei]
      exact z
    · exact hk i (by omega) e' he' ei
theorem ay_keepsAll {p t : Nat} (ht : t < 343) (hL : ay_L R p 2401 ls ho) (h1 : af_In R p t → post 1) (h0 : ¬ af_In R p t → post 0) : wpY_keepsAll post (ns, kw, ls, en, kn, fm, mk, tr, cn, ho) (nI t) :=
  ⟨af_ct (af_Hd R p) 2401 + 1, ay_keepsAll2 ht hL h1 h0 _ 0 (by omega) (fun i hi => by omega)⟩
end
section
variable {n : Nat} {E K F : Nat → Nat} {R : Nat → Prop} {post : Int32 → SY → Prop} {ns kw ls : Int32} {en kn fm mk tr cn ho : Nat → Int32}
theorem ay_equations0 {x : Int32} (h : x < 0 ∨ nI 8 ≤ x) (hh : post (-1) (ns, kw, ls, en, kn, fm, mk, tr, cn, ho)) : wpY_equations post (ns, kw, ls, en, kn, fm, mk, tr, cn, ho) x := by
  unfold wpY_equations
  dsimp only
  exact ay_pt0 h (af_i0 hh)
theorem ay_equations1 {p : Nat} (hSt : af_St n E K F) (hS : ay_S n E K F ns en kn fm) (hI : ay_I (af_Rc n E K F) kw tr cn) (hp : p < 8) (h : ∀ kw' ls' mk' tr' cn' ho', ay_I (af_Rc n E K F) kw' tr' cn' → post (nI (af_ct (af_Hd (af_Rc n E K F) p) 2401)) (ns, kw', ls', en, kn, fm, mk', tr', cn', ho')) : wpY_equations post (ns, kw, ls, en, kn, fm, mk, tr, cn, ho) (nI p) := by
  unfold wpY_equations
  dsimp only
  refine ay_pt1 hp (af_i1 (ay_list hSt hS hI hp (fun kw' ls' mk' tr' cn' ho' hI' hL => ?_)))
  have q := h kw' ls' mk' tr' cn' ho' hI'
  rw [← hL.1] at q
  exact q
theorem ay_span19 {p : Nat} (hL : ay_L R p 2401 ls ho) (h : post (nI (af_ct (af_In R p) 343)) (ns, kw, ls, en, kn, fm, mk, tr, cn, ho)) : ∀ d j : Nat, j + d = 343 → wY_span_19 post ns kw ls en kn fm mk tr cn ho (d + 1) (nI (af_ct (af_In R p) j)) (nI j) := by
  intro d
  induction d with
  | zero =>
    intro j hj
    have e : j = 343 := by omega
    subst e
    exact br_t (nI_le (a := 343) (b := 343) (by decide) (by decide)) h
  | succ d ih =>
    intro j hj
    refine br_f (nI_ge (a := j) (b := 343) (by omega) (by decide)) (ay_keepsAll (by omega) hL (fun z => af_i1 ?_) (fun z => af_i0 ?_))
    · have q := ih (j + 1) (by omega)
      rw [af_ct_t z] at q
      exact nm_r (nI_1 _) (nm_r (nI_1 j) q)
    · have q := ih (j + 1) (by omega)
      rw [af_ct_f z] at q
      exact nm_r (nI_1 j) q
theorem ay_span0 {x : Int32} (h : x < 0 ∨ nI 8 ≤ x) (hh : post (-1) (ns, kw, ls, en, kn, fm, mk, tr, cn, ho)) : wpY_span post (ns, kw, ls, en, kn, fm, mk, tr, cn, ho) x := by
  unfold wpY_span
  dsimp only
  exact ay_pt0 h (af_i0 hh)
theorem ay_span1 {p : Nat} (hSt : af_St n E K F) (hS : ay_S n E K F ns en kn fm) (hI : ay_I (af_Rc n E K F) kw tr cn) (hp : p < 8) (h : ∀ kw' ls' mk' tr' cn' ho', ay_I (af_Rc n E K F) kw' tr' cn' → post (nI (af_ct (af_In (af_Rc n E K F) p) 343)) (ns, kw', ls', en, kn, fm, mk', tr', cn', ho')) : wpY_span post (ns, kw, ls, en, kn, fm, mk, tr, cn, ho) (nI p) := by
  unfold wpY_span
  dsimp only
  exact ay_pt1 hp (af_i1 (ay_list hSt hS hI hp (fun kw' ls' mk' tr' cn' ho' hI' hL => ⟨344, ay_span19 hL (h kw' ls' mk' tr' cn' ho' hI') 343 0 (by decide)⟩)))
theorem ay_inSpan0 {x y : Int32} (h : x < 0 ∨ nI 8 ≤ x) (hh : post 0 (ns, kw, ls, en, kn, fm, mk, tr, cn, ho)) : wpY_inSpan post (ns, kw, ls, en, kn, fm, mk, tr, cn, ho) x y := by
  unfold wpY_inSpan
  dsimp only
  exact ay_pt0 h (af_i0 hh)
theorem ay_inSpan00 {p : Nat} {y : Int32} (hp : p < 8) (h : y < 0 ∨ nI 343 ≤ y) (hh : post 0 (ns, kw, ls, en, kn, fm, mk, tr, cn, ho)) : wpY_inSpan post (ns, kw, ls, en, kn, fm, mk, tr, cn, ho) (nI p) y := by
  unfold wpY_inSpan
  dsimp only
  exact ay_pt1 hp (af_i1 (ay_b0 342 rfl (by decide) h hh hh))
theorem ay_inSpan1 {p t : Nat} (hSt : af_St n E K F) (hS : ay_S n E K F ns en kn fm) (hI : ay_I (af_Rc n E K F) kw tr cn) (hp : p < 8) (ht : t < 343) (h1 : af_In (af_Rc n E K F) p t → ∀ kw' ls' mk' tr' cn' ho', ay_I (af_Rc n E K F) kw' tr' cn' → post 1 (ns, kw', ls', en, kn, fm, mk', tr', cn', ho')) (h0 : ¬ af_In (af_Rc n E K F) p t → ∀ kw' ls' mk' tr' cn' ho', ay_I (af_Rc n E K F) kw' tr' cn' → post 0 (ns, kw', ls', en, kn, fm, mk', tr', cn', ho')) : wpY_inSpan post (ns, kw, ls, en, kn, fm, mk, tr, cn, ho) (nI p) (nI t) := by
  unfold wpY_inSpan
  dsimp only
  refine ay_pt1 hp (af_i1 (ay_b1 342 rfl (by decide) ht (ay_list hSt hS hI hp (fun kw' ls' mk' tr' cn' ho' hI' hL => ?_))))
  exact ay_keepsAll ht hL (fun z => ⟨af_n1, h1 z _ _ _ _ _ _ hI'⟩) (fun z => ⟨af_n0, h0 z _ _ _ _ _ _ hI'⟩)
theorem ay_con33 {p k : Nat} (hk : k < 3) (hL : ay_L R p 2401 ls ho) (h : ∀ r, af_Qc R p k r → post r (ns, kw, ls, en, kn, fm, mk, tr, cn, ho)) : ∀ (d j : Nat) (a : Int32), j + d = 343 → ((a = -4 ∧ ∀ t, t < j → ¬ af_In R p t) ∨ (∃ q, q < 7 ∧ a = nI q ∧ (∃ t, t < j ∧ af_In R p t ∧ af_vl t k = q) ∧ ∀ t, t < j → af_In R p t → af_vl t k = q)) → wY_constant_33 post (nI k) ns kw ls en kn fm mk tr cn ho (d + 1) a (nI j) := by
  intro d
  induction d with
  | zero =>
    intro j a hj ha
    have e : j = 343 := by omega
    subst e
    refine br_t (nI_le (a := 343) (b := 343) (by decide) (by decide)) (h a ?_)
    rcases ha with ⟨e, hn⟩ | ⟨q, _, e, ⟨t, ht, hi, _⟩, hv⟩
    · exact Or.inl ⟨e, hn⟩
    · exact Or.inr (Or.inr ⟨q, e, ⟨t, ht, hi⟩, hv⟩)
  | succ d ih =>
    intro j a hj ha
    have hj' : j < 343 := by omega
    have b := af_vl_lt j k
    refine br_f (nI_ge (a := j) (b := 343) (by omega) (by decide)) (ay_keepsAll hj' hL (fun z => af_i1 ?_) (fun z => af_i0 (nm_r (nI_1 j) (ih (j + 1) a (by omega) ?_))))
    · unfold wY_constant_68
      rcases ha with ⟨e, hn⟩ | ⟨q, hq, e, ⟨t, ht, hi, hvt⟩, hv⟩
      · subst e
        refine br_t (by decide) (ay_digit hj' hk (nm_r (nI_1 j) (ih (j + 1) _ (by omega) (Or.inr ⟨_, b, rfl, ⟨j, by omega, z, rfl⟩, fun t ht hi => ?_⟩))))
        by_cases et : t = j
        · rw [et]
        · exact absurd hi (hn t (by omega))
      · subst e
        refine br_f (nI_pos (by omega)) (ay_digit hj' hk (pk_eq (af_vl j k) q (fun ee => ay_digit hj' hk (nm_r (nI_1 j) (ih (j + 1) _ (by omega) (Or.inr ⟨_, b, rfl, ⟨j, by omega, z, rfl⟩, fun t ht hi => ?_⟩)))) (fun ee => h _ (Or.inr (Or.inl ⟨rfl, j, t, hj', by omega, z, hi, by omega⟩)))))
        by_cases et : t = j
        · rw [et]
        · rw [hv t (by omega) hi, ee]
    · rcases ha with ⟨e, hn⟩ | ⟨q, hq, e, ⟨t, ht, hi, hvt⟩, hv⟩
      · refine Or.inl ⟨e, fun t ht hi => ?_⟩
        by_cases et : t = j
        · rw [et] at hi; exact z hi
        · exact hn t (by omega) hi
      · refine Or.inr ⟨q, hq, e, ⟨t, by omega, hi, hvt⟩, fun t ht hi => ?_⟩
        by_cases et : t = j
        · rw [et] at hi; exact absurd hi z
        · exact hv t (by omega) hi
theorem ay_constant0 {x y : Int32} (h : x < 0 ∨ nI 8 ≤ x) (hh : post (-1) (ns, kw, ls, en, kn, fm, mk, tr, cn, ho)) : wpY_constant post (ns, kw, ls, en, kn, fm, mk, tr, cn, ho) x y := by
  unfold wpY_constant
  dsimp only
  exact ay_pt0 h (af_i0 hh)
theorem ay_constant00 {p : Nat} {y : Int32} (hp : p < 8) (h : y < 0 ∨ nI 3 ≤ y) (hh : post (-2) (ns, kw, ls, en, kn, fm, mk, tr, cn, ho)) : wpY_constant post (ns, kw, ls, en, kn, fm, mk, tr, cn, ho) (nI p) y := by
  unfold wpY_constant
  dsimp only
  exact ay_pt1 hp (af_i1 (ay_b0 2 rfl (by decide) h hh hh))
theorem ay_constant1 {p k : Nat} (hSt : af_St n E K F) (hS : ay_S n E K F ns en kn fm) (hI : ay_I (af_Rc n E K F) kw tr cn) (hp : p < 8) (hk : k < 3) (h : ∀ r, af_Qc (af_Rc n E K F) p k r → ∀ kw' ls' mk' tr' cn' ho', ay_I (af_Rc n E K F) kw' tr' cn' → post r (ns, kw', ls', en, kn, fm, mk', tr', cn', ho')) : wpY_constant post (ns, kw, ls, en, kn, fm, mk, tr, cn, ho) (nI p) (nI k) := by
  unfold wpY_constant
  dsimp only
  refine ay_pt1 hp (af_i1 (ay_b1 2 rfl (by decide) hk (ay_list hSt hS hI hp (fun kw' ls' mk' tr' cn' ho' hI' hL => ⟨344, ?_⟩))))
  exact ay_con33 hk hL (fun r hr => h r hr _ _ _ _ _ _ hI') 343 0 (-4) (by decide) (Or.inl ⟨rfl, fun t ht => by omega⟩)
theorem ay_imp25 {p q : Nat} (hSt : af_St n E K F) (hS : ay_S n E K F ns en kn fm) (hp : p < 8) (hL : ay_L (af_Rc n E K F) q 2401 ls ho) (h1 : (∀ e, e < 2401 → af_Hd (af_Rc n E K F) q e → af_Hd (af_Rc n E K F) p e) → ∀ kw' mk' tr' cn', ay_I (af_Rc n E K F) kw' tr' cn' → post 1 (ns, kw', ls, en, kn, fm, mk', tr', cn', ho)) (h0 : ¬ (∀ e, e < 2401 → af_Hd (af_Rc n E K F) q e → af_Hd (af_Rc n E K F) p e) → ∀ kw' mk' tr' cn', ay_I (af_Rc n E K F) kw' tr' cn' → post 0 (ns, kw', ls, en, kn, fm, mk', tr', cn', ho)) : ∀ (d j : Nat) (kw : Int32) (mk tr cn : Nat → Int32), j + d = af_ct (af_Hd (af_Rc n E K F) q) 2401 → ay_I (af_Rc n E K F) kw tr cn → (∀ i, i < j → ∀ e, e < 2401 → ho i = nI e → af_Hd (af_Rc n E K F) p e) → wY_implies_25 post (nI p) (d + 1) (nI j) ns kw ls en kn fm mk tr cn ho := by
  obtain ⟨l1, l2, l3⟩ := hL
  have hle := af_ct_le (af_Hd (af_Rc n E K F) q) 2401
  intro d
  induction d with
  | zero =>
    intro j kw mk tr cn hj hI hk
    refine br_t (by rw [l1]; exact nI_le (by omega) (by omega)) (h1 (fun e he hd => ?_) _ _ _ _ hI)
    obtain ⟨i, hi, ei⟩ := l3 e he hd
    exact hk i (by omega) e he ei
  | succ d ih =>
    intro j kw mk tr cn hj hI hk
    obtain ⟨e, he, ee, hd⟩ := l2 j (by omega)
    refine br_f (by rw [l1]; exact nI_ge (by omega) (by omega)) ⟨vp_in_nI (by omega) (by decide), ?_⟩
    rw [nI_clamp (by omega), ee]
    refine ay_holds1 hSt hS hI hp he (fun z kw' mk' tr' cn' hI' => af_i1 (nm_r (nI_1 j) (ih (j + 1) _ _ _ _ (by omega) hI' (fun i hi e' he' ei => ?_)))) (fun z kw' mk' tr' cn' hI' => af_i0 (h0 (fun w => z (w e he hd)) _ _ _ _ hI'))
    by_cases e2 : i = j
    · subst e2
      rw [ee, nI_eq (by omega) (by omega)] at ei
      rw [← ei]
      exact z
    · exact hk i (by omega) e' he' ei
theorem ay_implies0 {x y : Int32} (h : x < 0 ∨ nI 8 ≤ x) (hh : post 0 (ns, kw, ls, en, kn, fm, mk, tr, cn, ho)) : wpY_implies post (ns, kw, ls, en, kn, fm, mk, tr, cn, ho) x y := by
  unfold wpY_implies
  dsimp only
  exact ay_pt0 h (af_i0 hh)
theorem ay_implies00 {p : Nat} {y : Int32} (hp : p < 8) (h : y < 0 ∨ nI 8 ≤ y) (hh : post 0 (ns, kw, ls, en, kn, fm, mk, tr, cn, ho)) : wpY_implies post (ns, kw, ls, en, kn, fm, mk, tr, cn, ho) (nI p) y := by
  unfold wpY_implies
  dsimp only
  exact ay_pt1 hp (af_i1 (ay_pt0 h (af_i0 hh)))
theorem ay_implies1 {p q : Nat} (hSt : af_St n E K F) (hS : ay_S n E K F ns en kn fm) (hI : ay_I (af_Rc n E K F) kw tr cn) (hp : p < 8) (hq : q < 8) (h1 : (∀ e, e < 2401 → af_Hd (af_Rc n E K F) q e → af_Hd (af_Rc n E K F) p e) → ∀ kw' ls' mk' tr' cn' ho', ay_I (af_Rc n E K F) kw' tr' cn' → post 1 (ns, kw', ls', en, kn, fm, mk', tr', cn', ho')) (h0 : ¬ (∀ e, e < 2401 → af_Hd (af_Rc n E K F) q e → af_Hd (af_Rc n E K F) p e) → ∀ kw' ls' mk' tr' cn' ho', ay_I (af_Rc n E K F) kw' tr' cn' → post 0 (ns, kw', ls', en, kn, fm, mk', tr', cn', ho')) : wpY_implies post (ns, kw, ls, en, kn, fm, mk, tr, cn, ho) (nI p) (nI q) := by
  unfold wpY_implies
  dsimp only
  refine ay_pt1 hp (af_i1 (ay_pt1 hq (af_i1 (ay_list hSt hS hI hq (fun kw' ls' mk' tr' cn' ho' hI' hL => ⟨af_ct (af_Hd (af_Rc n E K F) q) 2401 + 1, ?_⟩)))))
  exact ay_imp25 hSt hS hp hL (fun z kw2 mk2 tr2 cn2 hI2 => h1 z _ _ _ _ _ _ hI2) (fun z kw2 mk2 tr2 cn2 hI2 => h0 z _ _ _ _ _ _ hI2) _ 0 kw' mk' tr' cn' (Nat.zero_add _) hI' (fun i hi => by omega)
theorem ay_loo6 (hSt : af_St n E K F) (hS : ay_S n E K F ns en kn fm) (h : ∀ g k, af_V (fun j => af_ct (af_In (af_Rc n E K F) j) 343) 8 g k → ∀ kw' ls' mk' tr' cn' ho', ay_I (af_Rc n E K F) kw' tr' cn' → post (nI k) (ns, kw', ls', en, kn, fm, mk', tr', cn', ho')) : ∀ (d j k : Nat) (a kw ls : Int32) (mk tr cn ho : Nat → Int32), j + d = 8 → ay_I (af_Rc n E K F) kw tr cn → ((j = 0 ∧ a = -1 ∧ k = 0) ∨ (0 < j ∧ ∃ g, g ≤ 343 ∧ a = nI g ∧ af_V (fun j => af_ct (af_In (af_Rc n E K F) j) 343) j g k)) → wY_loosest_6 post (d + 1) a (nI k) (nI j) ns kw ls en kn fm mk tr cn ho := by
  intro d
  induction d with
  | zero =>
    intro j k a kw ls mk tr cn ho hj hI hV
    have e : j = 8 := by omega
    subst e
    rcases hV with ⟨z, _⟩ | ⟨_, g, _, _, hV⟩
    · omega
    · exact br_t (nI_le (a := 8) (b := 8) (by decide) (by decide)) (h g k hV _ _ _ _ _ _ hI)
  | succ d ih =>
    intro j k a kw ls mk tr cn ho hj hI hV
    have hj8 : j < 8 := by omega
    have hle := af_ct_le (af_In (af_Rc n E K F) j) 343
    refine br_f (nI_ge (a := j) (b := 8) (by omega) (by decide)) (ay_span1 hSt hS hI hj8 (fun kw' ls' mk' tr' cn' ho' hI' => ?_))
    unfold wY_loosest_27 wY_loosest_36
    have up : ∀ g k', g ≤ 343 → af_V (fun j => af_ct (af_In (af_Rc n E K F) j) 343) (j + 1) g k' → wY_loosest_6 post (d + 1) (nI g) (nI k') (nI (j + 1)) ns kw' ls' en kn fm mk' tr' cn' ho' := fun g k' hg hV' => ih (j + 1) k' _ _ _ _ _ _ _ (by omega) hI' (Or.inr ⟨by omega, g, hg, rfl, hV'⟩)
    rcases hV with ⟨ej, ea, ek⟩ | ⟨hj0, g, hg, ea, hV⟩
    · subst ej ea ek
      have hn : ¬ nI (af_ct (af_In (af_Rc n E K F) 0) 343) ≤ -1 := by
        rw [Int32.le_iff_toInt_le, nI_toInt (by omega), show (-1 : Int32).toInt = -1 from by decide]
        omega
      have q := up _ 1 hle ⟨fun i hi => by rw [show i = 0 from by omega]; exact Nat.le_refl _, fun _ => ⟨0, by omega, rfl⟩, by rw [af_ct_t (P := fun i => af_ct (af_In (af_Rc n E K F) i) 343 = af_ct (af_In (af_Rc n E K F) 0) 343) (n := 0) rfl]; rfl⟩
      exact br_f hn (br_f hn (br_t rfl (nm_r (nI_1 0) (nm_r (nI_1 0) q))))
    · subst ea
      refine pk_le (af_ct (af_In (af_Rc n E K F) j) 343) g (fun z => br_t (nI_le z (by omega)) ?_) (fun z => br_f (nI_ge z (by omega)) (br_t rfl ?_))
      · refine pk_eq (af_ct (af_In (af_Rc n E K F) j) 343) g (fun e => ?_) (fun e => ?_)
        · exact nm_r (nI_1 k) (nm_r (nI_1 j) (up g (k + 1) hg (af_V_eq hV e)))
        · exact nm_r (nI_1 j) (up g k hg (af_V_lt hV (show af_ct (af_In (af_Rc n E K F) j) 343 < g by omega) hj0))
      · exact nm_r (nI_1 0) (nm_r (nI_1 j) (up _ 1 hle (af_V_gt hV z)))
theorem ay_loosest (hSt : af_St n E K F) (hS : ay_S n E K F ns en kn fm) (hI : ay_I (af_Rc n E K F) kw tr cn) (h : ∀ g k, af_V (fun j => af_ct (af_In (af_Rc n E K F) j) 343) 8 g k → ∀ kw' ls' mk' tr' cn' ho', ay_I (af_Rc n E K F) kw' tr' cn' → post (nI k) (ns, kw', ls', en, kn, fm, mk', tr', cn', ho')) : wpY_loosest post (ns, kw, ls, en, kn, fm, mk, tr, cn, ho) :=
  ⟨9, ay_loo6 hSt hS h 8 0 0 (-1) kw ls mk tr cn ho (by decide) hI (Or.inl ⟨rfl, rfl, rfl⟩)⟩
end
