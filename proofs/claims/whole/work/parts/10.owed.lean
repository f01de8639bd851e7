/-- both sides keep the same steps; X's tables tell what these reach and span; Y's lists, when known, what they reach -/
def i_Rel (_ : Nat) (u : SX) (v : SY) : Prop := ∃ (n : Nat) (E K F : Nat → Nat) (c f : Int32) (sk se sv sd sr fo si sz og : Nat → Int32) (ns kw ls : Int32) (en kn fm mk tr cn ho : Nat → Int32), u = (c, f, sk, se, sv, sd, sr, fo, si, sz, og) ∧ v = (ns, kw, ls, en, kn, fm, mk, tr, cn, ho) ∧ af_St n E K F ∧ ax_S n E K F c sk se sv sd ∧ ax_I (af_Rc n E K F) sr si sz og ∧ ay_S n E K F ns en kn fm ∧ ay_I (af_Rc n E K F) kw tr cn
theorem af_rel {n k : Nat} {E K F : Nat → Nat} {c f : Int32} {sk se sv sd sr fo si sz og : Nat → Int32} {ns kw ls : Int32} {en kn fm mk tr cn ho : Nat → Int32} (h1 : af_St n E K F) (h2 : ax_S n E K F c sk se sv sd) (h3 : ax_I (af_Rc n E K F) sr si sz og) (h4 : ay_S n E K F ns en kn fm) (h5 : ay_I (af_Rc n E K F) kw tr cn) : i_Rel k (c, f, sk, se, sv, sd, sr, fo, si, sz, og) (ns, kw, ls, en, kn, fm, mk, tr, cn, ho) :=
  ⟨n, E, K, F, c, f, sk, se, sv, sd, sr, fo, si, sz, og, ns, kw, ls, en, kn, fm, mk, tr, cn, ho, rfl, rfl, h1, h2, h3, h4, h5⟩
theorem i_up {k : Nat} {u : SX} {v : SY} (h : i_Rel k u v) : i_Rel (k + 4) u v := h
theorem i_vc0 : wpX_init (fun u => wpY_init (fun v => i_Rel 0 u v)) := by
  unfold wpX_init
  refine ax_follow (n := 0) (E := fun _ => 0) (K := fun _ => 0) (F := fun _ => 0) af_St_0 ax_S_0 (fun f' sr' fo' si' sz' og' hI => ?_)
  exact af_rel (k := 0) (n := 0) (E := fun _ => 0) (K := fun _ => 0) (F := fun _ => 0) af_St_0 ax_S_0 hI ay_S_0 (Or.inl rfl)
theorem i_vc_assign {k : Nat} {u : SX} {v : SY} (I : i_Rel k u v) (hk : k + 4 ≤ 2048) (v1 : Int32) (v2 : Int32) (v3 : Int32) : wpX_assign (fun r u' => wpY_assign (fun r' v' => r' = r ∧ i_Rel (k + 4) u' v') v v1 v2 v3) u v1 v2 v3 := by
  obtain ⟨n, E, K, F, c, f, sk, se, sv, sd, sr, fo, si, sz, og, ns, kw, ls, en, kn, fm, mk, tr, cn, ho, rfl, rfl, h1, h2, h3, h4, h5⟩ := I
  have J : i_Rel (k + 4) (c, f, sk, se, sv, sd, sr, fo, si, sz, og) (ns, kw, ls, en, kn, fm, mk, tr, cn, ho) := af_rel h1 h2 h3 h4 h5
  have z1 : (v1 < 0 ∨ nI 64 ≤ v1) ∨ ∃ e, e < 64 ∧ v1 = nI e := or_assoc.mpr (pk_ix v1 (by decide))
  have z2 : (v2 < 0 ∨ nI 3 ≤ v2) ∨ ∃ e, e < 3 ∧ v2 = nI e := or_assoc.mpr (pk_ix v2 (by decide))
  have z3 : (v3 < 0 ∨ nI 2401 ≤ v3) ∨ ∃ e, e < 2401 ∧ v3 = nI e := or_assoc.mpr (pk_ix v3 (by decide))
  rcases z1 with z1 | ⟨e, he, rfl⟩
  · exact ax_assign0 z1 (ay_assign0 z1 ⟨rfl, J⟩)
  rcases z2 with z2 | ⟨q, hq, rfl⟩
  · exact ax_assign00 he z2 (ay_assign00 he z2 ⟨rfl, J⟩)
  rcases z3 with z3 | ⟨g, hg, rfl⟩
  · exact ax_assign000 he hq z3 (ay_assign000 he hq z3 ⟨rfl, J⟩)
  refine ax_assign1 h1 h2 he hq hg (fun e12 => ?_) (fun l12 f' sr' fo' si' sz' og' hI => ?_)
  · exact ay_assign1 h1 h4 he hq hg (fun _ => ⟨rfl, J⟩) (fun z => by omega)
  · exact ay_assign1 h1 h4 he hq hg (fun z => by omega) (fun _ => ⟨rfl, af_rel (af_St_ap h1 l12 he (by omega) hg) (ax_S_ap h2) hI (ay_S_ap h4) (Or.inl rfl)⟩)
theorem i_vc_forget {k : Nat} {u : SX} {v : SY} (I : i_Rel k u v) (hk : k + 4 ≤ 2048) (v1 : Int32) (v2 : Int32) : wpX_forget (fun r u' => wpY_forget (fun r' v' => r' = r ∧ i_Rel (k + 4) u' v') v v1 v2) u v1 v2 := by
  obtain ⟨n, E, K, F, c, f, sk, se, sv, sd, sr, fo, si, sz, og, ns, kw, ls, en, kn, fm, mk, tr, cn, ho, rfl, rfl, h1, h2, h3, h4, h5⟩ := I
  have J : i_Rel (k + 4) (c, f, sk, se, sv, sd, sr, fo, si, sz, og) (ns, kw, ls, en, kn, fm, mk, tr, cn, ho) := af_rel h1 h2 h3 h4 h5
  have z1 : (v1 < 0 ∨ nI 64 ≤ v1) ∨ ∃ e, e < 64 ∧ v1 = nI e := or_assoc.mpr (pk_ix v1 (by decide))
  have z2 : (v2 < 0 ∨ nI 3 ≤ v2) ∨ ∃ e, e < 3 ∧ v2 = nI e := or_assoc.mpr (pk_ix v2 (by decide))
  rcases z1 with z1 | ⟨e, he, rfl⟩
  · exact ax_forget0 z1 (ay_forget0 z1 ⟨rfl, J⟩)
  rcases z2 with z2 | ⟨q, hq, rfl⟩
  · exact ax_forget00 he z2 (ay_forget00 he z2 ⟨rfl, J⟩)
  refine ax_forget1 h1 h2 he hq (fun e12 => ?_) (fun l12 f' sr' fo' si' sz' og' hI => ?_)
  · exact ay_forget1 h1 h4 he hq (fun _ => ⟨rfl, J⟩) (fun z => by omega)
  · exact ay_forget1 h1 h4 he hq (fun z => by omega) (fun _ => ⟨rfl, af_rel (af_St_ap h1 l12 he (by omega) (by decide)) (ax_S_ap h2) hI (ay_S_ap h4) (Or.inl rfl)⟩)
theorem i_vc_pass {k : Nat} {u : SX} {v : SY} (I : i_Rel k u v) (hk : k + 4 ≤ 2048) (v1 : Int32) : wpX_pass (fun r u' => wpY_pass (fun r' v' => r' = r ∧ i_Rel (k + 4) u' v') v v1) u v1 := by
  obtain ⟨n, E, K, F, c, f, sk, se, sv, sd, sr, fo, si, sz, og, ns, kw, ls, en, kn, fm, mk, tr, cn, ho, rfl, rfl, h1, h2, h3, h4, h5⟩ := I
  have J : i_Rel (k + 4) (c, f, sk, se, sv, sd, sr, fo, si, sz, og) (ns, kw, ls, en, kn, fm, mk, tr, cn, ho) := af_rel h1 h2 h3 h4 h5
  have z1 : (v1 < 0 ∨ nI 64 ≤ v1) ∨ ∃ e, e < 64 ∧ v1 = nI e := or_assoc.mpr (pk_ix v1 (by decide))
  rcases z1 with z1 | ⟨e, he, rfl⟩
  · exact ax_pass0 z1 (ay_pass0 z1 ⟨rfl, J⟩)
  refine ax_pass1 h1 h2 he (fun e12 => ?_) (fun l12 f' sr' fo' si' sz' og' hI => ?_)
  · exact ay_pass1 h1 h4 he (fun _ => ⟨rfl, J⟩) (fun z => by omega)
  · exact ay_pass1 h1 h4 he (fun z => by omega) (fun _ => ⟨rfl, af_rel (af_St_ap h1 l12 he (by decide) (by decide)) (ax_S_ap h2) hI (ay_S_ap h4) (Or.inl rfl)⟩)
theorem i_vc_drop {k : Nat} {u : SX} {v : SY} (I : i_Rel k u v) (hk : k + 4 ≤ 2048) : wpX_drop (fun r u' => wpY_drop (fun r' v' => r' = r ∧ i_Rel (k + 4) u' v') v) u := by
  obtain ⟨n, E, K, F, c, f, sk, se, sv, sd, sr, fo, si, sz, og, ns, kw, ls, en, kn, fm, mk, tr, cn, ho, rfl, rfl, h1, h2, h3, h4, h5⟩ := I
  have J : i_Rel (k + 4) (c, f, sk, se, sv, sd, sr, fo, si, sz, og) (ns, kw, ls, en, kn, fm, mk, tr, cn, ho) := af_rel h1 h2 h3 h4 h5
  have hn := h1.1
  have ec := h2.1
  have en' := h4.1
  subst ec en'
  cases n with
  | zero => exact br_t rfl (br_t rfl ⟨rfl, J⟩)
  | succ n =>
    have hz : ¬ nI (n + 1) = 0 := nI_ne0 (by omega) (by omega)
    refine br_f hz (nm_r (nI_pred n) ?_)
    refine ax_follow (af_St_dn h1) (ax_S_dn h2) (fun f' sr' fo' si' sz' og' hI => ?_)
    exact br_f hz (nm_r (nI_pred n) ⟨rfl, af_rel (af_St_dn h1) (ax_S_dn h2) hI (ay_S_dn h4) (Or.inl rfl)⟩)
theorem i_vc_clear {k : Nat} {u : SX} {v : SY} (I : i_Rel k u v) (hk : k + 4 ≤ 2048) : wpX_clear (fun u' => wpY_clear (fun v' => i_Rel (k + 4) u' v') v) u := by
  obtain ⟨n, E, K, F, c, f, sk, se, sv, sd, sr, fo, si, sz, og, ns, kw, ls, en, kn, fm, mk, tr, cn, ho, rfl, rfl, h1, h2, h3, h4, h5⟩ := I
  unfold wpX_clear
  dsimp only
  refine ax_follow (n := 0) (E := E) (K := K) (F := F) af_St_0 ax_S_0 (fun f' sr' fo' si' sz' og' hI => ?_)
  exact af_rel (k := k + 4) (n := 0) (E := E) (K := K) (F := F) af_St_0 ax_S_0 hI ay_S_0 (Or.inl rfl)
theorem i_vc_reached {k : Nat} {u : SX} {v : SY} (I : i_Rel k u v) (hk : k + 4 ≤ 2048) (v1 : Int32) : wpX_reached (fun r => wpY_reached (fun r' v' => r' = r ∧ i_Rel (k + 4) u v') v v1) u v1 := by
  obtain ⟨n, E, K, F, c, f, sk, se, sv, sd, sr, fo, si, sz, og, ns, kw, ls, en, kn, fm, mk, tr, cn, ho, rfl, rfl, h1, h2, h3, h4, h5⟩ := I
  have z1 : (v1 < 0 ∨ nI 8 ≤ v1) ∨ ∃ e, e < 8 ∧ v1 = nI e := or_assoc.mpr (pk_ix v1 (by decide))
  rcases z1 with z1 | ⟨p, hp, rfl⟩
  · exact ax_reached0 z1 (ay_reached0 h1 h4 h5 z1 (fun kw' mk' tr' cn' hI' => ⟨rfl, af_rel h1 h2 h3 h4 hI'⟩))
  refine ax_reached1 h3 hp (fun z => ?_) (fun z => ?_)
  · exact ay_reached1 h1 h4 h5 hp (fun _ kw' mk' tr' cn' hI' => ⟨rfl, af_rel h1 h2 h3 h4 hI'⟩) (fun w => absurd z w)
  · exact ay_reached1 h1 h4 h5 hp (fun w => absurd w z) (fun _ kw' mk' tr' cn' hI' => ⟨rfl, af_rel h1 h2 h3 h4 hI'⟩)
theorem i_vc_holds {k : Nat} {u : SX} {v : SY} (I : i_Rel k u v) (hk : k + 4 ≤ 2048) (v1 : Int32) (v2 : Int32) : wpX_holds (fun r => wpY_holds (fun r' v' => r' = r ∧ i_Rel (k + 4) u v') v v1 v2) u v1 v2 := by
  obtain ⟨n, E, K, F, c, f, sk, se, sv, sd, sr, fo, si, sz, og, ns, kw, ls, en, kn, fm, mk, tr, cn, ho, rfl, rfl, h1, h2, h3, h4, h5⟩ := I
  have J : i_Rel (k + 4) (c, f, sk, se, sv, sd, sr, fo, si, sz, og) (ns, kw, ls, en, kn, fm, mk, tr, cn, ho) := af_rel h1 h2 h3 h4 h5
  have z1 : (v1 < 0 ∨ nI 8 ≤ v1) ∨ ∃ e, e < 8 ∧ v1 = nI e := or_assoc.mpr (pk_ix v1 (by decide))
  have z2 : (v2 < 0 ∨ nI 2401 ≤ v2) ∨ ∃ e, e < 2401 ∧ v2 = nI e := or_assoc.mpr (pk_ix v2 (by decide))
  rcases z1 with z1 | ⟨p, hp, rfl⟩
  · exact ax_holds0 z1 (ay_holds0 z1 ⟨rfl, J⟩)
  rcases z2 with z2 | ⟨e, he, rfl⟩
  · exact ax_holds00 hp z2 (ay_holds00 hp z2 ⟨rfl, J⟩)
  refine ax_holds1 h3 hp he (fun z => ?_) (fun z => ?_)
  · exact ay_holds1 h1 h4 h5 hp he (fun _ kw' mk' tr' cn' hI' => ⟨rfl, af_rel h1 h2 h3 h4 hI'⟩) (fun w => absurd z w)
  · exact ay_holds1 h1 h4 h5 hp he (fun w => absurd w z) (fun _ kw' mk' tr' cn' hI' => ⟨rfl, af_rel h1 h2 h3 h4 hI'⟩)
theorem i_vc_equations {k : Nat} {u : SX} {v : SY} (I : i_Rel k u v) (hk : k + 4 ≤ 2048) (v1 : Int32) : wpX_equations (fun r => wpY_equations (fun r' v' => r' = r ∧ i_Rel (k + 4) u v') v v1) u v1 := by
  obtain ⟨n, E, K, F, c, f, sk, se, sv, sd, sr, fo, si, sz, og, ns, kw, ls, en, kn, fm, mk, tr, cn, ho, rfl, rfl, h1, h2, h3, h4, h5⟩ := I
  have J : i_Rel (k + 4) (c, f, sk, se, sv, sd, sr, fo, si, sz, og) (ns, kw, ls, en, kn, fm, mk, tr, cn, ho) := af_rel h1 h2 h3 h4 h5
  have z1 : (v1 < 0 ∨ nI 8 ≤ v1) ∨ ∃ e, e < 8 ∧ v1 = nI e := or_assoc.mpr (pk_ix v1 (by decide))
  rcases z1 with z1 | ⟨p, hp, rfl⟩
  · exact ax_equations0 z1 (ay_equations0 z1 ⟨rfl, J⟩)
  exact ax_equations1 h3 hp (ay_equations1 h1 h4 h5 hp (fun kw' ls' mk' tr' cn' ho' hI' => ⟨rfl, af_rel h1 h2 h3 h4 hI'⟩))
theorem i_vc_span {k : Nat} {u : SX} {v : SY} (I : i_Rel k u v) (hk : k + 4 ≤ 2048) (v1 : Int32) : wpX_span (fun r => wpY_span (fun r' v' => r' = r ∧ i_Rel (k + 4) u v') v v1) u v1 := by
  obtain ⟨n, E, K, F, c, f, sk, se, sv, sd, sr, fo, si, sz, og, ns, kw, ls, en, kn, fm, mk, tr, cn, ho, rfl, rfl, h1, h2, h3, h4, h5⟩ := I
  have J : i_Rel (k + 4) (c, f, sk, se, sv, sd, sr, fo, si, sz, og) (ns, kw, ls, en, kn, fm, mk, tr, cn, ho) := af_rel h1 h2 h3 h4 h5
  have z1 : (v1 < 0 ∨ nI 8 ≤ v1) ∨ ∃ e, e < 8 ∧ v1 = nI e := or_assoc.mpr (pk_ix v1 (by decide))
  rcases z1 with z1 | ⟨p, hp, rfl⟩
  · exact ax_span0 z1 (ay_span0 z1 ⟨rfl, J⟩)
  exact ax_span1 h3 hp (ay_span1 h1 h4 h5 hp (fun kw' ls' mk' tr' cn' ho' hI' => ⟨rfl, af_rel h1 h2 h3 h4 hI'⟩))
theorem i_vc_inSpan {k : Nat} {u : SX} {v : SY} (I : i_Rel k u v) (hk : k + 4 ≤ 2048) (v1 : Int32) (v2 : Int32) : wpX_inSpan (fun r => wpY_inSpan (fun r' v' => r' = r ∧ i_Rel (k + 4) u v') v v1 v2) u v1 v2 := by
  obtain ⟨n, E, K, F, c, f, sk, se, sv, sd, sr, fo, si, sz, og, ns, kw, ls, en, kn, fm, mk, tr, cn, ho, rfl, rfl, h1, h2, h3, h4, h5⟩ := I
  have J : i_Rel (k + 4) (c, f, sk, se, sv, sd, sr, fo, si, sz, og) (ns, kw, ls, en, kn, fm, mk, tr, cn, ho) := af_rel h1 h2 h3 h4 h5
  have z1 : (v1 < 0 ∨ nI 8 ≤ v1) ∨ ∃ e, e < 8 ∧ v1 = nI e := or_assoc.mpr (pk_ix v1 (by decide))
  have z2 : (v2 < 0 ∨ nI 343 ≤ v2) ∨ ∃ e, e < 343 ∧ v2 = nI e := or_assoc.mpr (pk_ix v2 (by decide))
  rcases z1 with z1 | ⟨p, hp, rfl⟩
  · exact ax_inSpan0 z1 (ay_inSpan0 z1 ⟨rfl, J⟩)
  rcases z2 with z2 | ⟨t, ht, rfl⟩
  · exact ax_inSpan00 hp z2 (ay_inSpan00 hp z2 ⟨rfl, J⟩)
  refine ax_inSpan1 h3 hp ht (fun z => ?_) (fun z => ?_)
  · exact ay_inSpan1 h1 h4 h5 hp ht (fun _ kw' ls' mk' tr' cn' ho' hI' => ⟨rfl, af_rel h1 h2 h3 h4 hI'⟩) (fun w => absurd z w)
  · exact ay_inSpan1 h1 h4 h5 hp ht (fun w => absurd w z) (fun _ kw' ls' mk' tr' cn' ho' hI' => ⟨rfl, af_rel h1 h2 h3 h4 hI'⟩)
theorem i_vc_constant {k : Nat} {u : SX} {v : SY} (I : i_Rel k u v) (hk : k + 4 ≤ 2048) (v1 : Int32) (v2 : Int32) : wpX_constant (fun r => wpY_constant (fun r' v' => r' = r ∧ i_Rel (k + 4) u v') v v1 v2) u v1 v2 := by
  obtain ⟨n, E, K, F, c, f, sk, se, sv, sd, sr, fo, si, sz, og, ns, kw, ls, en, kn, fm, mk, tr, cn, ho, rfl, rfl, h1, h2, h3, h4, h5⟩ := I
  have J : i_Rel (k + 4) (c, f, sk, se, sv, sd, sr, fo, si, sz, og) (ns, kw, ls, en, kn, fm, mk, tr, cn, ho) := af_rel h1 h2 h3 h4 h5
  have z1 : (v1 < 0 ∨ nI 8 ≤ v1) ∨ ∃ e, e < 8 ∧ v1 = nI e := or_assoc.mpr (pk_ix v1 (by decide))
  have z2 : (v2 < 0 ∨ nI 3 ≤ v2) ∨ ∃ e, e < 3 ∧ v2 = nI e := or_assoc.mpr (pk_ix v2 (by decide))
  rcases z1 with z1 | ⟨p, hp, rfl⟩
  · exact ax_constant0 z1 (ay_constant0 z1 ⟨rfl, J⟩)
  rcases z2 with z2 | ⟨q, hq, rfl⟩
  · exact ax_constant00 hp z2 (ay_constant00 hp z2 ⟨rfl, J⟩)
  exact ax_constant1 h3 hp hq (fun r hr => ay_constant1 h1 h4 h5 hp hq (fun r' hr' kw' ls' mk' tr' cn' ho' hI' => ⟨af_Qc_u hr hr', af_rel h1 h2 h3 h4 hI'⟩))
theorem i_vc_implies {k : Nat} {u : SX} {v : SY} (I : i_Rel k u v) (hk : k + 4 ≤ 2048) (v1 : Int32) (v2 : Int32) : wpX_implies (fun r => wpY_implies (fun r' v' => r' = r ∧ i_Rel (k + 4) u v') v v1 v2) u v1 v2 := by
  obtain ⟨n, E, K, F, c, f, sk, se, sv, sd, sr, fo, si, sz, og, ns, kw, ls, en, kn, fm, mk, tr, cn, ho, rfl, rfl, h1, h2, h3, h4, h5⟩ := I
  have J : i_Rel (k + 4) (c, f, sk, se, sv, sd, sr, fo, si, sz, og) (ns, kw, ls, en, kn, fm, mk, tr, cn, ho) := af_rel h1 h2 h3 h4 h5
  have z1 : (v1 < 0 ∨ nI 8 ≤ v1) ∨ ∃ e, e < 8 ∧ v1 = nI e := or_assoc.mpr (pk_ix v1 (by decide))
  have z2 : (v2 < 0 ∨ nI 8 ≤ v2) ∨ ∃ e, e < 8 ∧ v2 = nI e := or_assoc.mpr (pk_ix v2 (by decide))
  rcases z1 with z1 | ⟨p, hp, rfl⟩
  · exact ax_implies0 z1 (ay_implies0 z1 ⟨rfl, J⟩)
  rcases z2 with z2 | ⟨q, hq, rfl⟩
  · exact ax_implies00 hp z2 (ay_implies00 hp z2 ⟨rfl, J⟩)
  refine ax_implies1 h3 hp hq (fun z => ?_) (fun z => ?_)
  · exact ay_implies1 h1 h4 h5 hp hq (fun _ kw' ls' mk' tr' cn' ho' hI' => ⟨rfl, af_rel h1 h2 h3 h4 hI'⟩) (fun w => absurd z w)
  · exact ay_implies1 h1 h4 h5 hp hq (fun w => absurd w z) (fun _ kw' ls' mk' tr' cn' ho' hI' => ⟨rfl, af_rel h1 h2 h3 h4 hI'⟩)
theorem i_vc_loosest {k : Nat} {u : SX} {v : SY} (I : i_Rel k u v) (hk : k + 4 ≤ 2048) : wpX_loosest (fun r => wpY_loosest (fun r' v' => r' = r ∧ i_Rel (k + 4) u v') v) u := by
  obtain ⟨n, E, K, F, c, f, sk, se, sv, sd, sr, fo, si, sz, og, ns, kw, ls, en, kn, fm, mk, tr, cn, ho, rfl, rfl, h1, h2, h3, h4, h5⟩ := I
  exact ax_loosest h3 (fun g q hV => ay_loosest h1 h4 h5 (fun g' q' hV' kw' ls' mk' tr' cn' ho' hI' => ⟨by rw [af_V_u (by decide) hV hV'], af_rel h1 h2 h3 h4 hI'⟩))
