def ay_S (n : Nat) (E K F : Nat → Nat) (ns : Int32) (en kn fm : Nat → Int32) : Prop := ns = nI n ∧ ∀ i, i < n → en i = nI (E i) ∧ kn i = nI (K i) ∧ fm i = nI (F i)
/-- what is marked is reached -/
def ay_M (n : Nat) (E K F : Nat → Nat) (m : Nat → Int32) : Prop := ∀ s, s < 2744 → ¬ m s = 0 → af_Rc n E K F s
noncomputable def ay_ct (m : Nat → Int32) : Nat := af_ct (fun s => ¬ m s = 0) 2744
/-- marks may have come; r tells whether -/
def ay_G (m m' : Nat → Int32) (r : Int32) : Prop := (∀ x, ¬ m x = 0 → ¬ m' x = 0) ∧ ((r = 0 ∧ ∀ x, ¬ m' x = 0 → ¬ m x = 0) ∨ (r = 1 ∧ ay_ct m < ay_ct m'))
theorem ay_G_rf {m : Nat → Int32} : ay_G m m 0 := ⟨fun _ h => h, Or.inl ⟨rfl, fun _ h => h⟩⟩
theorem ay_G_n {m m' : Nat → Int32} {r : Int32} (h : ay_G m m' r) : narrow .boolean (.int r) = .int r := by
  rcases h.2 with ⟨e, _⟩ | ⟨e, _⟩
  · rw [e]; exact af_n0
  · rw [e]; exact af_n1
theorem ay_G_1 {m m' : Nat → Int32} {r : Int32} (h : ay_G m m' r) (hr : ¬ r = 0) : r = 1 := by
  rcases h.2 with ⟨e, _⟩ | ⟨e, _⟩
  · exact absurd e hr
  · exact e
theorem ay_ct_mono {m m' : Nat → Int32} (h : ∀ x, ¬ m x = 0 → ¬ m' x = 0) : ay_ct m ≤ ay_ct m' := af_ct_mono 2744 (fun i _ => h i)
theorem ay_G_t0 {m m' m'' : Nat → Int32} {a : Int32} (h : ay_G m m' a) (h' : ay_G m' m'' 0) : ay_G m m'' a := by
  have h2 : ∀ x, ¬ m'' x = 0 → ¬ m' x = 0 := by
    rcases h'.2 with ⟨_, z⟩ | ⟨z, _⟩
    · exact z
    · exact absurd z (by decide)
  refine ⟨fun x hx => h'.1 x (h.1 x hx), ?_⟩
  rcases h.2 with ⟨e, z⟩ | ⟨e, z⟩
  · exact Or.inl ⟨e, fun x hx => z x (h2 x hx)⟩
  · exact Or.inr ⟨e, Nat.lt_of_lt_of_le z (ay_ct_mono h'.1)⟩
theorem ay_G_t1 {m m' m'' : Nat → Int32} {a r : Int32} (h : ay_G m m' a) (h' : ay_G m' m'' r) (hr : ¬ r = 0) : ay_G m m'' 1 := by
  refine ⟨fun x hx => h'.1 x (h.1 x hx), Or.inr ⟨rfl, ?_⟩⟩
  rcases h'.2 with ⟨e, _⟩ | ⟨_, z⟩
  · exact absurd e hr
  · exact Nat.lt_of_le_of_lt (ay_ct_mono h.1) z
section
variable {n : Nat} {E K F : Nat → Nat} {post : Int32 → SY → Prop} {ns kw ls : Int32} {en kn fm mk tr cn ho : Nat → Int32}
theorem ay_mark0 {p t : Nat} (hp : p < 8) (ht : t < 343) (h1 : mk (343 * p + t) = 0 → post 1 (ns, kw, ls, en, kn, fm, upd mk (343 * p + t) 1, tr, cn, ho)) (h0 : ¬ mk (343 * p + t) = 0 → post 0 (ns, kw, ls, en, kn, fm, upd mk (343 * p + t) 1, tr, cn, ho)) : wpY_mark post (ns, kw, ls, en, kn, fm, mk, tr, cn, ho) (nI p) (nI t) := by
  have hin : vp_in (nI (343 * p + t)) 2744 := vp_in_nI (by omega) (by decide)
  unfold wpY_mark wY_mark_20
  dsimp only
  rw [af_m343, nI_add, nI_clamp (by omega), af_b1]
  exact ⟨hin, br_c (fun z => ⟨hin, nm_e ⟨af_n1, h1 z⟩⟩) (fun z => ⟨hin, nm_e ⟨af_n0, h0 z⟩⟩)⟩
theorem ay_mark {p t : Nat} (hM : ay_M n E K F mk) (hp : p < 8) (ht : t < 343) (hR : af_Rc n E K F (343 * p + t)) (h : ∀ r mk', ay_M n E K F mk' → ay_G mk mk' r → ¬ mk' (343 * p + t) = 0 → post r (ns, kw, ls, en, kn, fm, mk', tr, cn, ho)) : wpY_mark post (ns, kw, ls, en, kn, fm, mk, tr, cn, ho) (nI p) (nI t) := by
  have hM' : ay_M n E K F (upd mk (343 * p + t) 1) := by
    intro s hs hne
    rcases af_upd_ne.mp hne with z | z
    · exact hM s hs z
    · rw [z]; exact hR
  have hup : ∀ x, ¬ mk x = 0 → ¬ upd mk (343 * p + t) 1 x = 0 := fun x hx => af_upd_ne.mpr (Or.inl hx)
  have hs : ¬ upd mk (343 * p + t) 1 (343 * p + t) = 0 := af_upd_ne.mpr (Or.inr rfl)
  refine ay_mark0 hp ht (fun z => h 1 _ hM' ⟨hup, Or.inr ⟨rfl, ?_⟩⟩ hs) (fun z => h 0 _ hM' ⟨hup, Or.inl ⟨rfl, fun x hx => ?_⟩⟩ hs)
  · exact af_ct_lt (fun i _ => hup i) (by omega) hs (fun k => k z)
  · rcases af_upd_ne.mp hx with q | q
    · exact q
    · rw [q]; exact z
theorem ay_take94 {m0 : Nat → Int32} {i t p : Nat} (hi : i < 12) (ht : t < 343) (hp : p < 8) (hk : kn i = nI (K i)) (k3 : 3 ≤ K i) (k6 : K i < 6) (hR : ∀ v, v < 7 → af_Rc n E K F (343 * p + af_wv t (K i - 3) v)) (h : ∀ r mk', ay_M n E K F mk' → ay_G m0 mk' r → (∀ v, v < 7 → ¬ mk' (343 * p + af_wv t (K i - 3) v) = 0) → post r (ns, kw, ls, en, kn, fm, mk', tr, cn, ho)) : ∀ (d j : Nat) (a : Int32) (mk : Nat → Int32), j + d = 7 → ay_M n E K F mk → ay_G m0 mk a → (∀ v, v < j → ¬ mk (343 * p + af_wv t (K i - 3) v) = 0) → wY_take_94 post (nI i) (nI t) (nI p) (d + 1) a (nI j) ns kw ls en kn fm mk tr cn ho := by
  intro d
  induction d with
  | zero =>
    intro j a mk hj hM hG hv
    have e : j = 7 := by omega
    subst e
    exact br_t (nI_le (a := 7) (b := 7) (by decide) (by decide)) ⟨ay_G_n hG, h a mk hM hG hv⟩
  | succ d ih =>
    intro j a mk hj hM hG hv
    refine br_f (nI_ge (a := j) (b := 7) (by omega) (by decide)) ⟨vp_in_nI hi (by decide), ?_⟩
    rw [nI_clamp (by omega), hk, show nI (K i) - 3 = nI (K i - 3) from pk_sub k3]
    refine ay_with ht (by omega) (by omega) ?_
    have hw := af_wv_lt (t := t) (k := K i - 3) (v := j) ht (by omega)
    refine ay_mark hM hp hw (hR j (by omega)) (fun r mk' hM' hG' hm => ?_)
    have hv' : ∀ v, v < j + 1 → ¬ mk' (343 * p + af_wv t (K i - 3) v) = 0 := by
      intro v hvj
      by_cases e : v = j
      · subst e; exact hm
      · exact hG'.1 _ (hv v (by omega))
    refine br_c (fun z => ?_) (fun z => nm_r (nI_1 j) (ih (j + 1) 1 mk' (by omega) hM' (ay_G_t1 hG hG' z) hv'))
    subst z
    have hG2 := ay_G_t0 hG hG'
    refine br_c (fun z => ?_) (fun z => ?_)
    · subst z
      exact nm_r (nI_1 j) (ih (j + 1) 0 mk' (by omega) hM' hG2 hv')
    · have e := ay_G_1 hG2 z
      rw [e] at hG2
      exact nm_r (nI_1 j) (ih (j + 1) 1 mk' (by omega) hM' hG2 hv')
theorem ay_take {i t : Nat} (hSt : af_St n E K F) (hS : ay_S n E K F ns en kn fm) (hM : ay_M n E K F mk) (hi : i < n) (ht : t < 343) (hR : af_Rc n E K F (343 * (E i % 8) + t)) (h : ∀ r mk', ay_M n E K F mk' → ay_G mk mk' r → (∀ t', af_Sc (K i) (F i) t t' → ¬ mk' (343 * (E i / 8) + t') = 0) → post r (ns, kw, ls, en, kn, fm, mk', tr, cn, ho)) : wpY_take post (ns, kw, ls, en, kn, fm, mk, tr, cn, ho) (nI i) (nI t) := by
  obtain ⟨hn, hE⟩ := hSt
  obtain ⟨e1, e2, e3⟩ := hE i hi
  obtain ⟨s1, s2, s3⟩ := hS.2 i hi
  have hin : vp_in (nI i) 12 := vp_in_nI (by omega) (by decide)
  have hl := af_lf_le (F i) t
  unfold wpY_take
  dsimp only
  rw [nI_clamp (by omega), s1, s2, s3, af_d8 (by omega)]
  refine ⟨hin, by decide, nm_e ⟨hin, pk_eq (K i) 6 (fun k6 => ?_) (fun k6 => ⟨hin, pk_le 3 (K i) (fun k3 => ⟨8, ?_⟩) (fun k3 => ⟨hin, ay_left e3 ht ⟨hin, by decide, by decide, ?_⟩⟩)⟩)⟩⟩
  · refine ay_mark hM (by omega) ht (af_Rc_s hi ht hR (Or.inl ⟨k6, rfl⟩)) (fun r mk' hM' hG' hm => ⟨ay_G_n hG', h r mk' hM' hG' (fun t' ht' => ?_)⟩)
    rcases ht' with ⟨_, rfl⟩ | ⟨z, _⟩ | ⟨_, z, _⟩
    · exact hm
    · omega
    · omega
  · refine ay_take94 (n := n) (E := E) (K := K) (F := F) (m0 := mk) (by omega) ht (by omega) s2 k3 (by omega) (fun v hv => af_Rc_s hi ht hR (Or.inr (Or.inr ⟨k3, by omega, v, hv, rfl⟩))) (fun r mk' hM' hG' hm => h r mk' hM' hG' (fun t' ht' => ?_)) 7 0 0 mk (by decide) hM ay_G_rf (fun v hv => by omega)
    rcases ht' with ⟨z, _⟩ | ⟨z, _⟩ | ⟨_, _, v, hv, rfl⟩
    · omega
    · omega
    · exact hm v hv
  · refine nm_r (e' := nI ((af_lf (F i) t + F i / 343) % 7)) (by rw [af_d343 (by omega), nI_add, af_r7 (by omega)]) ⟨hin, ay_with ht k3 (by omega) ?_⟩
    have hw := af_wv_lt (t := t) (k := K i) (v := (af_lf (F i) t + F i / 343) % 7) ht (by omega)
    refine ay_mark hM (by omega) hw (af_Rc_s hi ht hR (Or.inr (Or.inl ⟨k3, rfl⟩))) (fun r mk' hM' hG' hm => ⟨ay_G_n hG', h r mk' hM' hG' (fun t' ht' => ?_)⟩)
    rcases ht' with ⟨z, _⟩ | ⟨_, rfl⟩ | ⟨z, _⟩
    · omega
    · exact hm
    · omega
end
/-- the marks are closed as far as the pass has come -/
def ay_C (E K F : Nat → Nat) (m : Nat → Int32) (k : Nat) : Prop := ∀ q, q < k → ¬ m (343 * (E (q / 343) % 8) + q % 343) = 0 → ∀ t', af_Sc (K (q / 343)) (F (q / 343)) (q % 343) t' → ¬ m (343 * (E (q / 343) / 8) + t') = 0
/-- the listed triples of a point, the states below x being done -/
def ay_P (m : Nat → Int32) (x : Nat) (tr cn : Nat → Int32) (p : Nat) : Prop := ∃ k, cn p = nI k ∧ k ≤ 343 ∧ k ≤ x - 343 * p ∧ (∀ j, j < k → ∃ t, t < 343 ∧ 343 * p + t < x ∧ tr (343 * p + j) = nI t ∧ ¬ m (343 * p + t) = 0) ∧ (∀ t, t < 343 → 343 * p + t < x → ¬ m (343 * p + t) = 0 → ∃ j, j < k ∧ tr (343 * p + j) = nI t)
/-- the lists of Y, when they are known -/
def ay_K (R : Nat → Prop) (tr cn : Nat → Int32) : Prop := ∀ p, p < 8 → ∃ k, cn p = nI k ∧ k ≤ 343 ∧ (∀ j, j < k → ∃ t, t < 343 ∧ tr (343 * p + j) = nI t ∧ R (343 * p + t)) ∧ (∀ t, t < 343 → R (343 * p + t) → ∃ j, j < k ∧ tr (343 * p + j) = nI t)
section
variable {n : Nat} {E K F : Nat → Nat} {post : SY → Prop} {ns kw ls : Int32} {en kn fm mk tr cn ho : Nat → Int32}
theorem ay_53 {J : Int32 → Int32 → Int32 → Int32 → (Nat → Int32) → (Nat → Int32) → (Nat → Int32) → (Nat → Int32) → (Nat → Int32) → (Nat → Int32) → (Nat → Int32) → Prop} {m0 : Nat → Int32} (hSt : af_St n E K F) (hS : ay_S n E K F ns en kn fm) (h : ∀ r mk', ay_M n E K F mk' → ay_G m0 mk' r → (r = 0 → ay_C E K F mk' (343 * n)) → J r ns kw ls en kn fm mk' tr cn ho) : ∀ (d k : Nat) (a : Int32) (mk : Nat → Int32), k + d = 343 * n → ay_M n E K F mk → ay_G m0 mk a → (a = 0 → ay_C E K F mk k) → wY_work_53 post J (d + 1) a (nI k) ns kw ls en kn fm mk tr cn ho := by
  have hn : n ≤ 12 := hSt.1
  have ec := hS.1
  intro d
  induction d with
  | zero =>
    intro k a mk hk hM hG hC
    have e : k = 343 * n := by omega
    subst e
    refine br_t ?_ (h a mk hM hG hC)
    rw [ec, af_m343]
    exact nI_le (Nat.le_refl _) (by omega)
  | succ d ih =>
    intro k a mk hk hM hG hC
    have hi : k / 343 < n := by omega
    have ht : k % 343 < 343 := by omega
    obtain ⟨e1, e2, e3⟩ := hSt.2 _ hi
    obtain ⟨s1, s2, s3⟩ := hS.2 _ hi
    refine br_f (by rw [ec, af_m343]; exact nI_ge (by omega) (by omega)) ⟨by decide, nm_r (af_d343 (by omega)) ?_⟩
    rw [nI_clamp (by omega), s1, af_r8 (by omega), af_r343 (by omega), af_m343, nI_add, nI_clamp (by omega)]
    refine ⟨vp_in_nI (by omega) (by decide), by decide, by decide, vp_in_nI (by omega) (by decide), br_c (fun z => ?_) (fun z => ⟨by decide, ?_⟩)⟩
    · refine nm_r (nI_1 k) (ih (k + 1) a mk (by omega) hM hG (fun ha q hq hm t' ht' => ?_))
      by_cases e : q = k
      · subst e; exact absurd z hm
      · exact hC ha q (by omega) hm t' ht'
    · refine ay_take hSt hS hM hi ht (hM _ (by omega) z) (fun r mk' hM' hG' hm => ?_)
      refine br_c (fun zr => ?_) (fun zr => ?_)
      · subst zr
        refine nm_r (nI_1 k) (ih (k + 1) a mk' (by omega) hM' (ay_G_t0 hG hG') (fun ha q hq hmq t' ht' => ?_))
        by_cases e : q = k
        · subst e; exact hm t' ht'
        · have hb : ∀ x, ¬ mk' x = 0 → ¬ mk x = 0 := by
            rcases hG'.2 with ⟨_, w⟩ | ⟨w, _⟩
            · exact w
            · exact absurd w (by decide)
          exact hG'.1 _ (hC ha q (by omega) (hb _ hmq) t' ht')
      · exact nm_r (nI_1 k) (ih (k + 1) 1 mk' (by omega) hM' (ay_G_t1 hG hG' zr) (fun w => absurd w af_10))
theorem ay_closed (hSt : af_St n E K F) (hM : ay_M n E K F mk) (h0 : ¬ mk 0 = 0) (hC : ay_C E K F mk (343 * n)) : ∀ s, s < 2744 → (¬ mk s = 0 ↔ af_Rc n E K F s) := by
  intro s hs
  refine ⟨hM s hs, fun hr => ?_⟩
  refine (hr (fun s => s < 2744 ∧ ¬ mk s = 0) ⟨⟨by decide, h0⟩, fun i hi t ht hP t' ht' => ?_⟩).2
  have hE := (hSt.2 i hi).1
  have hl := af_Sc_lt ht ht'
  have a1 : (343 * i + t) / 343 = i := by omega
  have a2 : (343 * i + t) % 343 = t := by omega
  have q := hC (343 * i + t) (by omega)
  rw [a1, a2] at q
  exact ⟨by omega, q hP.2 t' ht'⟩
theorem ay_45 (hSt : af_St n E K F) (hS : ay_S n E K F ns en kn fm) (h : ∀ mk', (∀ s, s < 2744 → (¬ mk' s = 0 ↔ af_Rc n E K F s)) → ∃ n124, wY_work_124 post ns kw ls n124 0 en kn fm mk' tr cn ho) : ∀ (fu : Nat) (a : Int32) (mk : Nat → Int32), ay_M n E K F mk → ¬ mk 0 = 0 → ((a = 0 ∧ ay_C E K F mk (343 * n) ∧ 1 ≤ fu) ∨ (a = 1 ∧ 2744 - ay_ct mk + 2 ≤ fu)) → wY_work_45 post fu a ns kw ls en kn fm mk tr cn ho := by
  intro fu
  induction fu with
  | zero =>
    intro a mk hM h0 hf
    rcases hf with ⟨_, _, z⟩ | ⟨_, z⟩
    · omega
    · omega
  | succ fu ih =>
    intro a mk hM h0 hf
    rcases hf with ⟨ea, hC, _⟩ | ⟨ea, hf⟩
    · exact br_t ea (h mk (ay_closed hSt hM h0 hC))
    · refine br_f (by rw [ea]; exact af_10) ⟨343 * n + 1, ?_⟩
      refine ay_53 (m0 := mk) hSt hS (fun r mk' hM' hG' hC' => ih r mk' hM' (hG'.1 0 h0) ?_) (343 * n) 0 0 mk (by omega) hM ay_G_rf (fun _ q hq => by omega)
      rcases hG'.2 with ⟨er, _⟩ | ⟨er, hlt⟩
      · exact Or.inl ⟨er, hC' er, by omega⟩
      · refine Or.inr ⟨er, ?_⟩
        have hle : ay_ct mk' ≤ 2744 := af_ct_le _ _
        omega
theorem ay_145 (h : ∀ tr' cn', (∀ p, p < 8 → ay_P mk 2744 tr' cn' p) → post (ns, kw, ls, en, kn, fm, mk, tr', cn', ho)) : ∀ (d x : Nat) (tr cn : Nat → Int32), x + d = 2744 → (∀ p, p < 8 → ay_P mk x tr cn p) → wY_work_145 post ns kw ls (d + 1) (nI x) en kn fm mk tr cn ho := by
  intro d
  induction d with
  | zero =>
    intro x tr cn hx hP
    have e : x = 2744 := by omega
    subst e
    exact br_t (nI_le (a := 2744) (b := 2744) (by decide) (by decide)) (h tr cn hP)
  | succ d ih =>
    intro x tr cn hx hP
    have h8 : x / 343 < 8 := by omega
    have hin : vp_in (nI (x / 343)) 8 := vp_in_nI h8 (by decide)
    refine br_f (nI_ge (a := x) (b := 2744) (by omega) (by decide)) ?_
    rw [nI_clamp (n := x) (by omega)]
    refine ⟨vp_in_nI (by omega) (by decide), br_c (fun z => nm_r (nI_1 x) (ih (x + 1) tr cn (by omega) (fun p hp => ?_))) (fun z => ?_)⟩
    · obtain ⟨k, e1, e2, e3, e4, e5⟩ := hP p hp
      refine ⟨k, e1, e2, by omega, fun j hj => ?_, fun t ht hlt hm => ?_⟩
      · obtain ⟨t, b1, b2, b3, b4⟩ := e4 j hj
        exact ⟨t, b1, by omega, b3, b4⟩
      · by_cases e : 343 * p + t = x
        · rw [e] at hm; exact absurd z hm
        · exact e5 t ht (by omega) hm
    · obtain ⟨k, e1, e2, e3, e4, e5⟩ := hP _ h8
      rw [af_r343 (by omega), af_d343 (by omega), nI_clamp (n := x / 343) (by omega), af_m343, e1, nI_add, nI_clamp (by omega)]
      refine ⟨by decide, by decide, hin, by decide, vp_in_nI (by omega) (by decide), nm_e ⟨by decide, hin, hin, nm_r (e' := upd cn (x / 343) (nI (k + 1))) (by rw [nI_1]) (nm_r (nI_1 x) (ih (x + 1) _ _ (by omega) (fun p hp => ?_)))⟩⟩
      by_cases e : p = x / 343
      · subst e
        refine ⟨k + 1, pk_us, by omega, by omega, fun j hj => ?_, fun t ht hlt hm => ?_⟩
        · by_cases ej : j = k
          · subst ej
            exact ⟨x % 343, by omega, by omega, pk_us, by rw [show 343 * (x / 343) + x % 343 = x from by omega]; exact z⟩
          · obtain ⟨t, b1, b2, b3, b4⟩ := e4 j (by omega)
            exact ⟨t, b1, by omega, (pk_un (by omega)).trans b3, b4⟩
        · by_cases et : 343 * (x / 343) + t = x
          · exact ⟨k, by omega, by rw [pk_us]; exact congrArg nI (by omega)⟩
          · obtain ⟨j, b1, b2⟩ := e5 t ht (by omega) hm
            exact ⟨j, by omega, (pk_un (by omega)).trans b2⟩
      · obtain ⟨k', f1, f2, f3, f4, f5⟩ := hP p hp
        refine ⟨k', (pk_un e).trans f1, f2, by omega, fun j hj => ?_, fun t ht hlt hm => ?_⟩
        · obtain ⟨t, b1, b2, b3, b4⟩ := f4 j hj
          exact ⟨t, b1, by omega, (pk_un (by omega)).trans b3, b4⟩
        · obtain ⟨j, b1, b2⟩ := f5 t ht (by omega) hm
          exact ⟨j, b1, (pk_un (by omega)).trans b2⟩
theorem ay_124 (h : ∀ tr' cn', (∀ p, p < 8 → ay_P mk 2744 tr' cn' p) → post (ns, kw, ls, en, kn, fm, mk, tr', cn', ho)) : ∀ (d x : Nat) (cn : Nat → Int32), x + d = 8 → (∀ p, p < x → cn p = 0) → wY_work_124 post ns kw ls (d + 1) (nI x) en kn fm mk tr cn ho := by
  intro d
  induction d with
  | zero =>
    intro x cn hx hz
    have e : x = 8 := by omega
    subst e
    refine br_t (nI_le (a := 8) (b := 8) (by decide) (by decide)) ⟨2745, ay_145 h 2744 0 tr cn (by decide) (fun p hp => ?_)⟩
    exact ⟨0, hz p hp, by omega, by omega, fun j hj => by omega, fun t ht hlt => by omega⟩
  | succ d ih =>
    intro x cn hx hz
    refine br_f (nI_ge (a := x) (b := 8) (by omega) (by decide)) ⟨vp_in_nI (by omega) (by decide), ?_⟩
    rw [nI_clamp (by omega)]
    refine nm_e (nm_r (nI_1 x) (ih (x + 1) _ (by omega) (fun s hs => ?_)))
    by_cases e : s = x
    · subst e; exact pk_us
    · rw [pk_un e]; exact hz s (by omega)
theorem ay_15 (hSt : af_St n E K F) (hS : ay_S n E K F ns en kn fm) (h : ∀ mk' tr' cn', ay_K (af_Rc n E K F) tr' cn' → post (ns, kw, ls, en, kn, fm, mk', tr', cn', ho)) : ∀ (d x : Nat) (mk : Nat → Int32), x + d = 2744 → (∀ s, s < x → (¬ mk s = 0 ↔ s = 0)) → wY_work_15 post ns kw ls (d + 1) (nI x) en kn fm mk tr cn ho := by
  intro d
  induction d with
  | zero =>
    intro x mk hx hz
    have e : x = 2744 := by omega
    subst e
    refine br_t (nI_le (a := 2744) (b := 2744) (by decide) (by decide)) ⟨2746, ay_45 hSt hS (fun mk' hR => ⟨9, ay_124 (fun tr' cn' hP => h mk' tr' cn' (fun p hp => ?_)) 8 0 cn (by decide) (fun p hp => by omega)⟩) 2746 1 mk (fun s hs hne => ?_) ((hz 0 (by decide)).mpr rfl) (Or.inr ⟨rfl, by omega⟩)⟩
    · obtain ⟨k, e1, e2, e3, e4, e5⟩ := hP p hp
      refine ⟨k, e1, e2, fun j hj => ?_, fun t ht hr => e5 t ht (by omega) ((hR _ (by omega)).mpr hr)⟩
      obtain ⟨t, b1, b2, b3, b4⟩ := e4 j hj
      exact ⟨t, b1, b3, (hR _ (by omega)).mp b4⟩
    · rw [(hz s hs).mp hne]; exact af_Rc_0
  | succ d ih =>
    intro x mk hx hz
    have hin : vp_in (nI x) 2744 := vp_in_nI (by omega) (by decide)
    refine br_f (nI_ge (a := x) (b := 2744) (by omega) (by decide)) ?_
    rw [nI_clamp (by omega), af_b0, af_b1]
    refine pk_eq x 0 (fun e => ⟨hin, nm_e (nm_r (nI_1 x) (ih (x + 1) _ (by omega) (fun s hs => ?_)))⟩) (fun e => ⟨hin, nm_e (nm_r (nI_1 x) (ih (x + 1) _ (by omega) (fun s hs => ?_)))⟩)
    · have es : s = x := by omega
      subst es
      rw [pk_us]
      exact ⟨fun _ => e, fun _ => af_10⟩
    · by_cases es : s = x
      · subst es
        rw [pk_us]
        exact ⟨fun k => absurd rfl k, fun k => absurd k e⟩
      · rw [pk_un es]; exact hz s (by omega)
/-- what Y's tables say -/
def ay_I (R : Nat → Prop) (kw : Int32) (tr cn : Nat → Int32) : Prop := kw = 0 ∨ (¬ kw = 0 ∧ ay_K R tr cn)
theorem ay_work (hSt : af_St n E K F) (hS : ay_S n E K F ns en kn fm) (hI : ay_I (af_Rc n E K F) kw tr cn) (h : ∀ kw' mk' tr' cn', ¬ kw' = 0 → ay_K (af_Rc n E K F) tr' cn' → post (ns, kw', ls, en, kn, fm, mk', tr', cn', ho)) : wpY_work post (ns, kw, ls, en, kn, fm, mk, tr, cn, ho) := by
  rcases hI with z | ⟨z, hK⟩
  · exact br_t z ⟨2745, ay_15 hSt hS (fun mk' tr' cn' hK => h 1 mk' tr' cn' af_10 hK) 2744 0 mk (by decide) (fun s hs => by omega)⟩
  · exact br_f z (h kw mk tr cn z hK)
end
