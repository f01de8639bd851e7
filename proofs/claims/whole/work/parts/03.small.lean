theorem af_b1 : vp_nar .boolean 1 = 1 := by rfl
theorem af_b0 : vp_nar .boolean 0 = 0 := by rfl
theorem af_n1 : narrow .boolean (.int 1) = .int 1 := by rfl
theorem af_n0 : narrow .boolean (.int 0) = .int 0 := by rfl
theorem af_10 : ¬ (1 : Int32) = 0 := by decide
theorem af_r7 {a : Nat} (h : a < 2 ^ 31) : nI a - nI a / 7 * 7 = nI (a % 7) := pk_rem h (by decide) (by decide)
theorem af_r8 {a : Nat} (h : a < 2 ^ 31) : nI a - nI a / 8 * 8 = nI (a % 8) := pk_rem h (by decide) (by decide)
theorem af_r49 {a : Nat} (h : a < 2 ^ 31) : nI a - nI a / 49 * 49 = nI (a % 49) := pk_rem h (by decide) (by decide)
theorem af_r343 {a : Nat} (h : a < 2 ^ 31) : nI a - nI a / 343 * 343 = nI (a % 343) := pk_rem h (by decide) (by decide)
theorem af_d7 {a : Nat} (h : a < 2 ^ 31) : nI a / 7 = nI (a / 7) := pk_div h (by decide) (by decide)
theorem af_d8 {a : Nat} (h : a < 2 ^ 31) : nI a / 8 = nI (a / 8) := pk_div h (by decide) (by decide)
theorem af_d49 {a : Nat} (h : a < 2 ^ 31) : nI a / 49 = nI (a / 49) := pk_div h (by decide) (by decide)
theorem af_d343 {a : Nat} (h : a < 2 ^ 31) : nI a / 343 = nI (a / 343) := pk_div h (by decide) (by decide)
theorem af_7m (a : Nat) : 7 * nI a = nI (7 * a) := pk_mul 7 a
theorem af_49m (a : Nat) : 49 * nI a = nI (49 * a) := pk_mul 49 a
theorem af_343m (a : Nat) : 343 * nI a = nI (343 * a) := pk_mul 343 a
theorem af_m343 (a : Nat) : nI a * 343 = nI (343 * a) := by rw [Nat.mul_comm]; exact pk_mul a 343
theorem af_m49 (a : Nat) : nI a * 49 = nI (a * 49) := pk_mul a 49
theorem af_a7 (a : Nat) : nI a + 7 = nI (a + 7) := nI_add a 7
theorem af_m7 (a b : Nat) : a % 7 * (b % 7) ≤ 36 := Nat.mul_le_mul (show a % 7 ≤ 6 by omega) (show b % 7 ≤ 6 by omega)
theorem af_lf_le (e t : Nat) : af_lf e t ≤ 108 := by
  have h1 := af_m7 e t
  have h2 := af_m7 (e / 7) (t / 7)
  have h3 := af_m7 (e / 49) (t / 49)
  unfold af_lf
  omega
theorem ax_left {post : Int32 → Prop} {e t : Nat} (he : e < 2401) (ht : t < 343) (h : post (nI (af_lf e t % 7))) : wpX_leftSide post (nI e) (nI t) := by
  have hb := af_lf_le e t
  refine ⟨by decide, by decide, fun a ea => ⟨by decide, by decide, by decide, by decide, fun b eb => ⟨by decide, by decide, by decide, by decide, fun c ec => ⟨by decide, ?_⟩⟩⟩⟩
  rw [af_r7 (by omega), af_r7 (by omega), pk_mul] at ea
  rw [af_d7 (a := e) (by omega), af_d7 (a := t) (by omega), af_r7 (by omega), af_r7 (by omega), pk_mul] at eb
  rw [af_d49 (a := e) (by omega), af_d49 (a := t) (by omega), af_r7 (by omega), af_r7 (by omega), pk_mul] at ec
  rw [ea, eb, ec, nI_add, nI_add]
  show post (nI (af_lf e t) - nI (af_lf e t) / 7 * 7)
  rw [af_r7 (by omega)]
  exact h
theorem ax_right {post : Int32 → Prop} {e : Nat} (he : e < 2401) (h : post (nI (e / 343 % 7))) : wpX_rightSide post (nI e) := by
  refine ⟨by decide, by decide, ?_⟩
  rw [af_d343 (a := e) (by omega), af_r7 (by omega)]
  exact h
theorem ay_left {post : Int32 → Prop} {u : SY} {e t : Nat} (he : e < 2401) (ht : t < 343) (h : post (nI (af_lf e t))) : wpY_left post u (nI e) (nI t) := by
  refine ⟨by decide, by decide, by decide, by decide, by decide, by decide, by decide, by decide, by decide, ?_⟩
  rw [af_r7 (a := e) (by omega), af_r7 (a := t) (by omega), pk_mul, af_d7 (a := e) (by omega), af_d7 (a := t) (by omega), af_r7 (by omega), af_r7 (by omega), pk_mul, af_d49 (a := e) (by omega), af_d49 (a := t) (by omega), af_r7 (by omega), pk_mul, nI_add, nI_add]
  unfold af_lf at h
  rw [Nat.mod_eq_of_lt (show t / 49 < 7 by omega)] at h
  exact h
theorem af_wv_lt {t k v : Nat} (ht : t < 343) (hv : v < 7) : af_wv t k v < 343 := by
  unfold af_wv
  split
  · omega
  · split <;> omega
theorem af_wv1 {t v : Nat} : nI t + 7 * (nI v - nI (t / 7 % 7)) = nI (t % 7 + 7 * v + t / 49 * 49) := by
  have h1 : nI t = nI (t % 7 + t / 49 * 49) + 7 * nI (t / 7 % 7) := by
    rw [af_7m, nI_add]
    exact congrArg nI (by omega)
  have h2 : nI (t % 7 + 7 * v + t / 49 * 49) = nI (t % 7 + t / 49 * 49) + 7 * nI v := by
    rw [af_7m, nI_add]
    exact congrArg nI (by omega)
  rw [h2]
  generalize nI (t / 7 % 7) = y at *
  generalize nI (t % 7 + t / 49 * 49) = x at *
  rw [h1]
  grind
theorem ax_with {post : Int32 → Prop} {t k v : Nat} (ht : t < 343) (hk : k < 3) (hv : v < 7) (h : post (nI (af_wv t k v))) : wpX_withValue post (nI t) (nI k) (nI v) := by
  refine pk_eq k 0 (fun e => ⟨by decide, ?_⟩) (fun e => pk_eq k 1 (fun e1 => ⟨by decide, by decide, ?_⟩) (fun e1 => ⟨by decide, ?_⟩))
  · unfold af_wv at h
    rw [if_pos e] at h
    rw [af_r7 (by omega), pk_sub (by omega), nI_add]
    exact h
  · unfold af_wv at h
    rw [if_neg e, if_pos e1] at h
    rw [af_d7 (by omega), af_r7 (by omega), af_wv1]
    exact h
  · unfold af_wv at h
    rw [if_neg e, if_neg e1] at h
    rw [af_r49 (by omega), af_49m, nI_add]
    exact h
theorem ay_with {post : Int32 → Prop} {u : SY} {t k v : Nat} (ht : t < 343) (hk : k < 3) (hv : v < 7) (h : post (nI (af_wv t k v))) : wpY_with post u (nI t) (nI k) (nI v) := by
  refine pk_eq k 0 (fun e => ⟨by decide, ?_⟩) (fun e => pk_eq k 1 (fun e1 => ⟨by decide, by decide, ?_⟩) (fun e1 => ⟨by decide, ?_⟩))
  · unfold af_wv at h
    rw [if_pos e] at h
    rw [af_r7 (by omega), pk_sub (by omega), nI_add]
    exact h
  · unfold af_wv at h
    rw [if_neg e, if_pos e1] at h
    rw [af_r7 (by omega), af_7m, nI_add, af_d49 (by omega), af_m49, nI_add]
    exact h
  · unfold af_wv at h
    rw [if_neg e, if_neg e1] at h
    rw [af_r49 (by omega), af_49m, nI_add]
    exact h
theorem af_way_le {s w o : Nat} (hs : s < 7) : s * (w % 7 + 7 - o % 7) ≤ 78 := Nat.mul_le_mul (show s ≤ 6 by omega) (show w % 7 + 7 - o % 7 ≤ 13 by omega)
theorem ax_shifted {post : Int32 → Prop} {t s o w : Nat} (ht : t < 343) (hs : s < 7) (ho : o < 343) (hw : w < 343) (h : post (nI (af_sh t s o w))) : wpX_shifted post (nI t) (nI s) (nI o) (nI w) := by
  have b1 := af_way_le (s := s) (w := w) (o := o) hs
  have b2 := af_way_le (s := s) (w := w / 7) (o := o / 7) hs
  have b3 := af_way_le (s := s) (w := w / 49) (o := o / 49) hs
  refine ⟨by decide, by decide, fun a ea => ⟨by decide, by decide, by decide, by decide, fun b eb => ⟨by decide, by decide, by decide, by decide, fun c ec => ⟨by decide, by decide, fun x ex => ⟨by decide, by decide, by decide, fun y ey => ⟨by decide, by decide, by decide, fun z ez => ?_⟩⟩⟩⟩⟩⟩
  rw [af_r7 (a := w) (by omega), af_r7 (a := o) (by omega), af_a7, pk_sub (by omega)] at ea
  rw [af_d7 (a := w) (by omega), af_d7 (a := o) (by omega), af_r7 (by omega), af_r7 (by omega), af_a7, pk_sub (by omega)] at eb
  rw [af_d49 (a := w) (by omega), af_d49 (a := o) (by omega), af_r7 (by omega), af_r7 (by omega), af_a7, pk_sub (by omega)] at ec
  rw [ea, pk_mul, af_r7 (a := t) (by omega), nI_add, af_r7 (by omega)] at ex
  rw [eb, pk_mul, af_d7 (a := t) (by omega), af_r7 (a := t / 7) (by omega), nI_add, af_r7 (by omega)] at ey
  rw [ec, pk_mul, af_d49 (a := t) (by omega), af_r7 (a := t / 49) (by omega), nI_add, af_r7 (by omega)] at ez
  rw [ex, ey, ez, af_7m, af_49m, nI_add, nI_add]
  exact h
/-- one variable's value in a triple -/
def af_vl (t k : Nat) : Nat := if k = 0 then t % 7 else if k = 1 then t / 7 % 7 else t / 49 % 7
theorem af_vl_lt (t k : Nat) : af_vl t k < 7 := by
  unfold af_vl
  split
  · omega
  · split <;> omega
theorem ax_valueIn {post : Int32 → Prop} {t k : Nat} (ht : t < 343) (hk : k < 3) (h : post (nI (af_vl t k))) : wpX_valueIn post (nI t) (nI k) := by
  refine pk_eq k 0 (fun e => ⟨by decide, ?_⟩) (fun e => pk_eq k 1 (fun e1 => ⟨by decide, by decide, ?_⟩) (fun e1 => ⟨by decide, by decide, ?_⟩))
  · unfold af_vl at h
    rw [if_pos e] at h
    rw [af_r7 (by omega)]
    exact h
  · unfold af_vl at h
    rw [if_neg e, if_pos e1] at h
    rw [af_d7 (by omega), af_r7 (by omega)]
    exact h
  · unfold af_vl at h
    rw [if_neg e, if_neg e1] at h
    rw [af_d49 (by omega), af_r7 (by omega)]
    exact h
theorem ay_digit {post : Int32 → Prop} {u : SY} {t k : Nat} (ht : t < 343) (hk : k < 3) (h : post (nI (af_vl t k))) : wpY_digit post u (nI t) (nI k) := by
  refine pk_eq k 0 (fun e => ⟨by decide, ?_⟩) (fun e => pk_eq k 1 (fun e1 => ⟨by decide, by decide, ?_⟩) (fun e1 => ⟨by decide, ?_⟩))
  · unfold af_vl at h
    rw [if_pos e] at h
    rw [af_r7 (by omega)]
    exact h
  · unfold af_vl at h
    rw [if_neg e, if_pos e1] at h
    rw [af_d7 (by omega), af_r7 (by omega)]
    exact h
  · unfold af_vl at h
    rw [if_neg e, if_neg e1, Nat.mod_eq_of_lt (show t / 49 < 7 by omega)] at h
    rw [af_d49 (by omega)]
    exact h
theorem ay_keeps {post : Int32 → Prop} {u : SY} {e t : Nat} (he : e < 2401) (ht : t < 343) (h1 : af_kp e t → post 1) (h0 : ¬ af_kp e t → post 0) : wpY_keeps post u (nI e) (nI t) := by
  have hb := af_lf_le e t
  obtain ⟨a1, a2, a3, a4, a5, a6, a7, a8, a9, a10⟩ := u
  unfold wpY_keeps
  dsimp only
  refine ay_left he ht ?_
  refine ⟨by decide, by decide, ?_⟩
  rw [af_r7 (by omega), af_d343 (by omega)]
  have em : e / 343 % 7 = e / 343 := Nat.mod_eq_of_lt (by omega)
  refine pk_eq (af_lf e t % 7) (e / 343) (fun z => h1 ?_) (fun z => h0 ?_)
  · unfold af_kp
    rw [em]
    exact z
  · unfold af_kp
    rw [em]
    exact z
theorem ax_is0 {post : Int32 → Prop} {x M : Int32} (N : Nat) (hM : M = nI N) (h : x < 0 ∨ nI N ≤ x) (hp : post 0) : (x < 0 → post 0) ∧ (¬ x < 0 → ((M ≤ x → post 0) ∧ (¬ M ≤ x → post 1))) := by
  subst hM
  exact h.elim (fun h => br_t h hp) (fun h => br_c (fun _ => hp) (fun _ => br_t h hp))
theorem ax_is1 {post : Int32 → Prop} {M : Int32} (N : Nat) {j : Nat} (hM : M = nI N) (hN : N < 2 ^ 31) (h : j < N) (hp : post 1) : (nI j < 0 → post 0) ∧ (¬ nI j < 0 → ((M ≤ nI j → post 0) ∧ (¬ M ≤ nI j → post 1))) := by
  subst hM
  exact br_f (nI_pos (by omega)) (br_f (nI_ge h hN) hp)
theorem af_i0 {A B : Prop} (a : A) : ((0 : Int32) = 0 → A) ∧ (¬ (0 : Int32) = 0 → B) := br_t rfl a
theorem af_i1 {A B : Prop} (b : B) : ((1 : Int32) = 0 → A) ∧ (¬ (1 : Int32) = 0 → B) := br_f af_10 b
/-- Y's bounds: x < 0, x ≤ M -/
theorem ay_b0 {A B C : Prop} {x M : Int32} (N : Nat) (hM : M = nI N) (hN : N < 2 ^ 30) (h : x < 0 ∨ nI (N + 1) ≤ x) (a : A) (c : C) : (x < 0 → A) ∧ (¬ x < 0 → ((x ≤ M → B) ∧ (¬ x ≤ M → C))) := by
  subst hM
  refine br_c (fun _ => a) (fun z => br_f (fun k => ?_) c)
  obtain ⟨j, hj, rfl⟩ := nI_of z
  have h := h.resolve_left z
  rw [nI_leI (by omega) hj] at h
  rw [nI_leI hj (by omega)] at k
  omega
theorem ay_b1 {A B C : Prop} {M : Int32} (N : Nat) {j : Nat} (hM : M = nI N) (hN : N < 2 ^ 30) (h : j < N + 1) (b : B) : (nI j < 0 → A) ∧ (¬ nI j < 0 → ((nI j ≤ M → B) ∧ (¬ nI j ≤ M → C))) := by
  subst hM
  exact br_f (nI_pos (by omega)) (br_t (nI_le (by omega) (by omega)) b)
/-- Y's bounds the other way about: x < 0, M < x -/
theorem ay_c0 {A B C : Prop} {x M : Int32} (N : Nat) (hM : M = nI N) (hN : N < 2 ^ 30) (h : x < 0 ∨ nI (N + 1) ≤ x) (a : A) (b : B) : (x < 0 → A) ∧ (¬ x < 0 → ((M < x → B) ∧ (¬ M < x → C))) := by
  subst hM
  refine br_c (fun _ => a) (fun z => br_t ?_ b)
  obtain ⟨j, hj, rfl⟩ := nI_of z
  have h := h.resolve_left z
  rw [nI_leI (by omega) hj] at h
  exact nI_lt (by omega) hj
theorem ay_c1 {A B C : Prop} {M : Int32} (N : Nat) {j : Nat} (hM : M = nI N) (hN : N < 2 ^ 30) (h : j < N + 1) (c : C) : (nI j < 0 → A) ∧ (¬ nI j < 0 → ((M < nI j → B) ∧ (¬ M < nI j → C))) := by
  subst hM
  exact br_f (nI_pos (by omega)) (br_f (nI_nlt (by omega) (by omega)) c)
