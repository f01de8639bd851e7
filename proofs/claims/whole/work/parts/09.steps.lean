/-- a table with one entry more -/
def af_ap (n e : Nat) (E : Nat → Nat) : Nat → Nat := fun i => if i = n then e else E i
theorem af_ap_s {n e : Nat} {E : Nat → Nat} : af_ap n e E n = e := if_pos rfl
theorem af_ap_n {n e i : Nat} {E : Nat → Nat} (h : i ≠ n) : af_ap n e E i = E i := if_neg h
theorem af_St_ap {n e k g : Nat} {E K F : Nat → Nat} (h : af_St n E K F) (hn : n < 12) (he : e < 64) (hk : k < 7) (hg : g < 2401) : af_St (n + 1) (af_ap n e E) (af_ap n k K) (af_ap n g F) := by
  refine ⟨hn, fun i hi => ?_⟩
  by_cases e : i = n
  · subst e
    rw [af_ap_s, af_ap_s, af_ap_s]
    exact ⟨he, hk, hg⟩
  · rw [af_ap_n e, af_ap_n e, af_ap_n e]
    exact h.2 i (by omega)
theorem af_St_dn {n : Nat} {E K F : Nat → Nat} (h : af_St (n + 1) E K F) : af_St n E K F := ⟨by have := h.1; omega, fun i hi => h.2 i (by omega)⟩
theorem af_St_0 {E K F : Nat → Nat} : af_St 0 E K F := ⟨by decide, fun i hi => by omega⟩
section
variable {n : Nat} {E K F : Nat → Nat} {c f : Int32} {sk se sv sd sr fo si sz og : Nat → Int32}
theorem ax_S_ap {e k g : Nat} (h : ax_S n E K F c sk se sv sd) : ax_S (n + 1) (af_ap n e E) (af_ap n k K) (af_ap n g F) (nI (n + 1)) (upd sk n (nI (af_kd k))) (upd se n (nI e)) (upd sv n (nI (k % 3))) (upd sd n (nI g)) := by
  refine ⟨rfl, fun i hi => ?_⟩
  by_cases e : i = n
  · subst e
    rw [af_ap_s, af_ap_s, af_ap_s]
    exact ⟨pk_us, pk_us, pk_us, pk_us⟩
  · rw [af_ap_n e, af_ap_n e, af_ap_n e, pk_un e, pk_un e, pk_un e, pk_un e]
    exact h.2 i (by omega)
theorem ax_S_dn {n : Nat} (h : ax_S (n + 1) E K F c sk se sv sd) : ax_S n E K F (nI n) sk se sv sd := ⟨rfl, fun i hi => h.2 i (by omega)⟩
theorem ax_S_0 : ax_S 0 E K F 0 sk se sv sd := ⟨rfl, fun i hi => by omega⟩
theorem ax_add {post : Int32 → SX → Prop} {e k g : Nat} {P0 P2 : Int32} (hSt : af_St n E K F) (hS : ax_S n E K F c sk se sv sd) (he : e < 64) (hk : k < 7) (hg : g < 2401) (h0 : P0 = nI (af_kd k)) (h2 : P2 = nI (k % 3)) (hfull : n = 12 → post (-3) (c, f, sk, se, sv, sd, sr, fo, si, sz, og)) (h : n < 12 → ∀ f' sr' fo' si' sz' og', ax_I (af_Rc (n + 1) (af_ap n e E) (af_ap n k K) (af_ap n g F)) sr' si' sz' og' → post (nI n) (nI (n + 1), f', upd sk n (nI (af_kd k)), upd se n (nI e), upd sv n (nI (k % 3)), upd sd n (nI g), sr', fo', si', sz', og')) : wpX_addStep post (c, f, sk, se, sv, sd, sr, fo, si, sz, og) P0 (nI e) P2 (nI g) := by
  have hn : n ≤ 12 := hSt.1
  have ec := hS.1
  subst ec h0 h2
  unfold wpX_addStep
  dsimp only
  rw [nI_clamp (by omega), nI_1]
  refine pk_lt n 12 (fun z => ?_) (fun z => hfull (by omega))
  have hin : vp_in (nI n) 12 := vp_in_nI z (by decide)
  refine ⟨hin, nm_e ⟨hin, nm_e ⟨hin, nm_e ⟨hin, nm_e (nm_e ?_)⟩⟩⟩⟩
  exact ax_follow (af_St_ap hSt z he hk hg) (ax_S_ap hS) (fun f' sr' fo' si' sz' og' hI => h z f' sr' fo' si' sz' og' hI)
theorem ax_assign0 {post : Int32 → SX → Prop} {x y z : Int32} (h : x < 0 ∨ nI 64 ≤ x) (hp : post (-1) (c, f, sk, se, sv, sd, sr, fo, si, sz, og)) : wpX_assign post (c, f, sk, se, sv, sd, sr, fo, si, sz, og) x y z := by
  unfold wpX_assign
  dsimp only
  exact ax_en0 h (af_i0 hp)
theorem ax_assign00 {post : Int32 → SX → Prop} {e : Nat} {y z : Int32} (he : e < 64) (h : y < 0 ∨ nI 3 ≤ y) (hp : post (-2) (c, f, sk, se, sv, sd, sr, fo, si, sz, og)) : wpX_assign post (c, f, sk, se, sv, sd, sr, fo, si, sz, og) (nI e) y z := by
  unfold wpX_assign
  dsimp only
  exact ax_en1 he (af_i1 (ax_va0 h (af_i0 hp)))
theorem ax_assign000 {post : Int32 → SX → Prop} {e k : Nat} {z : Int32} (he : e < 64) (hk : k < 3) (h : z < 0 ∨ nI 2401 ≤ z) (hp : post (-2) (c, f, sk, se, sv, sd, sr, fo, si, sz, og)) : wpX_assign post (c, f, sk, se, sv, sd, sr, fo, si, sz, og) (nI e) (nI k) z := by
  unfold wpX_assign
  dsimp only
  exact ax_en1 he (af_i1 (ax_va1 hk (af_i1 (ax_dg0 h (af_i0 hp)))))
theorem ax_assign1 {post : Int32 → SX → Prop} {e k g : Nat} (hSt : af_St n E K F) (hS : ax_S n E K F c sk se sv sd) (he : e < 64) (hk : k < 3) (hg : g < 2401) (hfull : n = 12 → post (-3) (c, f, sk, se, sv, sd, sr, fo, si, sz, og)) (h : n < 12 → ∀ f' sr' fo' si' sz' og', ax_I (af_Rc (n + 1) (af_ap n e E) (af_ap n k K) (af_ap n g F)) sr' si' sz' og' → post (nI n) (nI (n + 1), f', upd sk n (nI (af_kd k)), upd se n (nI e), upd sv n (nI (k % 3)), upd sd n (nI g), sr', fo', si', sz', og')) : wpX_assign post (c, f, sk, se, sv, sd, sr, fo, si, sz, og) (nI e) (nI k) (nI g) := by
  unfold wpX_assign
  dsimp only
  refine ax_en1 he (af_i1 (ax_va1 hk (af_i1 (ax_dg1 hg (af_i1 ?_)))))
  exact ax_add (k := k) hSt hS he (by omega) hg (by unfold af_kd; rw [if_pos hk]; rfl) (by rw [Nat.mod_eq_of_lt hk]) hfull h
theorem ax_forget0 {post : Int32 → SX → Prop} {x y : Int32} (h : x < 0 ∨ nI 64 ≤ x) (hp : post (-1) (c, f, sk, se, sv, sd, sr, fo, si, sz, og)) : wpX_forget post (c, f, sk, se, sv, sd, sr, fo, si, sz, og) x y := by
  unfold wpX_forget
  dsimp only
  exact ax_en0 h (af_i0 hp)
theorem ax_forget00 {post : Int32 → SX → Prop} {e : Nat} {y : Int32} (he : e < 64) (h : y < 0 ∨ nI 3 ≤ y) (hp : post (-2) (c, f, sk, se, sv, sd, sr, fo, si, sz, og)) : wpX_forget post (c, f, sk, se, sv, sd, sr, fo, si, sz, og) (nI e) y := by
  unfold wpX_forget
  dsimp only
  exact ax_en1 he (af_i1 (ax_va0 h (af_i0 hp)))
theorem ax_forget1 {post : Int32 → SX → Prop} {e k : Nat} (hSt : af_St n E K F) (hS : ax_S n E K F c sk se sv sd) (he : e < 64) (hk : k < 3) (hfull : n = 12 → post (-3) (c, f, sk, se, sv, sd, sr, fo, si, sz, og)) (h : n < 12 → ∀ f' sr' fo' si' sz' og', ax_I (af_Rc (n + 1) (af_ap n e E) (af_ap n (3 + k) K) (af_ap n 0 F)) sr' si' sz' og' → post (nI n) (nI (n + 1), f', upd sk n (nI (af_kd (3 + k))), upd se n (nI e), upd sv n (nI ((3 + k) % 3)), upd sd n (nI 0), sr', fo', si', sz', og')) : wpX_forget post (c, f, sk, se, sv, sd, sr, fo, si, sz, og) (nI e) (nI k) := by
  unfold wpX_forget
  dsimp only
  refine ax_en1 he (af_i1 (ax_va1 hk (af_i1 ?_)))
  exact ax_add (k := 3 + k) (g := 0) hSt hS he (by omega) (by decide) (by unfold af_kd; rw [if_neg (by omega), if_pos (by omega)]; rfl) (congrArg nI (by omega)) hfull h
theorem ax_pass0 {post : Int32 → SX → Prop} {x : Int32} (h : x < 0 ∨ nI 64 ≤ x) (hp : post (-1) (c, f, sk, se, sv, sd, sr, fo, si, sz, og)) : wpX_pass post (c, f, sk, se, sv, sd, sr, fo, si, sz, og) x := by
  unfold wpX_pass
  dsimp only
  exact ax_en0 h (af_i0 hp)
theorem ax_pass1 {post : Int32 → SX → Prop} {e : Nat} (hSt : af_St n E K F) (hS : ax_S n E K F c sk se sv sd) (he : e < 64) (hfull : n = 12 → post (-3) (c, f, sk, se, sv, sd, sr, fo, si, sz, og)) (h : n < 12 → ∀ f' sr' fo' si' sz' og', ax_I (af_Rc (n + 1) (af_ap n e E) (af_ap n 6 K) (af_ap n 0 F)) sr' si' sz' og' → post (nI n) (nI (n + 1), f', upd sk n (nI (af_kd 6)), upd se n (nI e), upd sv n (nI (6 % 3)), upd sd n (nI 0), sr', fo', si', sz', og')) : wpX_pass post (c, f, sk, se, sv, sd, sr, fo, si, sz, og) (nI e) := by
  unfold wpX_pass
  dsimp only
  refine ax_en1 he (af_i1 ?_)
  exact ax_add (k := 6) (g := 0) hSt hS he (by decide) (by decide) rfl rfl hfull h
end
section
variable {n : Nat} {E K F : Nat → Nat} {post : Int32 → SY → Prop} {ns kw ls : Int32} {en kn fm mk tr cn ho : Nat → Int32}
theorem ay_S_ap {e k g : Nat} (h : ay_S n E K F ns en kn fm) : ay_S (n + 1) (af_ap n e E) (af_ap n k K) (af_ap n g F) (nI (n + 1)) (upd en n (nI e)) (upd kn n (nI k)) (upd fm n (nI g)) := by
  refine ⟨rfl, fun i hi => ?_⟩
  by_cases e : i = n
  · subst e
    rw [af_ap_s, af_ap_s, af_ap_s]
    exact ⟨pk_us, pk_us, pk_us⟩
  · rw [af_ap_n e, af_ap_n e, af_ap_n e, pk_un e, pk_un e, pk_un e]
    exact h.2 i (by omega)
theorem ay_S_dn {n : Nat} (h : ay_S (n + 1) E K F ns en kn fm) : ay_S n E K F (nI n) en kn fm := ⟨rfl, fun i hi => h.2 i (by omega)⟩
theorem ay_S_0 : ay_S 0 E K F 0 en kn fm := ⟨rfl, fun i hi => by omega⟩
theorem ay_add {e k g : Nat} {P1 : Int32} (hSt : af_St n E K F) (hS : ay_S n E K F ns en kn fm) (h1 : P1 = nI k) (hfull : n = 12 → post (-3) (ns, kw, ls, en, kn, fm, mk, tr, cn, ho)) (h : n < 12 → post (nI n) (nI (n + 1), 0, ls, upd en n (nI e), upd kn n (nI k), upd fm n (nI g), mk, tr, cn, ho)) : wpY_add post (ns, kw, ls, en, kn, fm, mk, tr, cn, ho) (nI e) P1 (nI g) := by
  have hn : n ≤ 12 := hSt.1
  have ec := hS.1
  subst ec h1
  unfold wpY_add
  dsimp only
  rw [nI_clamp (by omega), nI_1]
  refine pk_eq n 12 (fun z => hfull z) (fun z => ?_)
  have hin : vp_in (nI n) 12 := vp_in_nI (by omega) (by decide)
  refine ⟨hin, nm_e ⟨hin, nm_e ⟨hin, nm_e (nm_e ?_)⟩⟩⟩
  rw [nI_pred]
  exact h (by omega)
theorem ay_assign0 {x y z : Int32} (h : x < 0 ∨ nI 64 ≤ x) (hp : post (-1) (ns, kw, ls, en, kn, fm, mk, tr, cn, ho)) : wpY_assign post (ns, kw, ls, en, kn, fm, mk, tr, cn, ho) x y z := ay_b0 63 rfl (by decide) h hp hp
theorem ay_assign00 {e : Nat} {y z : Int32} (he : e < 64) (h : y < 0 ∨ nI 3 ≤ y) (hp : post (-2) (ns, kw, ls, en, kn, fm, mk, tr, cn, ho)) : wpY_assign post (ns, kw, ls, en, kn, fm, mk, tr, cn, ho) (nI e) y z := ay_b1 63 rfl (by decide) he (ay_c0 2 rfl (by decide) h hp hp)
theorem ay_assign000 {e k : Nat} {z : Int32} (he : e < 64) (hk : k < 3) (h : z < 0 ∨ nI 2401 ≤ z) (hp : post (-2) (ns, kw, ls, en, kn, fm, mk, tr, cn, ho)) : wpY_assign post (ns, kw, ls, en, kn, fm, mk, tr, cn, ho) (nI e) (nI k) z := ay_b1 63 rfl (by decide) he (ay_c1 2 rfl (by decide) hk (ay_dg0 h (af_i0 hp)))
theorem ay_assign1 {e k g : Nat} (hSt : af_St n E K F) (hS : ay_S n E K F ns en kn fm) (he : e < 64) (hk : k < 3) (hg : g < 2401) (hfull : n = 12 → post (-3) (ns, kw, ls, en, kn, fm, mk, tr, cn, ho)) (h : n < 12 → post (nI n) (nI (n + 1), 0, ls, upd en n (nI e), upd kn n (nI k), upd fm n (nI g), mk, tr, cn, ho)) : wpY_assign post (ns, kw, ls, en, kn, fm, mk, tr, cn, ho) (nI e) (nI k) (nI g) := ay_b1 63 rfl (by decide) he (ay_c1 2 rfl (by decide) hk (ay_dg1 hg (af_i1 (ay_add hSt hS rfl hfull h))))
theorem ay_forget0 {x y : Int32} (h : x < 0 ∨ nI 64 ≤ x) (hp : post (-1) (ns, kw, ls, en, kn, fm, mk, tr, cn, ho)) : wpY_forget post (ns, kw, ls, en, kn, fm, mk, tr, cn, ho) x y := ay_b0 63 rfl (by decide) h hp hp
theorem ay_forget00 {e : Nat} {y : Int32} (he : e < 64) (h : y < 0 ∨ nI 3 ≤ y) (hp : post (-2) (ns, kw, ls, en, kn, fm, mk, tr, cn, ho)) : wpY_forget post (ns, kw, ls, en, kn, fm, mk, tr, cn, ho) (nI e) y := ay_b1 63 rfl (by decide) he (ay_b0 2 rfl (by decide) h hp hp)
theorem ay_forget1 {e k : Nat} (hSt : af_St n E K F) (hS : ay_S n E K F ns en kn fm) (he : e < 64) (hk : k < 3) (hfull : n = 12 → post (-3) (ns, kw, ls, en, kn, fm, mk, tr, cn, ho)) (h : n < 12 → post (nI n) (nI (n + 1), 0, ls, upd en n (nI e), upd kn n (nI (3 + k)), upd fm n (nI 0), mk, tr, cn, ho)) : wpY_forget post (ns, kw, ls, en, kn, fm, mk, tr, cn, ho) (nI e) (nI k) := ay_b1 63 rfl (by decide) he (ay_b1 2 rfl (by decide) hk (ay_add (k := 3 + k) (g := 0) hSt hS (nI_add 3 k) hfull h))
theorem ay_pass0 {x : Int32} (h : x < 0 ∨ nI 64 ≤ x) (hp : post (-1) (ns, kw, ls, en, kn, fm, mk, tr, cn, ho)) : wpY_pass post (ns, kw, ls, en, kn, fm, mk, tr, cn, ho) x := ay_b0 63 rfl (by decide) h hp hp
theorem ay_pass1 {e : Nat} (hSt : af_St n E K F) (hS : ay_S n E K F ns en kn fm) (he : e < 64) (hfull : n = 12 → post (-3) (ns, kw, ls, en, kn, fm, mk, tr, cn, ho)) (h : n < 12 → post (nI n) (nI (n + 1), 0, ls, upd en n (nI e), upd kn n (nI 6), upd fm n (nI 0), mk, tr, cn, ho)) : wpY_pass post (ns, kw, ls, en, kn, fm, mk, tr, cn, ho) (nI e) := ay_b1 63 rfl (by decide) he (ay_add (k := 6) (g := 0) hSt hS rfl hfull h)
end
