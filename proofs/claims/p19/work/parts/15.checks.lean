/-! the law's two checks -/
def bd_RX (W H : Nat) (p : Nat → Int32) (t : Nat) (lb kn pa st ar : Nat → Int32) : Prop :=
  ∃ L, bd_F W H p L t lb kn pa st ∧ (∀ k, k < t → ar k = bd_fin W H p L kn pa k)
def bd_Iv (u : St2) : Prop :=
  ∃ (W H t : Nat) (tr : Int32) (px fl lb qu kn pa st ln ar ii : Nat → Int32), u = (nI W, nI H, tr, nI t, px, fl, lb, qu, kn, pa, st, ln, ar, ii) ∧ bd_B W H px fl ∧ ((tr = 0 ∧ t = 0) ∨ (tr = 1 ∧ bd_RX W H px t lb kn pa st ar))
section
variable {W H t : Nat} {tr tt : Int32} {px fl lb qu kn pa st ln ar ii : Nat → Int32} {L : Nat → Nat}
theorem bd_iv0 (h : bd_B W H px fl) : bd_Iv (nI W, nI H, 0, 0, px, fl, lb, qu, kn, pa, st, ln, ar, ii) := ⟨W, H, 0, 0, px, fl, lb, qu, kn, pa, st, ln, ar, ii, rfl, h, Or.inl ⟨rfl, rfl⟩⟩
theorem bd_iv (h : bd_B W H px fl) (h2 : (tr = 0 ∧ t = 0) ∨ (tr = 1 ∧ bd_RX W H px t lb kn pa st ar)) : bd_Iv (nI W, nI H, tr, nI t, px, fl, lb, qu, kn, pa, st, ln, ar, ii) := ⟨W, H, t, tr, px, fl, lb, qu, kn, pa, st, ln, ar, ii, rfl, h, h2⟩
theorem l_setPixel {post : Int32 → St2 → Prop} {u : St2} (I : bd_Iv u) (hp : ∀ r u', bd_Iv u' → post r u') (v1 v2 v3 : Int32) : wpX_setPixel post u v1 v2 v3 := by
  have I0 := I
  obtain ⟨W, H, t, tr, px, fl, lb, qu, kn, pa, st, ln, ar, ii, rfl, hB, hR⟩ := I
  have hW := hB.2.1
  have hH := hB.2.2.2.1
  have h256 := bd_B_256 hB
  unfold wpX_setPixel
  dsimp only
  refine x_pix hW hH (fun a b ea eb ha hb => br_f bd_10 ?_) (fun _ => br_t rfl (hp _ _ I0))
  subst ea eb
  have hv : vp_in (nI (b * 16 + a)) 256 := vp_in_nI (by omega) (by omega)
  have hc : (nI (b * 16 + a)).toNatClampNeg = b * 16 + a := nI_clamp (by omega)
  refine x_ri (br_c (fun _ => ⟨hv, nm_r (congrArg (fun z => upd px z 0) hc) (x_inv (hp _ _ (bd_iv0 (bd_B_fl (bd_B_put hB ha hb (Or.inl rfl)) (fun _ _ => rfl)))) h256)⟩) (fun _ => ⟨hv, nm_r (congrArg (fun z => upd px z 1) hc) (x_inv (hp _ _ (bd_iv0 (bd_B_fl (bd_B_put hB ha hb (Or.inr rfl)) (fun _ _ => rfl)))) h256)⟩))
theorem l_setRow {post : Int32 → St2 → Prop} {u : St2} (I : bd_Iv u) (hp : ∀ r u', bd_Iv u' → post r u') (v1 v2 : Int32) : wpX_setRow post u v1 v2 := by
  have I0 := I
  obtain ⟨W, H, t, tr, px, fl, lb, qu, kn, pa, st, ln, ar, ii, rfl, hB, hR⟩ := I
  have hW := hB.2.1
  have hH := hB.2.2.2.1
  have h256 := bd_B_256 hB
  by_cases h0 : v1 < 0
  · exact br_t h0 (hp _ _ I0)
  · obtain ⟨b, hb, rfl⟩ := nI_of h0
    by_cases h1 : nI b < nI H
    · have hbH : b < H := by
        rw [nI_ltI hb (by omega)] at h1
        exact h1
      exact br_f h0 (br_t h1 ⟨W + 1, x_row hW hH hbH h256 (hp _ _ (bd_iv0 (bd_B_fl (bd_B_row hB hbH v2 (Nat.le_refl W)) (fun _ _ => rfl)))) W 0 (by omega) (W + 1) (by omega)⟩)
    · exact br_f h0 (br_f h1 (hp _ _ I0))
theorem l_trace {post : Int32 → St2 → Prop} {u : St2} (I : bd_Iv u) (hp : ∀ r u', bd_Iv u' → post r u') : wpX_trace post u := by
  obtain ⟨W, H, t, tr, px, fl, lb, qu, kn, pa, st, ln, ar, ii, rfl, hB, hR⟩ := I
  have h256 := bd_B_256 hB
  obtain ⟨L, hL⟩ := bd_LS_ex W H px
  have hC : bd_C W H px L := ⟨hB.1, hB.2.1, hB.2.2.1, hB.2.2.2.1, hB.2.2.2.2.1, hL⟩
  exact x_trace hC h256 (fun lb qu ln ar hF hl ha => hp _ _ (bd_iv (bd_B_fl hB (fun _ _ => rfl)) (Or.inr ⟨rfl, L, hF, ha⟩)))
theorem l_toggle {post : Int32 → St2 → Prop} {u : St2} (I : bd_Iv u) (hp : ∀ r u', bd_Iv u' → post r u') (v1 : Int32) : wpX_toggleFill post u v1 := by
  have I0 := I
  obtain ⟨W, H, t, tr, px, fl, lb, qu, kn, pa, st, ln, ar, ii, rfl, hB, hR⟩ := I
  have ht : t ≤ 256 := by
    rcases hR with ⟨_, h⟩ | ⟨_, L, hF, _⟩
    · omega
    · exact bd_F_t hF
  unfold wpX_toggleFill
  dsimp only
  refine x_isC ht (fun j ej hj => br_f bd_10 ?_) (fun _ => br_t rfl (hp _ _ I0))
  subst ej
  have hR' := hR
  rcases hR with ⟨_, h⟩ | ⟨_, L, hF, _⟩
  · omega
  · exact x_tog hF hj (fun ii => hp _ _ (bd_iv (bd_B_fl hB (fun i hi => (bd_tg_out hi).trans (hB.2.2.2.2.2 i hi).2)) hR'))
theorem l_count {post : Int32 → Prop} {u : St2} (I : bd_Iv u) (hp : ∀ r, (r = -1 ∨ ∃ j, j ≤ 256 ∧ r = nI j) → post r) : wpX_contourCount post u := by
  obtain ⟨W, H, t, tr, px, fl, lb, qu, kn, pa, st, ln, ar, ii, rfl, hB, hR⟩ := I
  have ht : t ≤ 256 := by
    rcases hR with ⟨_, h⟩ | ⟨_, L, hF, _⟩
    · omega
    · exact bd_F_t hF
  exact br_c (fun _ => hp _ (Or.inl rfl)) (fun _ => hp _ (Or.inr ⟨t, ht, rfl⟩))
/-! fillOk -/
theorem l_fp {x y : Int32} {A B : Prop} (hW : W ≤ 16) (hH : H ≤ 16) (h : A) : wpX_getFilled (fun r1 => wpX_getPixel (fun r2 => (r1 = r2 → A) ∧ (¬ r1 = r2 → B)) (nI W, nI H, tr, tt, px, px, lb, qu, kn, pa, st, ln, ar, ii) x y) (nI W, nI H, tr, tt, px, px, lb, qu, kn, pa, st, ln, ar, ii) x y := by
  unfold wpX_getFilled wpX_getPixel
  dsimp only
  refine x_pix hW hH (fun a b ea eb ha hb => br_f bd_10 ?_) (fun hno => br_t rfl (x_pix hW hH (fun a b ea eb ha hb => (hno a b ea eb ha hb).elim) (fun _ => br_t rfl (br_t rfl h))))
  subst ea eb
  have hv : vp_in (nI (b * 16 + a)) 256 := vp_in_nI (by omega) (by omega)
  exact x_ri ⟨hv, x_pix hW hH (fun _ _ _ _ _ _ => br_f bd_10 (x_ri ⟨hv, br_t rfl h⟩)) (fun hno => (hno a b rfl rfl ha hb).elim)⟩
theorem l_gp {post : Int32 → Prop} {a b : Nat} (hB : bd_B W H px fl) (ha : a < 16) (hb : b < 16) (h : post (px (b * 16 + a))) : wpX_getPixel post (nI W, nI H, tr, tt, px, fl, lb, qu, kn, pa, st, ln, ar, ii) (nI a) (nI b) := by
  have hW := hB.2.1
  have hH := hB.2.2.2.1
  unfold wpX_getPixel
  dsimp only
  refine x_pix hW hH (fun a' b' ea eb ha' hb' => br_f bd_10 ?_) (fun hno => br_t rfl ?_)
  · refine x_ri ⟨vp_in_nI (by omega) (by omega), ?_⟩
    rw [nI_clamp (by omega)]
    exact h
  · rw [(hB.2.2.2.2.2 (b * 16 + a) (fun z => hno a b rfl rfl (by omega) (by omega))).1] at h
    exact h
theorem l_feb {post : Int32 → Prop} (hp : post 1) : ∀ e i, i + e = 256 → ∀ n, e < n → wX_filledEqualsBitmap_2 post (nI W) (nI H) tr tt px px lb qu kn pa st ln ar ii n (nI i) := by
  intro e
  induction e with
  | zero =>
    intro i hi n hn
    obtain ⟨n, rfl⟩ : ∃ m, n = m + 1 := ⟨n - 1, by omega⟩
    exact br_t (nI_le (a := 256) (by omega) (by omega)) hp
  | succ e ih =>
    intro i hi n hn
    obtain ⟨n, rfl⟩ : ∃ m, n = m + 1 := ⟨n - 1, by omega⟩
    have hv : vp_in (nI i) 256 := vp_in_nI (by omega) (by omega)
    exact br_f (nI_ge (b := 256) (by omega) (by omega)) ⟨hv, hv, br_t rfl (nm_r (nI_1 i) (ih (i + 1) (by omega) n (by omega)))⟩
theorem l_f79 {post : Int32 → St2 → Prop} {J : Int32 → Int32 → Prop} {x1 : Int32} (hB : bd_B W H px fl) {b : Nat} (hb : b < 16) (hJ : J (nI (bd_ct (fun i => px i = 1) ((b + 1) * 16))) (nI (b + 1))) :
    ∀ e a, a + e = 16 → ∀ n, e < n → wL_fillOk_79 post J x1 (nI b) (nI W) (nI H) tr tt px fl lb qu kn pa st ln ar ii n (nI (bd_ct (fun i => px i = 1) (b * 16 + a))) (nI a) := by
  intro e
  induction e with
  | zero =>
    intro a ha n hn
    obtain ⟨n, rfl⟩ : ∃ m, n = m + 1 := ⟨n - 1, by omega⟩
    rw [show b * 16 + a = (b + 1) * 16 from by omega]
    exact br_t (nI_le (a := 16) (by omega) (by omega)) (nm_r (nI_1 b) hJ)
  | succ e ih =>
    intro a ha n hn
    obtain ⟨n, rfl⟩ : ∃ m, n = m + 1 := ⟨n - 1, by omega⟩
    have next := ih (a + 1) (by omega) n (by omega)
    rw [← Nat.add_assoc] at next
    refine br_f (nI_ge (b := 16) (by omega) (by omega)) (l_gp hB (by omega) hb (br_c (fun z => ?_) (fun z => ?_)))
    · rw [bd_ct_t (P := fun i => px i = 1) z] at next
      exact nm_r (nI_1 _) (nm_r (nI_1 a) next)
    · rw [bd_ct_f (P := fun i => px i = 1) z] at next
      exact nm_r (nI_1 a) next
theorem l_f70 {post : Int32 → St2 → Prop} (hB : bd_B W H px fl) (hp : post 1 (nI W, nI H, tr, tt, px, fl, lb, qu, kn, pa, st, ln, ar, ii)) :
    ∀ e b, b + e = 16 → ∀ n, e < n → wL_fillOk_70 post (nI (bd_ct (fun i => px i = 1) 256)) (nI W) (nI H) tr tt px fl lb qu kn pa st ln ar ii n (nI (bd_ct (fun i => px i = 1) (b * 16))) (nI b) := by
  intro e
  induction e with
  | zero =>
    intro b hb n hn
    obtain ⟨n, rfl⟩ : ∃ m, n = m + 1 := ⟨n - 1, by omega⟩
    have : b = 16 := by omega
    subst this
    exact br_t (nI_le (a := 16) (by omega) (by omega)) (br_t rfl hp)
  | succ e ih =>
    intro b hb n hn
    obtain ⟨n, rfl⟩ : ∃ m, n = m + 1 := ⟨n - 1, by omega⟩
    exact br_f (nI_ge (b := 16) (by omega) (by omega)) ⟨17, l_f79 hB (by omega) (ih (b + 1) (by omega) n (by omega)) 16 0 rfl 17 (by omega)⟩
theorem bd_cd17 {d : Nat} (h : d < 18) : ¬ (16 : Int32) < bd_cd d := by
  show ¬ bd_cd 17 < bd_cd d
  rw [bd_cd_lt (by omega) (by omega)]
  omega
theorem bd_cdp1 : ∀ a : Nat, bd_cd a + 1 = bd_cd (a + 1)
  | 0 => by decide +kernel
  | a + 1 => nI_1 a
theorem l_f22 {post : Int32 → St2 → Prop} {J : Int32 → Prop} {x1 : Int32} (hW : W ≤ 16) (hH : H ≤ 16) {d : Nat} (hJ : J (bd_cd (d + 1))) :
    ∀ e a, a + e = 18 → ∀ n, e < n → wL_fillOk_22 post J x1 (bd_cd d) (nI W) (nI H) tr tt px px lb qu kn pa st ln ar ii n (bd_cd a) := by
  intro e
  induction e with
  | zero =>
    intro a ha n hn
    obtain ⟨n, rfl⟩ : ∃ m, n = m + 1 := ⟨n - 1, by omega⟩
    have : a = 18 := by omega
    subst this
    exact br_t (by decide) (nm_r (bd_cdp1 d) hJ)
  | succ e ih =>
    intro a ha n hn
    obtain ⟨n, rfl⟩ : ∃ m, n = m + 1 := ⟨n - 1, by omega⟩
    exact br_f (bd_cd17 (by omega)) (l_fp hW hH (nm_r (bd_cdp1 a) (ih (a + 1) (by omega) n (by omega))))
theorem l_f14 {post : Int32 → St2 → Prop} (hB : bd_B W H px px) (hp : post 1 (nI W, nI H, tr, tt, px, px, lb, qu, kn, pa, st, ln, ar, ii)) :
    ∀ e d, d + e = 18 → ∀ n, e < n → wL_fillOk_14 post (nI (bd_ct (fun i => px i = 1) 256)) (nI W) (nI H) tr tt px px lb qu kn pa st ln ar ii n (bd_cd d) := by
  intro e
  induction e with
  | zero =>
    intro d hd n hn
    obtain ⟨n, rfl⟩ : ∃ m, n = m + 1 := ⟨n - 1, by omega⟩
    have : d = 18 := by omega
    subst this
    refine br_t (by decide) ⟨257, l_feb (br_f bd_10 ⟨17, ?_⟩) 256 0 rfl 257 (by omega)⟩
    exact l_f70 hB hp 16 0 rfl 17 (by omega)
  | succ e ih =>
    intro d hd n hn
    obtain ⟨n, rfl⟩ : ∃ m, n = m + 1 := ⟨n - 1, by omega⟩
    exact br_f (bd_cd17 (by omega)) ⟨19, l_f22 hB.2.1 hB.2.2.2.1 (ih (d + 1) (by omega) n (by omega)) 18 0 rfl 19 (by omega)⟩
theorem l_fill {post : Int32 → St2 → Prop} {u : St2} (I : bd_Iv u) (hp : ∀ u', bd_Iv u' → post 1 u') : wpL_fillOk post u := by
  have I0 := I
  obtain ⟨W, H, t, tr, px, fl, lb, qu, kn, pa, st, ln, ar, ii, rfl, hB, hR⟩ := I
  have h256 := bd_B_256 hB
  unfold wpL_fillOk
  dsimp only
  by_cases e : tr = 0
  · exact br_t e (br_t rfl (hp _ I0))
  · have hR' := hR
    obtain ⟨_, L, hF, _⟩ := hR.resolve_left (fun z => e z.1)
    have hfa := bd_fa_px hF (fun i hi => (hB.2.2.2.2.2 i hi).1)
    have hB' : bd_B W H px px := bd_B_fl hB (fun i hi => (hB.2.2.2.2.2 i hi).1)
    have hct := bd_ct_le (fun i => px i = 1) 256
    refine x_fill hF e h256 (fun ii => ?_)
    rw [hfa, bd_sm_ct hB.2.2.2.2.1]
    refine br_f (bd_nI_m1 (by omega)) ⟨19, l_f14 hB' (hp _ (bd_iv hB' hR')) 18 0 rfl 19 (by omega)⟩
end
