/-! the methods -/
theorem bd_shr1 (x : Int32) (s : Int32) : (((x.toUInt32 >>> (s.toUInt32 &&& Int32.toUInt32 31)).toInt32) &&& 1) = 0 ∨ (((x.toUInt32 >>> (s.toUInt32 &&& Int32.toUInt32 31)).toInt32) &&& 1) = 1 := by
  obtain ⟨j, hj, e⟩ := pk_andE ((x.toUInt32 >>> (s.toUInt32 &&& Int32.toUInt32 31)).toInt32) (m := 1) 1 (by decide)
  rw [e]
  have : j = 0 ∨ j = 1 := by omega
  rcases this with rfl | rfl
  · exact Or.inl rfl
  · exact Or.inr rfl
theorem bd_B_put {W H : Nat} {px fl : Nat → Int32} (h : bd_B W H px fl) {a b : Nat} (ha : a < W) (hb : b < H) {v : Int32} (hv : v = 0 ∨ v = 1) : bd_B W H (upd px (b * 16 + a) v) fl := by
  obtain ⟨h1, h2, h3, h4, h5, h6⟩ := h
  refine ⟨h1, h2, h3, h4, fun i => ?_, fun i hi => ?_⟩
  · by_cases e : i = b * 16 + a
    · rw [e, pk_us]; exact hv
    · rw [pk_un e]; exact h5 i
  · rw [pk_un]
    · exact h6 i hi
    · intro e
      exact hi ⟨by omega, by omega⟩
theorem bd_B_fl {W H : Nat} {px fl : Nat → Int32} (h : bd_B W H px fl) {fl' : Nat → Int32} (hf : ∀ i, ¬ bd_in W H i → fl' i = 0) : bd_B W H px fl' := by
  obtain ⟨h1, h2, h3, h4, h5, h6⟩ := h
  exact ⟨h1, h2, h3, h4, h5, fun i hi => ⟨(h6 i hi).1, hf i hi⟩⟩
theorem i_vc_setPixel {k : Nat} {u : SX} {v : SY} (I : i_Rel k u v) (hk : k + 5 ≤ 2562) (v1 : Int32) (v2 : Int32) (v3 : Int32) : wpX_setPixel (fun r u' => wpY_setPixel (fun r' v' => r' = r ∧ i_Rel (k + 5) u' v') v v1 v2 v3) u v1 v2 v3 := by
  obtain ⟨W, H, t, tr, px, fl, lb, qu, kn, pa, st, ln, ar, ii, fg, bg, rfl, rfl, hB, hR⟩ := I
  have hW := hB.2.1
  have hH := hB.2.2.2.1
  have h256 := bd_B_256 hB
  unfold wpX_setPixel wpY_setPixel
  dsimp only
  refine x_pix hW hH (fun a b ea eb ha hb => br_f bd_10 ?_) (fun hno => br_t rfl (y_pix hW hH (fun a b ea eb ha hb => (hno a b ea eb ha hb).elim) (fun _ => br_t rfl ⟨rfl, bd_mk _ hB hR⟩)))
  subst ea eb
  have hv : vp_in (nI (b * 16 + a)) 256 := vp_in_nI (by omega) (by omega)
  have hc : (nI (b * 16 + a)).toNatClampNeg = b * 16 + a := nI_clamp (by omega)
  refine x_ri ?_
  have main : ∀ z0 : Int32, (z0 = 0 ∨ z0 = 1) → (wY_setPixel_30 (fun r' v' => r' = 1 ∧ i_Rel (k + 5) (nI W, nI H, 0, 0, upd px (b * 16 + a) z0, fun _ => 0, lb, qu, kn, pa, st, ln, ar, ii) v') z0 (nI (b * 16 + a)) (nI W) (nI H) tr (nI t) px fl fg bg kn st pa) := by
    intro z0 hz
    refine ⟨hv, nm_r (congrArg (fun z => upd px z z0) hc) (y_inv ⟨rfl, bd_mk0 _ (bd_B_fl (bd_B_put hB ha hb hz) (fun _ _ => rfl))⟩ h256)⟩
  refine br_c (fun e => ⟨hv, nm_r (congrArg (fun z => upd px z 0) hc) (x_inv (y_pix hW hH (fun a' b' ea eb ha' hb' => br_f bd_10 (br_t e ?_)) (fun hno => (hno a b rfl rfl ha hb).elim)) h256)⟩) (fun e => ⟨hv, nm_r (congrArg (fun z => upd px z 1) hc) (x_inv (y_pix hW hH (fun a' b' ea eb ha' hb' => br_f bd_10 (br_f e ?_)) (fun hno => (hno a b rfl rfl ha hb).elim)) h256)⟩)
  · rw [bd_ri]
    exact main 0 (Or.inl rfl)
  · rw [bd_ri]
    exact main 1 (Or.inr rfl)
section
variable {W H t : Nat} {tr tt : Int32} {px fl lb qu kn pa st ln ar ii fg bg : Nat → Int32}
/-- a row's bits, cell by cell -/
def bd_row (px : Nat → Int32) (b : Nat) (x : Int32) : Nat → Nat → Int32
  | 0 => px
  | a + 1 => upd (bd_row px b x a) (b * 16 + a) (((x.toUInt32 >>> ((nI a).toUInt32 &&& Int32.toUInt32 31)).toInt32) &&& 1)
theorem bd_B_row (h : bd_B W H px fl) {b : Nat} (hb : b < H) (x : Int32) : ∀ {a : Nat}, a ≤ W → bd_B W H (bd_row px b x a) fl
  | 0, _ => h
  | a + 1, ha => bd_B_put (bd_B_row h hb x (by omega)) (by omega) hb (bd_shr1 _ _)
theorem x_row {post : Int32 → SX → Prop} {b : Nat} {x : Int32} (hW : W ≤ 16) (hH : H ≤ 16) (hb : b < H) (h256 : ∀ j, 256 ≤ j → fl j = 0) (hp : post 1 (nI W, nI H, 0, 0, bd_row px b x W, fun _ => 0, lb, qu, kn, pa, st, ln, ar, ii)) :
    ∀ e a, a + e = W → ∀ n, e < n → wX_setRow_16 post (nI b) x (nI W) (nI H) tr tt n (nI a) (bd_row px b x a) fl lb qu kn pa st ln ar ii := by
  intro e
  induction e with
  | zero =>
    intro a ha n hn
    obtain ⟨n, rfl⟩ : ∃ m, n = m + 1 := ⟨n - 1, by omega⟩
    have : a = W := by omega
    subst this
    exact br_t (nI_le (by omega) (by omega)) (x_inv hp h256)
  | succ e ih =>
    intro a ha n hn
    obtain ⟨n, rfl⟩ : ∃ m, n = m + 1 := ⟨n - 1, by omega⟩
    exact br_f (nI_ge (by omega) (by omega)) (x_ri ⟨vp_in_nI (by omega) (by omega), nm_r (congrArg (fun z => upd (bd_row px b x a) z (((x.toUInt32 >>> ((nI a).toUInt32 &&& Int32.toUInt32 31)).toInt32) &&& 1)) (nI_clamp (by omega))) (nm_r (nI_1 a) (ih (a + 1) (by omega) n (by omega)))⟩)
theorem y_row {post : Int32 → SY → Prop} {b : Nat} {x : Int32} (hW : W ≤ 16) (hH : H ≤ 16) (hb : b < H) (h256 : ∀ j, 256 ≤ j → fl j = 0) (hp : post 1 (nI W, nI H, 0, 0, bd_row px b x W, fun _ => 0, fg, bg, kn, st, pa)) :
    ∀ e a, a + e = W → ∀ n, e < n → wY_setRow_16 post (nI b) x (nI W) (nI H) tr tt n (nI a) (bd_row px b x a) fl fg bg kn st pa := by
  intro e
  induction e with
  | zero =>
    intro a ha n hn
    obtain ⟨n, rfl⟩ : ∃ m, n = m + 1 := ⟨n - 1, by omega⟩
    have : a = W := by omega
    subst this
    exact br_t (nI_le (by omega) (by omega)) (y_inv hp h256)
  | succ e ih =>
    intro a ha n hn
    obtain ⟨n, rfl⟩ : ∃ m, n = m + 1 := ⟨n - 1, by omega⟩
    refine br_f (nI_ge (by omega) (by omega)) ?_
    rw [bd_ri]
    exact ⟨vp_in_nI (by omega) (by omega), nm_r (congrArg (fun z => upd (bd_row px b x a) z (((x.toUInt32 >>> ((nI a).toUInt32 &&& Int32.toUInt32 31)).toInt32) &&& 1)) (nI_clamp (by omega))) (nm_r (nI_1 a) (ih (a + 1) (by omega) n (by omega)))⟩
end
theorem i_vc_setRow {k : Nat} {u : SX} {v : SY} (I : i_Rel k u v) (hk : k + 5 ≤ 2562) (v1 : Int32) (v2 : Int32) : wpX_setRow (fun r u' => wpY_setRow (fun r' v' => r' = r ∧ i_Rel (k + 5) u' v') v v1 v2) u v1 v2 := by
  obtain ⟨W, H, t, tr, px, fl, lb, qu, kn, pa, st, ln, ar, ii, fg, bg, rfl, rfl, hB, hR⟩ := I
  have hW := hB.2.1
  have hH := hB.2.2.2.1
  have h256 := bd_B_256 hB
  by_cases h0 : v1 < 0
  · exact br_t h0 (br_t h0 ⟨rfl, bd_mk _ hB hR⟩)
  · obtain ⟨b, hb, rfl⟩ := nI_of h0
    by_cases h1 : nI b < nI H
    · have hbH : b < H := by
        rw [nI_ltI hb (by omega)] at h1
        exact h1
      refine br_f h0 (br_t h1 ⟨W + 1, x_row hW hH hbH h256 (br_f h0 (br_t h1 ⟨W + 1, y_row hW hH hbH h256 ⟨rfl, ?_⟩ W 0 (by omega) (W + 1) (by omega)⟩)) W 0 (by omega) (W + 1) (by omega)⟩)
      exact bd_mk0 _ (bd_B_fl (bd_B_row hB hbH v2 (Nat.le_refl W)) (fun _ _ => rfl))
    · exact br_f h0 (br_f h1 (br_f h0 (br_f h1 ⟨rfl, bd_mk _ hB hR⟩)))
theorem i_vc_getPixel {k : Nat} {u : SX} {v : SY} (I : i_Rel k u v) (hk : k + 5 ≤ 2562) (v1 : Int32) (v2 : Int32) : wpX_getPixel (fun r => wpY_getPixel (fun r' => r' = r ∧ i_Rel (k + 5) u v) v v1 v2) u v1 v2 := by
  have I' := i_up I
  obtain ⟨W, H, t, tr, px, fl, lb, qu, kn, pa, st, ln, ar, ii, fg, bg, rfl, rfl, hB, hR⟩ := I
  have hW := hB.2.1
  have hH := hB.2.2.2.1
  unfold wpX_getPixel wpY_getPixel
  dsimp only
  refine x_pix hW hH (fun a b ea eb ha hb => br_f bd_10 ?_) (fun hno => br_t rfl (y_pix hW hH (fun a b ea eb ha hb => (hno a b ea eb ha hb).elim) (fun _ => br_t rfl ⟨rfl, I'⟩)))
  subst ea eb
  have hv : vp_in (nI (b * 16 + a)) 256 := vp_in_nI (by omega) (by omega)
  refine x_ri ⟨hv, y_pix hW hH (fun _ _ _ _ _ _ => br_f bd_10 ?_) (fun hno => (hno a b rfl rfl ha hb).elim)⟩
  rw [bd_ri]
  exact ⟨hv, rfl, I'⟩
theorem i_vc_getFilled {k : Nat} {u : SX} {v : SY} (I : i_Rel k u v) (hk : k + 5 ≤ 2562) (v1 : Int32) (v2 : Int32) : wpX_getFilled (fun r => wpY_getFilled (fun r' => r' = r ∧ i_Rel (k + 5) u v) v v1 v2) u v1 v2 := by
  have I' := i_up I
  obtain ⟨W, H, t, tr, px, fl, lb, qu, kn, pa, st, ln, ar, ii, fg, bg, rfl, rfl, hB, hR⟩ := I
  have hW := hB.2.1
  have hH := hB.2.2.2.1
  unfold wpX_getFilled wpY_getFilled
  dsimp only
  refine x_pix hW hH (fun a b ea eb ha hb => br_f bd_10 ?_) (fun hno => br_t rfl (y_pix hW hH (fun a b ea eb ha hb => (hno a b ea eb ha hb).elim) (fun _ => br_t rfl ⟨rfl, I'⟩)))
  subst ea eb
  have hv : vp_in (nI (b * 16 + a)) 256 := vp_in_nI (by omega) (by omega)
  refine x_ri ⟨hv, y_pix hW hH (fun _ _ _ _ _ _ => br_f bd_10 ?_) (fun hno => (hno a b rfl rfl ha hb).elim)⟩
  rw [bd_ri]
  exact ⟨hv, rfl, I'⟩
theorem i_vc_trace {k : Nat} {u : SX} {v : SY} (I : i_Rel k u v) (hk : k + 5 ≤ 2562) : wpX_trace (fun r u' => wpY_trace (fun r' v' => r' = r ∧ i_Rel (k + 5) u' v') v) u := by
  obtain ⟨W, H, t, tr, px, fl, lb, qu, kn, pa, st, ln, ar, ii, fg, bg, rfl, rfl, hB, hR⟩ := I
  have h256 := bd_B_256 hB
  obtain ⟨L, hL⟩ := bd_LS_ex W H px
  have hC : bd_C W H px L := ⟨hB.1, hB.2.1, hB.2.2.1, hB.2.2.2.1, hB.2.2.2.2.1, hL⟩
  refine x_trace hC h256 (fun lb qu ln ar hF hl ha => y_trace hC h256 (fun fg bg hG => ⟨rfl, ?_⟩))
  exact bd_mk _ (bd_B_fl hB (fun _ _ => rfl)) (Or.inr ⟨rfl, L, hF, hG, hl, ha⟩)
theorem i_vc_contourCount {k : Nat} {u : SX} {v : SY} (I : i_Rel k u v) (hk : k + 5 ≤ 2562) : wpX_contourCount (fun r => wpY_contourCount (fun r' => r' = r ∧ i_Rel (k + 5) u v) v) u := by
  have I' := i_up I
  obtain ⟨W, H, t, tr, px, fl, lb, qu, kn, pa, st, ln, ar, ii, fg, bg, rfl, rfl, hB, hR⟩ := I
  exact br_c (fun e => br_t e ⟨rfl, I'⟩) (fun e => br_f e ⟨rfl, I'⟩)
theorem i_vc_contourKind {k : Nat} {u : SX} {v : SY} (I : i_Rel k u v) (hk : k + 5 ≤ 2562) (v1 : Int32) : wpX_contourKind (fun r => wpY_contourKind (fun r' => r' = r ∧ i_Rel (k + 5) u v) v v1) u v1 := by
  have I' := i_up I
  obtain ⟨W, H, t, tr, px, fl, lb, qu, kn, pa, st, ln, ar, ii, fg, bg, rfl, rfl, hB, hR⟩ := I
  have ht := bd_t256 hR
  unfold wpX_contourKind wpY_contourKind
  dsimp only
  refine x_isC ht (fun j ej hj => br_f bd_10 ?_) (fun hno => br_t rfl (y_val ht (fun _ j ej hj => (hno j ej hj).elim) (fun _ => br_t rfl ⟨rfl, I'⟩)))
  subst ej
  have hv : vp_in (nI j) 256 := vp_in_nI (by omega) (by omega)
  exact ⟨hv, y_val ht (fun _ _ _ _ => br_f bd_10 ⟨hv, rfl, I'⟩) (fun hno => (hno (bd_tk hR hj).1 j rfl hj).elim)⟩
theorem i_vc_contourParent {k : Nat} {u : SX} {v : SY} (I : i_Rel k u v) (hk : k + 5 ≤ 2562) (v1 : Int32) : wpX_contourParent (fun r => wpY_contourParent (fun r' => r' = r ∧ i_Rel (k + 5) u v) v v1) u v1 := by
  have I' := i_up I
  obtain ⟨W, H, t, tr, px, fl, lb, qu, kn, pa, st, ln, ar, ii, fg, bg, rfl, rfl, hB, hR⟩ := I
  have ht := bd_t256 hR
  unfold wpX_contourParent wpY_contourParent
  dsimp only
  refine x_isC ht (fun j ej hj => br_f bd_10 ?_) (fun hno => br_t rfl (y_val ht (fun _ j ej hj => (hno j ej hj).elim) (fun _ => br_t rfl ⟨rfl, I'⟩)))
  subst ej
  have hv : vp_in (nI j) 256 := vp_in_nI (by omega) (by omega)
  exact ⟨hv, y_val ht (fun _ _ _ _ => br_f bd_10 ⟨hv, rfl, I'⟩) (fun hno => (hno (bd_tk hR hj).1 j rfl hj).elim)⟩
theorem i_vc_contourStart {k : Nat} {u : SX} {v : SY} (I : i_Rel k u v) (hk : k + 5 ≤ 2562) (v1 : Int32) : wpX_contourStart (fun r => wpY_contourStart (fun r' => r' = r ∧ i_Rel (k + 5) u v) v v1) u v1 := by
  have I' := i_up I
  obtain ⟨W, H, t, tr, px, fl, lb, qu, kn, pa, st, ln, ar, ii, fg, bg, rfl, rfl, hB, hR⟩ := I
  have ht := bd_t256 hR
  unfold wpX_contourStart wpY_contourStart
  dsimp only
  refine x_isC ht (fun j ej hj => br_f bd_10 ?_) (fun hno => br_t rfl (y_val ht (fun _ j ej hj => (hno j ej hj).elim) (fun _ => br_t rfl ⟨rfl, I'⟩)))
  subst ej
  have hv : vp_in (nI j) 256 := vp_in_nI (by omega) (by omega)
  exact ⟨hv, y_val ht (fun _ _ _ _ => br_f bd_10 ⟨hv, rfl, I'⟩) (fun hno => (hno (bd_tk hR hj).1 j rfl hj).elim)⟩
theorem i_vc_contourLength {k : Nat} {u : SX} {v : SY} (I : i_Rel k u v) (hk : k + 5 ≤ 2562) (v1 : Int32) : wpX_contourLength (fun r => wpY_contourLength (fun r' => r' = r ∧ i_Rel (k + 5) u v) v v1) u v1 := by
  have I' := i_up I
  obtain ⟨W, H, t, tr, px, fl, lb, qu, kn, pa, st, ln, ar, ii, fg, bg, rfl, rfl, hB, hR⟩ := I
  have ht := bd_t256 hR
  unfold wpX_contourLength wpY_contourLength
  dsimp only
  refine x_isC ht (fun j ej hj => br_f bd_10 ?_) (fun hno => br_t rfl (y_val ht (fun _ j ej hj => (hno j ej hj).elim) (fun _ => br_t rfl ⟨rfl, I'⟩)))
  subst ej
  obtain ⟨htr, L, hF, hG, hl, ha⟩ := bd_tk hR hj
  have hv : vp_in (nI j) 256 := vp_in_nI (by omega) (by omega)
  refine ⟨hv, y_val ht (fun _ _ _ _ => br_f bd_10 ⟨257, ?_⟩) (fun hno => (hno htr j rfl hj).elim)⟩
  obtain ⟨c, hc, rfl⟩ := bd_F_c hF hj
  rw [nI_clamp (n := bd_N W H px L c) (by omega), hl c hc]
  exact y_l14 (bd_FY hF hG) hc ⟨rfl, I'⟩ 256 0 rfl 257 (by omega)
theorem i_vc_contourArea {k : Nat} {u : SX} {v : SY} (I : i_Rel k u v) (hk : k + 5 ≤ 2562) (v1 : Int32) : wpX_contourArea (fun r => wpY_contourArea (fun r' => r' = r ∧ i_Rel (k + 5) u v) v v1) u v1 := by
  have I' := i_up I
  obtain ⟨W, H, t, tr, px, fl, lb, qu, kn, pa, st, ln, ar, ii, fg, bg, rfl, rfl, hB, hR⟩ := I
  have ht := bd_t256 hR
  unfold wpX_contourArea wpY_contourArea
  dsimp only
  refine x_isC ht (fun j ej hj => br_f bd_10 ?_) (fun hno => br_t rfl (y_val ht (fun _ j ej hj => (hno j ej hj).elim) (fun _ => br_t rfl ⟨rfl, I'⟩)))
  subst ej
  obtain ⟨htr, L, hF, hG, hl, ha⟩ := bd_tk hR hj
  have hv : vp_in (nI j) 256 := vp_in_nI (by omega) (by omega)
  refine ⟨hv, y_val ht (fun _ _ _ _ => br_f bd_10 ⟨257, ?_⟩) (fun hno => (hno htr j rfl hj).elim)⟩
  rw [nI_clamp (n := j) (by omega), ha j hj]
  exact y_a14 hF hG hj ⟨rfl, I'⟩ 256 0 rfl 257 (by omega)
theorem i_vc_contourOf {k : Nat} {u : SX} {v : SY} (I : i_Rel k u v) (hk : k + 5 ≤ 2562) (v1 : Int32) (v2 : Int32) : wpX_contourOf (fun r => wpY_contourOf (fun r' => r' = r ∧ i_Rel (k + 5) u v) v v1 v2) u v1 v2 := by
  have I' := i_up I
  obtain ⟨W, H, t, tr, px, fl, lb, qu, kn, pa, st, ln, ar, ii, fg, bg, rfl, rfl, hB, hR⟩ := I
  have hW := hB.2.1
  have hH := hB.2.2.2.1
  refine br_c (fun e => br_t e ⟨rfl, I'⟩) (fun e => ?_)
  obtain ⟨_, L, hF, hG, _⟩ := hR.resolve_left (fun z => e z.1)
  refine x_labAt hW hH (fun a b ea eb ha hb => ?_) (fun hno => br_f e (y_pix hW hH (fun a b ea eb ha hb => (hno a b ea eb ha hb).elim) (fun _ => br_t rfl ⟨rfl, I'⟩)))
  subst ea eb
  have hin : bd_in W H (b * 16 + a) := ⟨by omega, by omega⟩
  rw [bd_F_lb hF hin]
  refine br_f e (y_pix hW hH (fun _ _ _ _ _ _ => br_f bd_10 ?_) (fun hno => (hno a b rfl rfl ha hb).elim))
  rw [bd_ri]
  exact y_own (bd_FY hF hG) hin ⟨rfl, I'⟩
theorem i_vc_hasEdge {k : Nat} {u : SX} {v : SY} (I : i_Rel k u v) (hk : k + 5 ≤ 2562) (v1 : Int32) (v2 : Int32) (v3 : Int32) (v4 : Int32) : wpX_hasEdge (fun r => wpY_hasEdge (fun r' => r' = r ∧ i_Rel (k + 5) u v) v v1 v2 v3 v4) u v1 v2 v3 v4 := by
  have I' := i_up I
  obtain ⟨W, H, t, tr, px, fl, lb, qu, kn, pa, st, ln, ar, ii, fg, bg, rfl, rfl, hB, hR⟩ := I
  have hW := hB.2.1
  have hH := hB.2.2.2.1
  have ht := bd_t256 hR
  unfold wpX_hasEdge wpY_hasEdge
  dsimp only
  refine x_isC ht (fun j ej hj => br_f bd_10 ?_) (fun hno => br_t rfl (y_val ht (fun _ j ej hj => (hno j ej hj).elim) (fun _ => br_t rfl ⟨rfl, I'⟩)))
  subst ej
  obtain ⟨htr, L, hF, hG, hl, ha⟩ := bd_tk hR hj
  have yv : ∀ {post : Int32 → Prop}, post 1 → wpY_valid post (nI W, nI H, tr, nI t, px, fl, fg, bg, kn, st, pa) (nI j) := fun {post} h => y_val ht (fun _ _ _ _ => h) (fun hno => (hno htr j rfl hj).elim)
  refine x_pix hW hH (fun a b ea eb ha hb => br_f bd_10 ?_) (fun hno => br_t rfl (yv (br_f bd_10 (y_pix hW hH (fun a b ea eb ha hb => (hno a b ea eb ha hb).elim) (fun _ => br_t rfl ⟨rfl, I'⟩)))))
  subst ea eb
  have hin : bd_in W H (b * 16 + a) := ⟨by omega, by omega⟩
  have yp : ∀ {post : Int32 → Prop}, post 1 → wpY_isPixel post (nI W, nI H, tr, nI t, px, fl, fg, bg, kn, st, pa) (nI a) (nI b) := fun {post} h => y_pix hW hH (fun _ _ _ _ _ _ => h) (fun hno => (hno a b rfl rfl ha hb).elim)
  rcases pk_ix v4 (n := 4) (by omega) with h4 | h4 | ⟨s, hs, rfl⟩
  · exact br_t h4 (yv (br_f bd_10 (yp (br_f bd_10 (br_t h4 ⟨rfl, I'⟩)))))
  · have h40 : ¬ v4 < 0 := fun z => by
      rw [Int32.lt_iff_toInt_lt, show (0 : Int32).toInt = 0 from by decide] at z
      rw [Int32.le_iff_toInt_le, nI_toInt (by omega)] at h4
      omega
    have h41 : ¬ v4 < 4 := Int32.not_lt.mpr h4
    have h42 : ¬ v4 ≤ 3 := fun z => by
      rw [Int32.le_iff_toInt_le, show (3 : Int32).toInt = 3 from by decide] at z
      rw [Int32.le_iff_toInt_le, nI_toInt (by omega)] at h4
      omega
    exact br_f h40 (br_f h41 (yv (br_f bd_10 (yp (br_f bd_10 (br_f h40 (br_f h42 ⟨rfl, I'⟩)))))))
  · have h0 : ¬ nI s < 0 := nI_pos (by omega)
    have h1 : nI s < 4 := nI_lt (b := 4) hs (by omega)
    have h3 : nI s ≤ 3 := nI_le (b := 3) (by omega) (by omega)
    obtain ⟨c, hc, rfl⟩ := bd_F_c hF hj
    have hc256 := bd_key_lt hF.1 hc
    refine br_f h0 (br_t h1 (x_ri ⟨vp_in_nI (by omega) (by omega), nm_r ((congrArg lb (nI_clamp (by omega))).trans (bd_F_lb hF hin)) (x_bey hF ha hb hs (x_isB hF hc (bd_F_ow hF hin) (bd_far_le hF ha hb hs) (fun he => ⟨rfl, ?_⟩) (fun he => ⟨rfl, ?_⟩)))⟩))
    · exact yv (br_f bd_10 (yp (br_f bd_10 (br_f h0 (br_t h3 (y_isE (bd_FY hF hG) hc ha hb hs (fun _ => ⟨rfl, rfl, I'⟩) (fun z => absurd he z)))))))
    · exact yv (br_f bd_10 (yp (br_f bd_10 (br_f h0 (br_t h3 (y_isE (bd_FY hF hG) hc ha hb hs (fun z => absurd z he) (fun _ => ⟨rfl, rfl, I'⟩)))))))
theorem bd_tg_out {W H : Nat} {px : Nat → Int32} {L : Nat → Nat} {pa fl : Nat → Int32} {k n i : Nat} (hi : ¬ bd_in W H i) : bd_tg (bd_Qk W H px L pa k) fl n i = fl i :=
  if_neg (fun z => absurd ((bd_Q_out hi).symm.trans z.2) (by decide))
theorem bd_fa_out {W H : Nat} {px : Nat → Int32} {L : Nat → Nat} {pa : Nat → Int32} {i : Nat} (hi : ¬ bd_in W H i) : ∀ k, bd_fa (bd_Qk W H px L pa) k i = 0
  | 0 => rfl
  | k + 1 => (bd_tg_out hi).trans (bd_fa_out hi k)
theorem i_vc_toggleFill {k : Nat} {u : SX} {v : SY} (I : i_Rel k u v) (hk : k + 5 ≤ 2562) (v1 : Int32) : wpX_toggleFill (fun r u' => wpY_toggleFill (fun r' v' => r' = r ∧ i_Rel (k + 5) u' v') v v1) u v1 := by
  obtain ⟨W, H, t, tr, px, fl, lb, qu, kn, pa, st, ln, ar, ii, fg, bg, rfl, rfl, hB, hR⟩ := I
  have ht := bd_t256 hR
  unfold wpX_toggleFill
  dsimp only
  refine x_isC ht (fun j ej hj => br_f bd_10 ?_) (fun hno => br_t rfl ?_)
  · subst ej
    obtain ⟨htr, L, hF, hG, hl, ha⟩ := bd_tk hR hj
    exact x_tog hF hj (fun ii => y_tog hF hG htr hj ⟨rfl, bd_mk _ (bd_B_fl hB (fun i hi => (bd_tg_out hi).trans (hB.2.2.2.2.2 i hi).2)) hR⟩)
  · unfold wpY_toggleFill
    dsimp only
    exact y_val ht (fun _ j ej hj => (hno j ej hj).elim) (fun _ => br_t rfl ⟨rfl, bd_mk _ hB hR⟩)
theorem i_vc_fillAll {k : Nat} {u : SX} {v : SY} (I : i_Rel k u v) (hk : k + 5 ≤ 2562) : wpX_fillAll (fun r u' => wpY_fillAll (fun r' v' => r' = r ∧ i_Rel (k + 5) u' v') v) u := by
  obtain ⟨W, H, t, tr, px, fl, lb, qu, kn, pa, st, ln, ar, ii, fg, bg, rfl, rfl, hB, hR⟩ := I
  have h256 := bd_B_256 hB
  by_cases e : tr = 0
  · exact br_t e (br_t e ⟨rfl, bd_mk _ hB hR⟩)
  · obtain ⟨_, L, hF, hG, _⟩ := hR.resolve_left (fun z => e z.1)
    exact x_fill hF e h256 (fun ii => y_fill hF hG e h256 ⟨rfl, bd_mk _ (bd_B_fl hB (fun i hi => bd_fa_out hi t)) hR⟩)
section
variable {W H t : Nat} {tr tt : Int32} {px fl lb qu kn pa st ln ar ii fg bg : Nat → Int32}
theorem xy_eq (hB : bd_B W H px fl) : ∀ e i, i + e = 256 → ∃ r : Int32, (∀ n, e < n → ∀ post : Int32 → Prop, post r → wX_filledEqualsBitmap_2 post (nI W) (nI H) tr tt px fl lb qu kn pa st ln ar ii n (nI i)) ∧ (∀ n, e < n → ∀ post : Int32 → Prop, post r → wY_filledEqualsBitmap_2 post (nI W) (nI H) tr tt px fl fg bg kn st pa n (nI i)) := by
  have hW := hB.2.1
  have hH := hB.2.2.2.1
  intro e
  induction e with
  | zero =>
    intro i hi
    refine ⟨1, fun n hn post hp => ?_, fun n hn post hp => ?_⟩
    · obtain ⟨n, rfl⟩ : ∃ m, n = m + 1 := ⟨n - 1, by omega⟩
      exact br_t (nI_le (a := 256) (by omega) (by omega)) hp
    · obtain ⟨n, rfl⟩ : ∃ m, n = m + 1 := ⟨n - 1, by omega⟩
      exact br_t (nI_le (a := 256) (by omega) (by omega)) hp
  | succ e ih =>
    intro i hi
    have hv : vp_in (nI i) 256 := vp_in_nI (by omega) (by omega)
    have hlt : ¬ (256 : Int32) ≤ nI i := nI_ge (b := 256) (by omega) (by omega)
    obtain ⟨r, hX, hY⟩ := ih (i + 1) (by omega)
    by_cases hq : fl i = px i
    · refine ⟨r, fun n hn post hp => ?_, fun n hn post hp => ?_⟩
      · obtain ⟨n, rfl⟩ : ∃ m, n = m + 1 := ⟨n - 1, by omega⟩
        refine br_f hlt ⟨hv, hv, ?_⟩
        rw [nI_clamp (n := i) (by omega)]
        exact br_t hq (nm_r (nI_1 i) (hX n (by omega) post hp))
      · obtain ⟨n, rfl⟩ : ∃ m, n = m + 1 := ⟨n - 1, by omega⟩
        refine br_f hlt (y_pixc (by omega) hW hH (fun z => br_f bd_10 ⟨hv, hv, ?_⟩) (fun z => br_t rfl (nm_r (nI_1 i) (hY n (by omega) post hp))))
        rw [nI_clamp (n := i) (by omega)]
        exact br_t hq (nm_r (nI_1 i) (hY n (by omega) post hp))
    · refine ⟨0, fun n hn post hp => ?_, fun n hn post hp => ?_⟩
      · obtain ⟨n, rfl⟩ : ∃ m, n = m + 1 := ⟨n - 1, by omega⟩
        refine br_f hlt ⟨hv, hv, ?_⟩
        rw [nI_clamp (n := i) (by omega)]
        exact br_f hq hp
      · obtain ⟨n, rfl⟩ : ∃ m, n = m + 1 := ⟨n - 1, by omega⟩
        refine br_f hlt (y_pixc (by omega) hW hH (fun z => br_f bd_10 ⟨hv, hv, ?_⟩) (fun z => ?_))
        · rw [nI_clamp (n := i) (by omega)]
          exact br_f hq hp
        · have := hB.2.2.2.2.2 i z
          exact absurd (this.2.trans this.1.symm) hq
end
theorem i_vc_filledEqualsBitmap {k : Nat} {u : SX} {v : SY} (I : i_Rel k u v) (hk : k + 5 ≤ 2562) : wpX_filledEqualsBitmap (fun r => wpY_filledEqualsBitmap (fun r' => r' = r ∧ i_Rel (k + 5) u v) v) u := by
  have I' := i_up I
  obtain ⟨W, H, t, tr, px, fl, lb, qu, kn, pa, st, ln, ar, ii, fg, bg, rfl, rfl, hB, hR⟩ := I
  obtain ⟨r, hX, hY⟩ := xy_eq (tr := tr) (tt := nI t) (lb := lb) (qu := qu) (kn := kn) (pa := pa) (st := st) (ln := ln) (ar := ar) (ii := ii) (fg := fg) (bg := bg) hB 256 0 rfl
  exact ⟨257, hX 257 (by omega) _ ⟨257, hY 257 (by omega) _ ⟨rfl, I'⟩⟩⟩
