/-! small walks: pixels, indices, steps, both sides -/
theorem bd_ri (a b : Nat) : nI b * 16 + nI a = nI (b * 16 + a) := by
  rw [show (16 : Int32) = nI 16 from rfl, pk_mul, nI_add]
theorem bd_add (a : Nat) : ∀ u : Nat, nI a + bd_cd u = bd_cd (a + u)
  | 0 => by
    cases a with
    | zero => decide +kernel
    | succ a => exact pk_m1 a
  | u + 1 => by rw [bd_cd_s, nI_add]; rfl
theorem bd_m15 {n : Nat} (h : n < 256) : nI n &&& 15 = nI (n % 16) := pk_andN (by omega) 4 (by decide)
theorem bd_s4 {n : Nat} (h : n < 256) : nI n >>> ((4 : Int32) &&& 31) = nI (n / 16) := pk_shrN (by omega) _ 4 (by decide)
theorem bd_16 : ¬ (16 : Int32) = 0 := by decide
section
variable {W H : Nat} {tr tt : Int32} {px fl lb qu kn pa st ln ar ii fg bg : Nat → Int32}
theorem x_pix {post : Int32 → Prop} {x y : Int32} (hW : W ≤ 16) (hH : H ≤ 16) (h1 : ∀ a b, x = nI a → y = nI b → a < W → b < H → post 1)
    (h0 : (∀ a b, x = nI a → y = nI b → a < W → b < H → False) → post 0) : wpX_isPixel post (nI W, nI H, tr, tt, px, fl, lb, qu, kn, pa, st, ln, ar, ii) x y := by
  rcases pk_ix x (n := W) (by omega) with hx | hx | ⟨a, ha, rfl⟩
  · exact br_t hx (h0 fun a b e _ ha _ => nI_pos (n := a) (by omega) (e ▸ hx))
  · refine br_c (fun _ => h0 ?_) (fun _ => br_t hx (h0 ?_)) <;> exact fun a b e _ ha _ => nI_ge ha (by omega) (e ▸ hx)
  · refine br_f (nI_pos (by omega)) (br_f (nI_ge ha (by omega)) ?_)
    rcases pk_ix y (n := H) (by omega) with hy | hy | ⟨b, hb, rfl⟩
    · exact br_t hy (h0 fun c b _ e _ hb => nI_pos (n := b) (by omega) (e ▸ hy))
    · refine br_c (fun _ => h0 ?_) (fun _ => br_t hy (h0 ?_)) <;> exact fun c b _ e _ hb => nI_ge hb (by omega) (e ▸ hy)
    · exact br_f (nI_pos (by omega)) (br_f (nI_ge hb (by omega)) (h1 a b rfl rfl ha hb))
theorem x_ri {post : Int32 → Prop} {a b : Nat} (h : post (nI (b * 16 + a))) : wpX_rasterIndex post () (nI a) (nI b) := by
  unfold wpX_rasterIndex
  rw [bd_ri]
  exact h
theorem x_unl {post : Int32 → Prop} {x y v : Int32} (hW : W ≤ 16) (hH : H ≤ 16)
    (h1 : ∀ a b, x = nI a → y = nI b → a < W → b < H → px (b * 16 + a) = v → lb (b * 16 + a) = -2 → post 1)
    (h0 : (∀ a b, x = nI a → y = nI b → a < W → b < H → px (b * 16 + a) = v → lb (b * 16 + a) = -2 → False) → post 0) : wpX_isUnlabelled post (nI W, nI H, tr, tt, px, fl, lb, qu, kn, pa, st, ln, ar, ii) x y v := by
  unfold wpX_isUnlabelled
  refine x_pix hW hH (fun a b ex ey ha hb => br_f bd_10 ?_) (fun hn => br_t rfl (h0 fun a b ex ey ha hb _ _ => hn a b ex ey ha hb))
  have hl := fun e => h1 a b ex ey ha hb e
  subst ex ey
  have hv : vp_in (nI (b * 16 + a)) 256 := vp_in_nI (by omega) (by omega)
  refine x_ri ⟨hv, ?_⟩
  rw [nI_clamp (by omega)]
  refine br_c (fun e1 => ⟨hv, br_c (fun e2 => hl e1 e2) (fun e2 => h0 ?_)⟩) (fun e1 => h0 ?_)
  · intro a' b' ea eb ha' hb' _ e4
    rw [nI_eq (by omega) (by omega)] at ea eb
    subst ea eb
    exact e2 e4
  · intro a' b' ea eb ha' hb' e3 _
    rw [nI_eq (by omega) (by omega)] at ea eb
    subst ea eb
    exact e1 e3
theorem x_labAt {post : Int32 → Prop} {x y : Int32} (hW : W ≤ 16) (hH : H ≤ 16)
    (h1 : ∀ a b, x = nI a → y = nI b → a < W → b < H → post (lb (b * 16 + a)))
    (h0 : (∀ a b, x = nI a → y = nI b → a < W → b < H → False) → post (-1)) : wpX_labelAt post (nI W, nI H, tr, tt, px, fl, lb, qu, kn, pa, st, ln, ar, ii) x y := by
  unfold wpX_labelAt
  refine x_pix hW hH (fun a b ex ey ha hb => br_f bd_10 ?_) (fun hn => br_t rfl (h0 hn))
  have hl := h1 a b ex ey ha hb
  subst ex ey
  refine x_ri ⟨vp_in_nI (by omega) (by omega), ?_⟩
  rw [nI_clamp (by omega)]
  exact hl
theorem x_stepX {post : Int32 → Prop} {s : Nat} (hs : s < 8) (h : post (bd_cd (bd_sx s))) : wpX_stepX post () (nI s) := by
  have hc : s = 0 ∨ s = 1 ∨ s = 2 ∨ s = 3 ∨ s = 4 ∨ s = 5 ∨ s = 6 ∨ s = 7 := by omega
  rcases hc with rfl | rfl | rfl | rfl | rfl | rfl | rfl | rfl <;>
    repeat (first | exact h | refine br_t (by decide +kernel) ?_ | refine br_f (by decide +kernel) ?_)
theorem x_stepY {post : Int32 → Prop} {s : Nat} (hs : s < 8) (h : post (bd_cd (bd_sy s))) : wpX_stepY post () (nI s) := by
  have hc : s = 0 ∨ s = 1 ∨ s = 2 ∨ s = 3 ∨ s = 4 ∨ s = 5 ∨ s = 6 ∨ s = 7 := by omega
  rcases hc with rfl | rfl | rfl | rfl | rfl | rfl | rfl | rfl <;>
    repeat (first | exact h | refine br_t (by decide +kernel) ?_ | refine br_f (by decide +kernel) ?_)
theorem x_isC {post : Int32 → Prop} {x : Int32} {t : Nat} (ht : t ≤ 256) (h1 : ∀ k, x = nI k → k < t → post 1) (h0 : (∀ k, x = nI k → k < t → False) → post 0) : wpX_isContour post (nI W, nI H, tr, nI t, px, fl, lb, qu, kn, pa, st, ln, ar, ii) x := by
  rcases pk_ix x (n := t) (by omega) with hx | hx | ⟨a, ha, rfl⟩
  · exact br_t hx (h0 fun a e ha => nI_pos (n := a) (by omega) (e ▸ hx))
  · refine br_c (fun _ => h0 ?_) (fun _ => br_t hx (h0 ?_)) <;> exact fun a e ha => nI_ge ha (by omega) (e ▸ hx)
  · exact br_f (nI_pos (by omega)) (br_f (nI_ge ha (by omega)) (h1 a rfl ha))
/-! clearing -/
theorem x_clr2 {post : St2 → Prop} (h : post (nI W, nI H, tr, tt, px, fun _ => 0, lb, qu, kn, pa, st, ln, ar, ii)) : ∀ d i, i + d = 256 → ∀ n, d < n → ∀ fl : Nat → Int32, (∀ j, j < i → fl j = 0) → (∀ j, 256 ≤ j → fl j = 0) → wX_clearFill_2 post (nI W) (nI H) tr tt n (nI i) px fl lb qu kn pa st ln ar ii := by
  intro d
  induction d with
  | zero =>
    intro i hi n hn fl h0 h1
    obtain ⟨n, rfl⟩ : ∃ m, n = m + 1 := ⟨n - 1, by omega⟩
    have e : fl = fun _ => 0 := by
      funext j
      rcases Nat.lt_or_ge j 256 with z | z
      · exact h0 j (by omega)
      · exact h1 j z
    subst e
    exact br_t (nI_le (a := 256) (by omega) (by omega)) h
  | succ d ih =>
    intro i hi n hn fl h0 h1
    obtain ⟨n, rfl⟩ : ∃ m, n = m + 1 := ⟨n - 1, by omega⟩
    refine br_f (nI_ge (b := 256) (by omega) (by omega)) ⟨vp_in_nI (by omega) (by omega), nm_r (congrArg (fun z => upd fl z 0) (nI_clamp (by omega))) (nm_r (nI_1 i) (ih (i + 1) (by omega) n (by omega) _ ?_ ?_))⟩
    · intro j hj
      by_cases e : j = i
      · subst e; exact pk_us
      · exact (pk_un e).trans (h0 j (by omega))
    · intro j hj
      exact (pk_un (by omega)).trans (h1 j hj)
theorem x_clr {post : St2 → Prop} (h : post (nI W, nI H, tr, tt, px, fun _ => 0, lb, qu, kn, pa, st, ln, ar, ii)) (h1 : ∀ j, 256 ≤ j → fl j = 0) : wpX_clearFill post (nI W, nI H, tr, tt, px, fl, lb, qu, kn, pa, st, ln, ar, ii) :=
  ⟨257, x_clr2 h 256 0 rfl 257 (by omega) fl (fun j hj => absurd hj (Nat.not_lt_zero j)) h1⟩
theorem x_inv {post : St2 → Prop} (h : post (nI W, nI H, 0, 0, px, fun _ => 0, lb, qu, kn, pa, st, ln, ar, ii)) (h1 : ∀ j, 256 ≤ j → fl j = 0) : wpX_invalidate post (nI W, nI H, tr, tt, px, fl, lb, qu, kn, pa, st, ln, ar, ii) := by
  unfold wpX_invalidate
  exact x_clr h h1
end
