/-! formContoursWithKey and the loops of trace over it -/
theorem bd_sub1 : ∀ x : Nat, nI x - 1 = bd_cd x
  | 0 => by decide +kernel
  | x + 1 => nI_pred x
section
variable {W H : Nat} {tr tt : Int32} {px fl lb qu kn pa st ln ar ii fg bg : Nat → Int32} {L : Nat → Nat} {kn0 pa0 st0 ln0 ar0 : Nat → Int32}
theorem x_labL {post : Int32 → Prop} (hC : bd_C W H px L) {x y : Nat} (hx : x < W) (hy : y < H) (hl : ∀ j, j < 256 → lb j = bd_lab W H px L (y * 16 + x) j) (ho : bd_ok W H px L (y * 16 + x))
    (hp : post (bd_cd (bd_pv W H px L (y * 16 + x)))) : wpX_labelAt post (nI W, nI H, tr, tt, px, fl, lb, qu, kn, pa, st, ln, ar, ii) (nI x - 1) (nI y) := by
  have hW := hC.2.1
  have hH := hC.2.2.2.1
  unfold bd_pv at hp
  rw [if_pos ho] at hp
  rw [bd_sub1]
  refine x_labAt hW hH (fun a b ea eb ha hb => ?_) (fun hno => ?_)
  · rw [bd_cd_nI (by omega) (by omega)] at ea
    rw [nI_eq (by omega) (by omega)] at eb
    subst eb
    rw [if_neg (show ¬ (y * 16 + x) % 16 = 0 by omega), ← bd_lab_left hC ho (by omega), ← hl _ (by omega), show y * 16 + x - 1 = y * 16 + a from by omega] at hp
    exact hp
  · have hx0 : x = 0 := by
      rcases Nat.eq_zero_or_pos x with z | z
      · exact z
      · refine (hno (x - 1) y ?_ rfl (by omega) hy).elim
        rw [bd_cd_nI (by omega) (by omega)]
        omega
    rw [if_pos (show (y * 16 + x) % 16 = 0 by omega), bd_cd_0] at hp
    exact hp
theorem x_labS {post : Int32 → Prop} (hC : bd_C W H px L) {x y : Nat} (hx : x < W) (hy : y < H) (hl : ∀ j, j < 256 → lb j = bd_lab W H px L (y * 16 + x) j) (hh : bd_hk W H px L (y * 16 + x))
    (hp : post (bd_cd (bd_pv W H px L (y * 16 + x)))) : wpX_labelAt post (nI W, nI H, tr, tt, px, fl, lb, qu, kn, pa, st, ln, ar, ii) (nI x) (nI y) := by
  have hW := hC.2.1
  have hH := hC.2.2.2.1
  unfold bd_pv at hp
  rw [if_neg (bd_excl hC hh), ← bd_lab_self hC hh, ← hl _ (by omega)] at hp
  refine x_labAt hW hH (fun a b ea eb ha hb => ?_) (fun hno => (hno x y rfl rfl hx hy).elim)
  rw [nI_eq (by omega) (by omega)] at ea eb
  subst ea eb
  exact hp
theorem x_f53a {post : St2 → Prop} (hC : bd_C W H px L) {x y : Nat} (hx : x < W) (hy : y < H) (hl : ∀ j, j < 256 → lb j = bd_lab W H px L (y * 16 + x + 1) j) (hp : post (nI W, nI H, tr, tt, px, fl, lb, qu, kn, pa, st, ln, ar, ii)) :
    wX_formContoursWithKey_53 post (nI x) (nI y) (nI W) (nI H) tr tt px fl lb qu kn pa st ln ar ii := by
  have hW := hC.2.1
  have hH := hC.2.2.2.1
  unfold wX_formContoursWithKey_53
  rw [nI_1 x]
  refine x_unl hW hH (fun a b ea eb ha hb e1 e2 => ?_) (fun _ => br_t rfl hp)
  rw [nI_eq (by omega) (by omega)] at ea eb
  subst ea eb
  rw [hl _ (by omega)] at e2
  exact absurd e2 (bd_lab_hk' hC (c := y * 16 + x) ⟨by omega, by omega⟩ (by omega) e1)
theorem x_f53b {post : St2 → Prop} (hC : bd_C W H px L) {x y : Nat} (hx : x < W) (hy : y < H) (hT : bd_T W H px L kn0 pa0 st0 ln0 ar0 (y * 16 + x) tt lb kn pa st ln ar) (hno : ¬ bd_ok W H px L (y * 16 + x))
    (hp : ∀ tt lb qu kn pa st ln ar, bd_T W H px L kn0 pa0 st0 ln0 ar0 (y * 16 + x + 1) tt lb kn pa st ln ar → post (nI W, nI H, tr, tt, px, fl, lb, qu, kn, pa, st, ln, ar, ii)) :
    wX_formContoursWithKey_53 post (nI x) (nI y) (nI W) (nI H) tr tt px fl lb qu kn pa st ln ar ii := by
  have hW := hC.2.1
  have hH := hC.2.2.2.1
  have hi : bd_in W H (y * 16 + x) := ⟨by omega, by omega⟩
  have hN := bd_N_le (W := W) (H := H) (p := px) (L := L) (y * 16 + x)
  have htt := hT.1
  subst htt
  unfold wX_formContoursWithKey_53
  rw [nI_1 x]
  refine x_unl hW hH (fun a b ea eb ha hb e1 e2 => br_f bd_10 ?_) (fun hn => br_t rfl (hp _ _ _ _ _ _ _ _ (bd_T_no hC hT ?_)))
  · rw [nI_eq (by omega) (by omega)] at ea eb
    subst ea eb
    rw [hT.2.1 _ (by omega)] at e2
    have hh : bd_hk W H px L (y * 16 + x) := (bd_lab_hk hC hi (by omega) e1).mp e2
    refine x_add (by omega) ?_
    dsimp only
    refine x_labS hC hx hy hT.2.1 hh ⟨vp_in_nI (by omega) (by omega), nm_r (congrArg (fun z => upd pa z _) (nI_clamp (by omega))) ?_⟩
    refine x_flood hW hH hC.2.2.2.2.1 (bd_nI_m2 (by omega)) (by omega) hy (bd_T_un hC hT (Or.inr ⟨hh, rfl⟩) (bd_hk_in hC hh)) (fun lb' qu' hf => ?_)
    have hT' := bd_T_fl hC hT (Or.inr ⟨hh, rfl⟩) hf
    rw [show bd_kd W H px L (y * 16 + x) = 2 from if_neg hno] at hT'
    exact hp _ _ _ _ _ _ _ _ hT'
  · intro hk
    have hh : bd_hk W H px L (y * 16 + x) := hk.resolve_left hno
    refine hn (x + 1) y rfl rfl ?_ hy hh.2.2.1 ?_
    · have := hh.2.1
      omega
    · have h2 := (bd_lab_hk hC hi hh.2.1 hh.2.2.1).mpr hh
      rw [← hT.2.1 _ (by omega)] at h2
      exact h2
theorem x_form {post : St2 → Prop} (hC : bd_C W H px L) {x y : Nat} (hx : x < W) (hy : y < H) (hT : bd_T W H px L kn0 pa0 st0 ln0 ar0 (y * 16 + x) tt lb kn pa st ln ar)
    (hp : ∀ tt lb qu kn pa st ln ar, bd_T W H px L kn0 pa0 st0 ln0 ar0 (y * 16 + x + 1) tt lb kn pa st ln ar → post (nI W, nI H, tr, tt, px, fl, lb, qu, kn, pa, st, ln, ar, ii)) :
    wpX_formContoursWithKey post (nI W, nI H, tr, tt, px, fl, lb, qu, kn, pa, st, ln, ar, ii) (nI x) (nI y) := by
  have hW := hC.2.1
  have hH := hC.2.2.2.1
  have hi : bd_in W H (y * 16 + x) := ⟨by omega, by omega⟩
  have hN := bd_N_le (W := W) (H := H) (p := px) (L := L) (y * 16 + x)
  unfold wpX_formContoursWithKey
  dsimp only
  refine x_ri ⟨vp_in_nI (by omega) (by omega), ?_⟩
  rw [nI_clamp (by omega)]
  refine br_c (fun e0 => hp _ _ _ _ _ _ _ _ (bd_T_no hC hT ?_)) (fun e0 => ?_)
  · intro z
    have := (bd_key_p hC z).2
    rw [e0] at this
    exact bd_01 this
  · have e1 : px (y * 16 + x) = 1 := (hC.2.2.2.2.1 (y * 16 + x)).resolve_left e0
    refine x_unl hW hH (fun a b ea eb ha hb _ e2 => br_f bd_10 ?_) (fun hn => br_t rfl (x_f53b hC hx hy hT (fun ho => ?_) hp))
    · rw [nI_eq (by omega) (by omega)] at ea eb
      subst ea eb
      rw [hT.2.1 _ (by omega)] at e2
      have ho : bd_ok W H px L (y * 16 + x) := (bd_lab_ok hC hi e1).mp e2
      have htt := hT.1
      subst htt
      refine x_add (by omega) ?_
      dsimp only
      refine x_labL hC hx hy hT.2.1 ho ⟨vp_in_nI (by omega) (by omega), nm_r (congrArg (fun z => upd pa z _) (nI_clamp (by omega))) ?_⟩
      refine x_flood hW hH hC.2.2.2.2.1 (bd_nI_m2 (by omega)) hx hy (bd_T_un hC hT (Or.inl ⟨ho, rfl⟩) hi) (fun lb' qu' hf => ?_)
      have hT' := bd_T_fl hC hT (Or.inl ⟨ho, rfl⟩) hf
      rw [show bd_kd W H px L (y * 16 + x) = 1 from if_pos ho] at hT'
      exact x_f53a hC hx hy hT'.2.1 (hp _ _ _ _ _ _ _ _ hT')
    · have h2 := (bd_lab_ok hC hi e1).mpr ho
      rw [← hT.2.1 _ (by omega)] at h2
      exact hn x y rfl rfl hx hy e1 h2
theorem x_tr29 {post : Int32 → St2 → Prop} {J : Int32 → Int32 → Int32 → Int32 → Int32 → (Nat → Int32) → (Nat → Int32) → (Nat → Int32) → (Nat → Int32) → (Nat → Int32) → (Nat → Int32) → (Nat → Int32) → (Nat → Int32) → (Nat → Int32) → (Nat → Int32) → Prop}
    (hC : bd_C W H px L) {y : Nat} (hy : y < H) (hJ : ∀ tt lb qu kn pa st ln ar, bd_T W H px L kn0 pa0 st0 ln0 ar0 ((y + 1) * 16) tt lb kn pa st ln ar → J (nI (y + 1)) (nI W) (nI H) tr tt px fl lb qu kn pa st ln ar ii) :
    ∀ e x, x + e = W → ∀ n, e < n → ∀ tt lb qu kn pa st ln ar, bd_T W H px L kn0 pa0 st0 ln0 ar0 (y * 16 + x) tt lb kn pa st ln ar → wX_trace_29 post J (nI y) n (nI x) (nI W) (nI H) tr tt px fl lb qu kn pa st ln ar ii := by
  have hW := hC.2.1
  have hH := hC.2.2.2.1
  intro e
  induction e with
  | zero =>
    intro x hx n hn tt lb qu kn pa st ln ar hT
    obtain ⟨n, rfl⟩ : ∃ m, n = m + 1 := ⟨n - 1, by omega⟩
    exact br_t (nI_le (by omega) (by omega)) (nm_r (nI_1 y) (hJ _ _ _ _ _ _ _ _ (bd_T_skip hC (16 - x) x (by omega) (by omega) hT)))
  | succ e ih =>
    intro x hx n hn tt lb qu kn pa st ln ar hT
    obtain ⟨n, rfl⟩ : ∃ m, n = m + 1 := ⟨n - 1, by omega⟩
    refine br_f (nI_ge (by omega) (by omega)) (x_form hC (by omega) hy hT (fun tt lb qu kn pa st ln ar hT' => nm_r (nI_1 x) ?_))
    exact ih (x + 1) (by omega) n (by omega) _ _ _ _ _ _ _ _ hT'
theorem x_tr19 {post : Int32 → St2 → Prop} (hC : bd_C W H px L)
    (hp : ∀ tt lb qu kn pa st ln ar, bd_T W H px L kn0 pa0 st0 ln0 ar0 256 tt lb kn pa st ln ar → wpX_countEdges (fun u => match u with | (a1, a2, a3, a4, a5, a6, a7, a8, a9, a10, a11, a12, a13, a14) => wpX_sumAreas (fun u => match u with | (b1, b2, b3, b4, b5, b6, b7, b8, b9, b10, b11, b12, b13, b14) => post b4 (b1, b2, 1, b4, b5, b6, b7, b8, b9, b10, b11, b12, b13, b14)) (a1, a2, a3, a4, a5, a6, a7, a8, a9, a10, a11, a12, a13, a14)) (nI W, nI H, tr, tt, px, fl, lb, qu, kn, pa, st, ln, ar, ii)) :
    ∀ e y, y + e = H → ∀ n, e < n → ∀ tt lb qu kn pa st ln ar, bd_T W H px L kn0 pa0 st0 ln0 ar0 (y * 16) tt lb kn pa st ln ar → wX_trace_19 post n (nI y) (nI W) (nI H) tr tt px fl lb qu kn pa st ln ar ii := by
  have hW := hC.2.1
  have hH := hC.2.2.2.1
  intro e
  induction e with
  | zero =>
    intro y hy n hn tt lb qu kn pa st ln ar hT
    obtain ⟨n, rfl⟩ : ∃ m, n = m + 1 := ⟨n - 1, by omega⟩
    have hy' : y = H := by omega
    subst hy'
    have hT' := bd_T_rows hC (256 - y * 16) hT
    rw [show y * 16 + (256 - y * 16) = 256 from by omega] at hT'
    exact br_t (nI_le (by omega) (by omega)) (hp _ _ _ _ _ _ _ _ hT')
  | succ e ih =>
    intro y hy n hn tt lb qu kn pa st ln ar hT
    obtain ⟨n, rfl⟩ : ∃ m, n = m + 1 := ⟨n - 1, by omega⟩
    exact br_f (nI_ge (by omega) (by omega)) ⟨W + 1, x_tr29 hC (by omega) (fun tt lb qu kn pa st ln ar h => ih (y + 1) (by omega) n (by omega) tt lb qu kn pa st ln ar h) W 0 (by omega) (W + 1) (by omega) _ _ _ _ _ _ _ _ hT⟩
end
