/-! labelOutside -/
def bd_O (W H : Nat) (p : Nat → Int32) (L : Nat → Nat) (c : Nat) (lb : Nat → Int32) : Prop :=
  (∀ j, j < 256 → lb j = -2 ∨ (lb j = -1 ∧ bd_in W H j ∧ p j = 0 ∧ L j = 0)) ∧
  (∀ a b, bd_adj W H p a b → lb a = -1 → lb b = -1) ∧
  (∀ r, r < c → bd_in W H r → bd_rim W H r → p r = 0 → lb r = -1)
section
variable {W H : Nat} {px : Nat → Int32} {L : Nat → Nat}
theorem bd_O_end (hC : bd_C W H px L) {lb : Nat → Int32} (h : bd_O W H px L 256 lb) {j : Nat} (hj : j < 256) : lb j = bd_lab W H px L 0 j := by
  obtain ⟨o1, o2, o3⟩ := h
  by_cases hi : bd_in W H j ∧ L j = 0
  · rw [bd_lab_t hi.1 (Or.inl hi.2), bd_ow_0 hi.2, bd_cd_0]
    rcases hC.2.2.2.2.2.2.1 j hi.1 with ⟨e0, _, r, hr, rin, rr⟩ | ⟨r, e1, _⟩
    · have h1 := o3 r (bd_in_lt hC rin) rin rr ((bd_cn_p hr).trans e0)
      exact bd_cn_symm hr (fun x => lb x = -1) h1 (fun c d hc e => o2 c d e hc)
    · omega
  · rw [bd_lab_f (fun z => z.2.elim (fun y => hi ⟨z.1, y⟩) (Nat.not_lt_zero _))]
    rcases o1 j hj with z | z
    · exact z
    · exact absurd ⟨z.2.1, z.2.2.2⟩ hi
theorem bd_O_no {c : Nat} {lb : Nat → Int32} (h : bd_O W H px L c lb) (hn : bd_in W H c → bd_rim W H c → px c = 0 → lb c = -1) : bd_O W H px L (c + 1) lb := by
  obtain ⟨o1, o2, o3⟩ := h
  refine ⟨o1, o2, fun r hr a b d => ?_⟩
  by_cases e : r = c
  · subst e; exact hn a b d
  · exact o3 r (by omega) a b d
theorem bd_O_skip {lb : Nat → Int32} {y : Nat} : ∀ d x, W ≤ x → x + d = 16 → bd_O W H px L (y * 16 + x) lb → bd_O W H px L ((y + 1) * 16) lb := by
  intro d
  induction d with
  | zero =>
    intro x _ hx h
    rw [show (y + 1) * 16 = y * 16 + x from by omega]
    exact h
  | succ d ih =>
    intro x hw hx h
    exact ih (x + 1) (by omega) (by omega) (bd_O_no (c := y * 16 + x) h (fun z => absurd z.1 (by omega)))
theorem bd_O_rows {lb : Nat → Int32} {y : Nat} : ∀ d, bd_O W H px L (H * 16) lb → bd_O W H px L (H * 16 + d) lb := by
  intro d h
  induction d with
  | zero => exact h
  | succ d ih => exact bd_O_no (c := H * 16 + d) ih (fun z => absurd z.2 (by omega))
theorem bd_O_fl (hC : bd_C W H px L) {c : Nat} {lb lb' : Nat → Int32} (h : bd_O W H px L c lb) (hi : bd_in W H c) (hr : bd_rim W H c) (h0 : px c = 0)
    (hf : ∀ j, (bd_cn W H px c j → lb' j = -1) ∧ (¬ bd_cn W H px c j → lb' j = lb j)) : bd_O W H px L (c + 1) lb' := by
  obtain ⟨o1, o2, o3⟩ := h
  have hL : L c = 0 := hC.2.2.2.2.2.2.2 c hi h0 hr
  refine ⟨fun j hj => ?_, fun a b e ha => ?_, fun r hr' a b d => ?_⟩
  · by_cases hc : bd_cn W H px c j
    · exact Or.inr ⟨(hf j).1 hc, bd_cn_in hc hi, (bd_cn_p hc).trans h0, (bd_L_cn hC hc).symm.trans hL⟩
    · rw [(hf j).2 hc]; exact o1 j hj
  · by_cases hb : bd_cn W H px c b
    · exact (hf b).1 hb
    · rw [(hf b).2 hb]
      refine o2 a b e ?_
      rw [← (hf a).2 (fun z => hb (bd_cn_step z e))]
      exact ha
  · by_cases hc : bd_cn W H px c r
    · exact (hf r).1 hc
    · rw [(hf r).2 hc]
      by_cases e : r = c
      · subst e; exact absurd bd_cn_refl hc
      · exact o3 r (by omega) a b d
theorem bd_O_un (hC : bd_C W H px L) {c : Nat} {lb : Nat → Int32} (h : bd_O W H px L c lb) (hi : bd_in W H c) (h2 : lb c = -2) : ∀ j, bd_cn W H px c j → lb j = -2 := by
  intro j hj
  rcases h.1 j (bd_in_lt hC (bd_cn_in hj hi)) with z | z
  · exact z
  · have := bd_cn_symm hj (fun x => lb x = -1) z.1 (fun a b ha e => h.2.1 a b e ha)
    exact absurd (this.symm.trans h2) bd_m1_m2
end
section
variable {W H : Nat} {tr tt : Int32} {px fl lb qu kn pa st ln ar ii fg bg : Nat → Int32} {L : Nat → Nat}
theorem x_rim {post : Int32 → Prop} {x y : Nat} (hx : x < W) (hy : y < H) (hW : W ≤ 16) (hH : H ≤ 16) (h1 : bd_rim W H (y * 16 + x) → post 1) (h0 : ¬ bd_rim W H (y * 16 + x) → post 0) : wpX_isOnRim post (nI W, nI H, tr, tt, px, fl, lb, qu, kn, pa, st, ln, ar, ii) (nI x) (nI y) := by
  have e1 : nI W - 1 = nI (W - 1) := by
    rw [show (1 : Int32) = nI 1 from rfl, pk_sub (by omega)]
  have e2 : nI H - 1 = nI (H - 1) := by
    rw [show (1 : Int32) = nI 1 from rfl, pk_sub (by omega)]
  unfold wpX_isOnRim
  dsimp only
  rw [e1, e2]
  refine pk_eq x 0 (fun z => h1 (by omega)) (fun z1 => pk_eq x (W - 1) (fun z => h1 (by omega)) (fun z2 => pk_eq y 0 (fun z => h1 (by omega)) (fun z3 => pk_eq y (H - 1) (fun z => h1 (by omega)) (fun z4 => h0 (by omega)))))
theorem x_out12 {post : St2 → Prop} {J : Int32 → Int32 → Int32 → Int32 → Int32 → (Nat → Int32) → (Nat → Int32) → (Nat → Int32) → (Nat → Int32) → (Nat → Int32) → (Nat → Int32) → (Nat → Int32) → (Nat → Int32) → (Nat → Int32) → (Nat → Int32) → Prop}
    (hC : bd_C W H px L) {y : Nat} (hy : y < H) (hJ : ∀ lb qu, bd_O W H px L ((y + 1) * 16) lb → J (nI (y + 1)) (nI W) (nI H) tr tt px fl lb qu kn pa st ln ar ii) :
    ∀ e x, x + e = W → ∀ n, e < n → ∀ lb qu, bd_O W H px L (y * 16 + x) lb → wX_labelOutside_12 post J (nI y) n (nI x) (nI W) (nI H) tr tt px fl lb qu kn pa st ln ar ii := by
  have hW := hC.2.1
  have hH := hC.2.2.2.1
  intro e
  induction e with
  | zero =>
    intro x hx n hn lb qu hO
    obtain ⟨n, rfl⟩ : ∃ m, n = m + 1 := ⟨n - 1, by omega⟩
    exact br_t (nI_le (by omega) (by omega)) (nm_r (nI_1 y) (hJ lb qu (bd_O_skip (16 - x) x (by omega) (by omega) hO)))
  | succ e ih =>
    intro x hx n hn lb qu hO
    obtain ⟨n, rfl⟩ : ∃ m, n = m + 1 := ⟨n - 1, by omega⟩
    have next : ∀ lb qu, bd_O W H px L (y * 16 + x + 1) lb → ∀ z, z = nI x + 1 → wX_labelOutside_12 post J (nI y) n z (nI W) (nI H) tr tt px fl lb qu kn pa st ln ar ii := by
      intro lb qu h z ez
      rw [ez, nI_1]
      exact ih (x + 1) (by omega) n (by omega) lb qu h
    have hi : bd_in W H (y * 16 + x) := ⟨by omega, by omega⟩
    refine br_f (nI_ge (by omega) (by omega)) (x_rim (by omega) hy hW hH (fun hr => br_f bd_10 ?_) (fun hr => br_t rfl (next lb qu (bd_O_no hO (fun _ z => absurd z hr)))))
    refine x_unl hW hH (fun a b ea eb ha hb e1 e2 => br_f bd_10 ?_) (fun hno => br_t rfl (next lb qu (bd_O_no hO (fun _ _ z => ?_))))
    · rw [nI_eq (by omega) (by omega)] at ea eb
      subst ea eb
      exact x_flood hW hH hC.2.2.2.2.1 bd_m1_m2 ha hb (bd_O_un hC hO hi e2) (fun lb' qu' hf => next lb' qu' (bd_O_fl hC hO hi hr e1 hf))
    · rcases hO.1 (y * 16 + x) (bd_in_lt hC hi) with w | w
      · exact (hno x y rfl rfl (by omega) hy z w).elim
      · exact w.1
theorem x_out2 {post : St2 → Prop} (hC : bd_C W H px L) (hp : ∀ lb qu, (∀ j, j < 256 → lb j = bd_lab W H px L 0 j) → post (nI W, nI H, tr, tt, px, fl, lb, qu, kn, pa, st, ln, ar, ii)) :
    ∀ e y, y + e = H → ∀ n, e < n → ∀ lb qu, bd_O W H px L (y * 16) lb → wX_labelOutside_2 post n (nI y) (nI W) (nI H) tr tt px fl lb qu kn pa st ln ar ii := by
  have hW := hC.2.1
  have hH := hC.2.2.2.1
  intro e
  induction e with
  | zero =>
    intro y hy n hn lb qu hO
    obtain ⟨n, rfl⟩ : ∃ m, n = m + 1 := ⟨n - 1, by omega⟩
    have hy' : y = H := by omega
    subst hy'
    have hO' := bd_O_rows (y := 0) (256 - y * 16) hO
    rw [show y * 16 + (256 - y * 16) = 256 from by omega] at hO'
    exact br_t (nI_le (by omega) (by omega)) (hp lb qu (fun j hj => bd_O_end hC hO' hj))
  | succ e ih =>
    intro y hy n hn lb qu hO
    obtain ⟨n, rfl⟩ : ∃ m, n = m + 1 := ⟨n - 1, by omega⟩
    exact br_f (nI_ge (by omega) (by omega)) ⟨W + 1, x_out12 hC (by omega) (fun lb qu h => ih (y + 1) (by omega) n (by omega) lb qu h) W 0 (by omega) (W + 1) (by omega) lb qu hO⟩
theorem x_out {post : St2 → Prop} (hC : bd_C W H px L) (h2 : ∀ j, j < 256 → lb j = -2) (hp : ∀ lb qu, (∀ j, j < 256 → lb j = bd_lab W H px L 0 j) → post (nI W, nI H, tr, tt, px, fl, lb, qu, kn, pa, st, ln, ar, ii)) : wpX_labelOutside post (nI W, nI H, tr, tt, px, fl, lb, qu, kn, pa, st, ln, ar, ii) := by
  refine ⟨H + 1, x_out2 hC hp H 0 (by omega) (H + 1) (by omega) lb qu ⟨fun j hj => Or.inl (h2 j hj), fun a b e ha => ?_, fun r hr => absurd hr (by omega)⟩⟩
  rw [h2 a (bd_in_lt hC e.1)] at ha
  exact absurd ha.symm bd_m1_m2
theorem x_cll2 {post : St2 → Prop} (h : ∀ lb, (∀ j, j < 256 → lb j = -2) → post (nI W, nI H, tr, tt, px, fl, lb, qu, kn, pa, st, ln, ar, ii)) : ∀ d i, i + d = 256 → ∀ n, d < n → ∀ lb : Nat → Int32, (∀ j, j < i → lb j = -2) → wX_clearLabels_2 post (nI W) (nI H) tr tt n (nI i) px fl lb qu kn pa st ln ar ii := by
  intro d
  induction d with
  | zero =>
    intro i hi n hn lb h0
    obtain ⟨n, rfl⟩ : ∃ m, n = m + 1 := ⟨n - 1, by omega⟩
    exact br_t (nI_le (a := 256) (by omega) (by omega)) (h lb (fun j hj => h0 j (by omega)))
  | succ d ih =>
    intro i hi n hn lb h0
    obtain ⟨n, rfl⟩ : ∃ m, n = m + 1 := ⟨n - 1, by omega⟩
    refine br_f (nI_ge (b := 256) (by omega) (by omega)) ⟨vp_in_nI (by omega) (by omega), nm_r (congrArg (fun z => upd lb z (-2)) (nI_clamp (by omega))) (nm_r (nI_1 i) (ih (i + 1) (by omega) n (by omega) _ ?_))⟩
    intro j hj
    by_cases e : j = i
    · subst e; exact pk_us
    · exact (pk_un e).trans (h0 j (by omega))
theorem x_cll {post : St2 → Prop} (h : ∀ lb, (∀ j, j < 256 → lb j = -2) → post (nI W, nI H, tr, tt, px, fl, lb, qu, kn, pa, st, ln, ar, ii)) : wpX_clearLabels post (nI W, nI H, tr, tt, px, fl, lb, qu, kn, pa, st, ln, ar, ii) :=
  ⟨257, x_cll2 h 256 0 rfl 257 (by omega) lb (fun j hj => absurd hj (Nat.not_lt_zero j))⟩
end
/-! formContoursWithKey -/
def bd_T (W H : Nat) (p : Nat → Int32) (L : Nat → Nat) (kn0 pa0 st0 ln0 ar0 : Nat → Int32) (c : Nat) (tt : Int32) (lb kn pa st ln ar : Nat → Int32) : Prop :=
  tt = nI (bd_N W H p L c) ∧ (∀ j, j < 256 → lb j = bd_lab W H p L c j) ∧ kn = bd_A W H p L (bd_kd W H p L) kn0 c ∧
  pa = bd_A W H p L (fun i => bd_cd (bd_pv W H p L i)) pa0 c ∧ st = bd_A W H p L nI st0 c ∧ ln = bd_A W H p L (fun _ => 0) ln0 c ∧ ar = bd_A W H p L (fun _ => 0) ar0 c
section
variable {W H : Nat} {tr tt : Int32} {px fl lb qu kn pa st ln ar ii fg bg : Nat → Int32} {L : Nat → Nat} {kn0 pa0 st0 ln0 ar0 : Nat → Int32}
theorem bd_T_no (hC : bd_C W H px L) {c : Nat} (h : bd_T W H px L kn0 pa0 st0 ln0 ar0 c tt lb kn pa st ln ar) (hn : ¬ bd_key W H px L c) : bd_T W H px L kn0 pa0 st0 ln0 ar0 (c + 1) tt lb kn pa st ln ar := by
  obtain ⟨h1, h2, h3, h4, h5, h6, h7⟩ := h
  refine ⟨?_, fun j hj => ?_, ?_, ?_, ?_, ?_, ?_⟩
  · rw [bd_N_no hn]; exact h1
  · rw [bd_lab_no hC hn]; exact h2 j hj
  · rw [bd_A_n hn]; exact h3
  · rw [bd_A_n hn]; exact h4
  · rw [bd_A_n hn]; exact h5
  · rw [bd_A_n hn]; exact h6
  · rw [bd_A_n hn]; exact h7
theorem bd_T_skip (hC : bd_C W H px L) {y : Nat} : ∀ d x, W ≤ x → x + d = 16 → bd_T W H px L kn0 pa0 st0 ln0 ar0 (y * 16 + x) tt lb kn pa st ln ar → bd_T W H px L kn0 pa0 st0 ln0 ar0 ((y + 1) * 16) tt lb kn pa st ln ar := by
  intro d
  induction d with
  | zero =>
    intro x _ hx h
    rw [show (y + 1) * 16 = y * 16 + x from by omega]
    exact h
  | succ d ih =>
    intro x hw hx h
    refine ih (x + 1) (by omega) (by omega) (bd_T_no hC (c := y * 16 + x) h (fun z => ?_))
    have := (bd_key_p hC z).1.1
    omega
theorem bd_T_rows (hC : bd_C W H px L) (d : Nat) (h : bd_T W H px L kn0 pa0 st0 ln0 ar0 (H * 16) tt lb kn pa st ln ar) : bd_T W H px L kn0 pa0 st0 ln0 ar0 (H * 16 + d) tt lb kn pa st ln ar := by
  induction d with
  | zero => exact h
  | succ d ih =>
    refine bd_T_no hC (c := H * 16 + d) ih (fun z => ?_)
    have := (bd_key_p hC z).1.2
    omega
theorem bd_T_fl (hC : bd_C W H px L) {c f : Nat} {lb' : Nat → Int32} (h : bd_T W H px L kn0 pa0 st0 ln0 ar0 c tt lb kn pa st ln ar) (hk : (bd_ok W H px L c ∧ f = c) ∨ (bd_hk W H px L c ∧ f = c + 1))
    (hf : ∀ j, (bd_cn W H px f j → lb' j = nI (bd_N W H px L c)) ∧ (¬ bd_cn W H px f j → lb' j = lb j)) :
    bd_T W H px L kn0 pa0 st0 ln0 ar0 (c + 1) (nI (bd_N W H px L c + 1)) lb' (upd kn (bd_N W H px L c) (bd_kd W H px L c)) (upd pa (bd_N W H px L c) (bd_cd (bd_pv W H px L c))) (upd st (bd_N W H px L c) (nI c)) (upd ln (bd_N W H px L c) 0) (upd ar (bd_N W H px L c) 0) := by
  obtain ⟨h1, h2, h3, h4, h5, h6, h7⟩ := h
  have key : bd_key W H px L c := hk.imp And.left And.left
  refine ⟨?_, fun j hj => ?_, ?_, ?_, ?_, ?_, ?_⟩
  · rw [bd_N_key key]
  · have hs := bd_lab_step hC hk j
    by_cases hc : bd_cn W H px f j
    · rw [(hf j).1 hc, (hs.1 hc).2]
    · rw [(hf j).2 hc, hs.2 hc, h2 j hj]
  · rw [bd_A_k key, h3]
  · rw [bd_A_k key, h4]
  · rw [bd_A_k key, h5]
  · rw [bd_A_k key, h6]
  · rw [bd_A_k key, h7]
theorem bd_T_un (hC : bd_C W H px L) {c f : Nat} (h : bd_T W H px L kn0 pa0 st0 ln0 ar0 c tt lb kn pa st ln ar) (hk : (bd_ok W H px L c ∧ f = c) ∨ (bd_hk W H px L c ∧ f = c + 1)) (hf : bd_in W H f) : ∀ j, bd_cn W H px f j → lb j = -2 := by
  intro j hj
  rw [h.2.1 j (bd_in_lt hC (bd_cn_in hj hf))]
  exact ((bd_lab_step hC hk j).1 hj).1
theorem x_add {post : Int32 → St2 → Prop} {k a b : Nat} {kd : Int32} (hk : k < 256)
    (hp : post (nI k) (nI W, nI H, tr, nI (k + 1), px, fl, lb, qu, upd kn k kd, pa, upd st k (nI (b * 16 + a)), upd ln k 0, upd ar k 0, ii)) : wpX_addContour post (nI W, nI H, tr, nI k, px, fl, lb, qu, kn, pa, st, ln, ar, ii) kd (nI a) (nI b) := by
  have hv : vp_in (nI k) 256 := vp_in_nI hk (by omega)
  have hc : (nI k).toNatClampNeg = k := nI_clamp (by omega)
  refine br_f (nI_ge (b := 256) hk (by omega)) ⟨hv, nm_r (congrArg (fun z => upd kn z kd) hc) (x_ri ⟨hv, nm_r (congrArg (fun z => upd st z (nI (b * 16 + a))) hc) ⟨hv, nm_r (congrArg (fun z => upd ln z 0) hc) ⟨hv, nm_r (congrArg (fun z => upd ar z 0) hc) (nm_r (nI_1 k) hp)⟩⟩⟩)⟩
end
