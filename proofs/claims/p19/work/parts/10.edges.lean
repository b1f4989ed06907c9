/-! labelBeyond, isBorder, countEdges -/
theorem bd_far_in {W H : Nat} {ow : Nat → Nat} {x y s a b : Nat} (hx : x < W) (hy : y < H) (hW : W ≤ 16) (hs : s < 4) (ha : a < W) (hb : b < H) (ea : x + bd_sx s = a + 1) (eb : y + bd_sy s = b + 1) :
    bd_far W H ow (y * 16 + x) s = ow (b * 16 + a) := by
  have h1 : (y * 16 + x) % 16 = x := by omega
  have h2 : (y * 16 + x) / 16 = y := by omega
  unfold bd_far
  rw [h1, h2]
  have hc : s = 0 ∨ s = 1 ∨ s = 2 ∨ s = 3 := by omega
  rcases hc with rfl | rfl | rfl | rfl
  · have z1 : x + 1 = a + 1 := ea
    have z2 : y + 0 = b + 1 := eb
    rw [if_pos rfl, if_neg (by omega)]
    exact congrArg ow (by omega)
  · have z1 : x + 2 = a + 1 := ea
    have z2 : y + 1 = b + 1 := eb
    rw [if_neg (by omega), if_pos rfl, if_pos (by omega)]
    exact congrArg ow (by omega)
  · have z1 : x + 1 = a + 1 := ea
    have z2 : y + 2 = b + 1 := eb
    rw [if_neg (by omega), if_neg (by omega), if_pos rfl, if_pos (by omega)]
    exact congrArg ow (by omega)
  · have z1 : x + 0 = a + 1 := ea
    have z2 : y + 1 = b + 1 := eb
    rw [if_neg (by omega), if_neg (by omega), if_neg (by omega), if_neg (by omega)]
    exact congrArg ow (by omega)
theorem bd_far_out {W H : Nat} {ow : Nat → Nat} {x y s : Nat} (hx : x < W) (hy : y < H) (hW : W ≤ 16) (hs : s < 4) (hno : ∀ a b, x + bd_sx s = a + 1 → y + bd_sy s = b + 1 → a < W → b < H → False) :
    bd_far W H ow (y * 16 + x) s = 0 := by
  have h1 : (y * 16 + x) % 16 = x := by omega
  have h2 : (y * 16 + x) / 16 = y := by omega
  unfold bd_far
  rw [h1, h2]
  have hc : s = 0 ∨ s = 1 ∨ s = 2 ∨ s = 3 := by omega
  rcases hc with rfl | rfl | rfl | rfl
  · have z : y = 0 := by
      rcases Nat.eq_zero_or_pos y with z | z
      · exact z
      · exact (hno x (y - 1) rfl (by show y + 0 = y - 1 + 1; omega) hx (by omega)).elim
    rw [if_pos rfl, if_pos z]
  · have z : ¬ x + 1 < W := fun z => hno (x + 1) y rfl rfl z hy
    rw [if_neg (by omega), if_pos rfl, if_neg z]
  · have z : ¬ y + 1 < H := fun z => hno x (y + 1) rfl rfl hx z
    rw [if_neg (by omega), if_neg (by omega), if_pos rfl, if_neg z]
  · have z : x = 0 := by
      rcases Nat.eq_zero_or_pos x with z | z
      · exact z
      · exact (hno (x - 1) y (by show x + 0 = x - 1 + 1; omega) rfl (by omega) hy).elim
    rw [if_neg (by omega), if_neg (by omega), if_neg (by omega), if_pos z]
/-- what the component's tables hold when the contours are formed -/
def bd_F (W H : Nat) (p : Nat → Int32) (L : Nat → Nat) (t : Nat) (lb kn pa st : Nat → Int32) : Prop :=
  bd_C W H p L ∧ t = bd_N W H p L 256 ∧ (∀ j, j < 256 → lb j = bd_lab W H p L 256 j) ∧
  (∀ c, bd_key W H p L c → kn (bd_N W H p L c) = bd_kd W H p L c ∧ st (bd_N W H p L c) = nI c ∧ pa (bd_N W H p L c) = bd_cd (bd_pv W H p L c))
section
variable {W H : Nat} {tr tt : Int32} {px fl lb qu kn pa st ln ar ii fg bg : Nat → Int32} {L : Nat → Nat} {t : Nat}
theorem bd_F_t (hF : bd_F W H px L t lb kn pa st) : t ≤ 256 := by
  rw [hF.2.1]
  exact bd_N_le 256
theorem bd_key_lt (hC : bd_C W H px L) {c : Nat} (h : bd_key W H px L c) : c < 256 := bd_in_lt hC (bd_key_p hC h).1
theorem bd_F_k (hF : bd_F W H px L t lb kn pa st) {c : Nat} (h : bd_key W H px L c) : bd_N W H px L c < t := by
  rw [hF.2.1]
  exact bd_N_lt h (bd_key_lt hF.1 h)
theorem bd_F_c (hF : bd_F W H px L t lb kn pa st) {k : Nat} (h : k < t) : ∃ c, bd_key W H px L c ∧ k = bd_N W H px L c := by
  rw [hF.2.1] at h
  obtain ⟨c, _, h2, h3⟩ := bd_N_ex h
  exact ⟨c, h2, h3.symm⟩
theorem bd_F_lb (hF : bd_F W H px L t lb kn pa st) {i : Nat} (h : bd_in W H i) : lb i = bd_cd (bd_ow W H px L i) := by
  rw [hF.2.2.1 i (bd_in_lt hF.1 h)]
  exact bd_lab_256 hF.1 h
theorem bd_F_ow (hF : bd_F W H px L t lb kn pa st) {i : Nat} (h : bd_in W H i) : bd_ow W H px L i ≤ t := by
  rw [hF.2.1]
  exact bd_ow_le hF.1 h
theorem bd_far_le (hF : bd_F W H px L t lb kn pa st) {x y s : Nat} (hx : x < W) (hy : y < H) (hs : s < 4) : bd_far W H (bd_ow W H px L) (y * 16 + x) s ≤ t := by
  have hW := hF.1.2.1
  by_cases h : ∃ a b, x + bd_sx s = a + 1 ∧ y + bd_sy s = b + 1 ∧ a < W ∧ b < H
  · obtain ⟨a, b, h1, h2, h3, h4⟩ := h
    rw [bd_far_in hx hy hW hs h3 h4 h1 h2]
    exact bd_F_ow hF ⟨by omega, by omega⟩
  · rw [bd_far_out hx hy hW hs (fun a b h1 h2 h3 h4 => h ⟨a, b, h1, h2, h3, h4⟩)]
    omega
theorem x_bey {post : Int32 → Prop} (hF : bd_F W H px L t lb kn pa st) {x y s : Nat} (hx : x < W) (hy : y < H) (hs : s < 4)
    (hp : post (bd_cd (bd_far W H (bd_ow W H px L) (y * 16 + x) s))) : wpX_labelBeyond post (nI W, nI H, tr, tt, px, fl, lb, qu, kn, pa, st, ln, ar, ii) (nI x) (nI y) (nI s) := by
  have hW := hF.1.2.1
  have hH := hF.1.2.2.2.1
  have hd := bd_d8 (s := s) (by omega)
  unfold wpX_labelBeyond
  dsimp only
  refine x_stepX (s := s) (by omega) (nm_r (bd_add x (bd_sx s)) (x_stepY (s := s) (by omega) (nm_r (bd_add y (bd_sy s)) (x_labAt hW hH (fun a b ea eb ha hb => ?_) (fun hno => ?_)))))
  · rw [bd_cd_nI (by omega) (by omega)] at ea eb
    rw [bd_far_in hx hy hW hs ha hb ea eb, ← bd_F_lb hF ⟨by omega, by omega⟩] at hp
    exact hp
  · rw [bd_far_out hx hy hW hs (fun a b h1 h2 h3 h4 => hno a b (by rw [h1]; rfl) (by rw [h2]; rfl) h3 h4)] at hp
    exact hp
theorem x_isB {post : Int32 → Prop} (hF : bd_F W H px L t lb kn pa st) {c a b : Nat} (h : bd_key W H px L c) (ha : a ≤ t) (hb : b ≤ t) (h1 : bd_E W H px L a b c → post 1) (h0 : ¬ bd_E W H px L a b c → post 0) :
    wpX_isBorder post (nI W, nI H, tr, tt, px, fl, lb, qu, kn, pa, st, ln, ar, ii) (nI (bd_N W H px L c)) (bd_cd a) (bd_cd b) := by
  have ht := bd_F_t hF
  have hk := bd_F_k hF h
  have hq := bd_pv_le hF.1 h
  have hv : vp_in (nI (bd_N W H px L c)) 256 := vp_in_nI (by omega) (by omega)
  refine ⟨hv, ?_⟩
  rw [nI_clamp (by omega), (hF.2.2.2 c h).1, (hF.2.2.2 c h).2.2]
  have hi := bd_isb (a := a) (b := b) hF.1 h
  by_cases hd : bd_kd W H px L c = 1
  · have hi := hi.1 hd
    refine br_t hd (br_c (fun e1 => ⟨hv, br_c (fun e2 => h1 (hi.mp ?_)) (fun e2 => h0 fun z => e2 ?_)⟩) (fun e1 => h0 fun z => e1 ?_))
    · rw [bd_cd_nI (by omega) (by omega)] at e1
      rw [bd_cd_eq (by omega) (by omega)] at e2
      exact ⟨e1, e2⟩
    · rw [bd_cd_eq (by omega) (by omega)]
      exact (hi.mpr z).2
    · rw [bd_cd_nI (by omega) (by omega)]
      exact (hi.mpr z).1
  · have hi := hi.2 hd
    refine br_f hd ⟨hv, br_c (fun e1 => br_c (fun e2 => h1 (hi.mp ?_)) (fun e2 => h0 fun z => e2 ?_)) (fun e1 => h0 fun z => e1 ?_)⟩
    · rw [bd_cd_nI (by omega) (by omega)] at e2
      rw [bd_cd_eq (by omega) (by omega)] at e1
      exact ⟨e1, e2⟩
    · rw [bd_cd_nI (by omega) (by omega)]
      exact (hi.mpr z).2
    · rw [bd_cd_eq (by omega) (by omega)]
      exact (hi.mpr z).1
theorem x_cE28 {post : St2 → Prop} (hF : bd_F W H px L t lb kn pa st) {a b : Nat} (ha : a ≤ t) (hb : b ≤ t) {l1 : Nat → Int32}
    (h1 : bd_inc (∃ c, bd_key W H px L c ∧ a = bd_N W H px L c + 1 ∧ bd_E W H px L a b c) (a - 1) ln l1)
    (hp : ∀ l2, (∀ c, bd_key W H px L c → (bd_E W H px L a b c → l2 (bd_N W H px L c) = ln (bd_N W H px L c) + 1) ∧ (¬ bd_E W H px L a b c → l2 (bd_N W H px L c) = ln (bd_N W H px L c))) → post (nI W, nI H, tr, nI t, px, fl, lb, qu, kn, pa, st, l2, ar, ii)) :
    wX_countEdge_28 post (bd_cd a) (bd_cd b) (nI W) (nI H) tr (nI t) px fl lb qu kn pa st l1 ar ii := by
  have ht := bd_F_t hF
  have hC := hF.1
  have fin : ∀ l2, bd_inc (∃ c, bd_key W H px L c ∧ b = bd_N W H px L c + 1 ∧ bd_E W H px L a b c) (b - 1) l1 l2 → post (nI W, nI H, tr, nI t, px, fl, lb, qu, kn, pa, st, l2, ar, ii) := fun l2 h2 => hp l2 (fun c hc => bd_len hC h1 h2 hc)
  refine x_isC ht (fun k ek hk => br_f bd_10 ?_) (fun hno => br_t rfl (fin l1 ⟨fun z => ?_, fun _ => rfl⟩))
  · rw [bd_cd_nI (by omega) (by omega)] at ek
    obtain ⟨c, hc, rfl⟩ := bd_F_c hF hk
    subst ek
    have hv : vp_in (bd_cd (bd_N W H px L c + 1)) 256 := vp_in_nI (by omega) (by omega)
    refine x_isB (c := c) hF hc ha hb (fun he => br_f bd_10 ⟨hv, hv, nm_r (congrArg (fun z => upd l1 z (l1 z + 1)) (nI_clamp (n := bd_N W H px L c) (by omega))) (fin _ ⟨fun _ => rfl, fun z => absurd ⟨c, hc, rfl, he⟩ z⟩)⟩) (fun he => br_t rfl (fin l1 ⟨fun z => ?_, fun _ => rfl⟩))
    obtain ⟨d, hd, e1, e2⟩ := z
    have : c = d := bd_N_inj hc hd (by omega)
    subst this
    exact absurd e2 he
  · obtain ⟨c, hc, e1, e2⟩ := z
    exact (hno (bd_N W H px L c) (by rw [e1]; rfl) (bd_F_k hF hc)).elim
theorem x_cE {post : St2 → Prop} (hF : bd_F W H px L t lb kn pa st) {a b : Nat} (ha : a ≤ t) (hb : b ≤ t)
    (hp : ∀ l2, (∀ c, bd_key W H px L c → (bd_E W H px L a b c → l2 (bd_N W H px L c) = ln (bd_N W H px L c) + 1) ∧ (¬ bd_E W H px L a b c → l2 (bd_N W H px L c) = ln (bd_N W H px L c))) → post (nI W, nI H, tr, nI t, px, fl, lb, qu, kn, pa, st, l2, ar, ii)) :
    wpX_countEdge post (nI W, nI H, tr, nI t, px, fl, lb, qu, kn, pa, st, ln, ar, ii) (bd_cd a) (bd_cd b) := by
  have ht := bd_F_t hF
  have fin : ∀ l1, bd_inc (∃ c, bd_key W H px L c ∧ a = bd_N W H px L c + 1 ∧ bd_E W H px L a b c) (a - 1) ln l1 → wX_countEdge_28 post (bd_cd a) (bd_cd b) (nI W) (nI H) tr (nI t) px fl lb qu kn pa st l1 ar ii := fun l1 h1 => x_cE28 hF ha hb h1 hp
  unfold wpX_countEdge
  dsimp only
  refine x_isC ht (fun k ek hk => br_f bd_10 ?_) (fun hno => br_t rfl (fin ln ⟨fun z => ?_, fun _ => rfl⟩))
  · rw [bd_cd_nI (by omega) (by omega)] at ek
    obtain ⟨c, hc, rfl⟩ := bd_F_c hF hk
    subst ek
    have hv : vp_in (bd_cd (bd_N W H px L c + 1)) 256 := vp_in_nI (by omega) (by omega)
    refine x_isB (c := c) hF hc ha hb (fun he => br_f bd_10 ⟨hv, hv, nm_r (congrArg (fun z => upd ln z (ln z + 1)) (nI_clamp (n := bd_N W H px L c) (by omega))) (fin _ ⟨fun _ => rfl, fun z => absurd ⟨c, hc, rfl, he⟩ z⟩)⟩) (fun he => br_t rfl (fin ln ⟨fun z => ?_, fun _ => rfl⟩))
    obtain ⟨d, hd, e1, e2⟩ := z
    have : c = d := bd_N_inj hc hd (by omega)
    subst this
    exact absurd e2 he
  · obtain ⟨c, hc, e1, e2⟩ := z
    exact (hno (bd_N W H px L c) (by rw [e1]; rfl) (bd_F_k hF hc)).elim
theorem x_ce34 {post : St2 → Prop} {J2 J12 : Int32 → Int32 → Int32 → Int32 → Int32 → (Nat → Int32) → (Nat → Int32) → (Nat → Int32) → (Nat → Int32) → (Nat → Int32) → (Nat → Int32) → (Nat → Int32) → (Nat → Int32) → (Nat → Int32) → (Nat → Int32) → Prop}
    (hF : bd_F W H px L t lb kn pa st) {x y : Nat} (hx : x < W) (hy : y < H)
    (hJ : ∀ ln, (∀ c, bd_key W H px L c → ln (bd_N W H px L c) = nI (bd_ct (bd_ed W H px L c) (4 * (y * 16 + x) + 4))) → J12 (nI (x + 1)) (nI W) (nI H) tr (nI t) px fl lb qu kn pa st ln ar ii) :
    ∀ e s, s + e = 4 → ∀ n, e < n → ∀ ln, (∀ c, bd_key W H px L c → ln (bd_N W H px L c) = nI (bd_ct (bd_ed W H px L c) (4 * (y * 16 + x) + s))) →
      wX_countEdges_34 post J2 J12 (nI y) (nI x) (bd_cd (bd_ow W H px L (y * 16 + x))) n (nI s) (nI W) (nI H) tr (nI t) px fl lb qu kn pa st ln ar ii := by
  have hW := hF.1.2.1
  have hin : bd_in W H (y * 16 + x) := ⟨by omega, by omega⟩
  intro e
  induction e with
  | zero =>
    intro s hs n hn ln h
    obtain ⟨n, rfl⟩ : ∃ m, n = m + 1 := ⟨n - 1, by omega⟩
    have : s = 4 := by omega
    subst this
    exact br_t (nI_le (a := 4) (by omega) (by omega)) (nm_r (nI_1 x) (hJ ln h))
  | succ e ih =>
    intro s hs n hn ln h
    obtain ⟨n, rfl⟩ : ∃ m, n = m + 1 := ⟨n - 1, by omega⟩
    refine br_f (nI_ge (b := 4) (by omega) (by omega)) (x_bey hF hx hy (by omega) (x_cE hF (bd_F_ow hF hin) (bd_far_le hF hx hy (by omega)) (fun l2 h2 => nm_r (nI_1 s) (ih (s + 1) (by omega) n (by omega) l2 (fun c hc => ?_)))))
    have q1 : (4 * (y * 16 + x) + s) / 4 = y * 16 + x := by omega
    have q2 : (4 * (y * 16 + x) + s) % 4 = s := by omega
    have hed : bd_ed W H px L c (4 * (y * 16 + x) + s) ↔ bd_E W H px L (bd_ow W H px L (y * 16 + x)) (bd_far W H (bd_ow W H px L) (y * 16 + x) s) c := by
      unfold bd_ed bd_E
      rw [q1, q2]
      exact ⟨fun z => z.2, fun z => ⟨hin, z⟩⟩
    rw [← Nat.add_assoc]
    by_cases he : bd_ed W H px L c (4 * (y * 16 + x) + s)
    · rw [bd_ct_t he, (h2 c hc).1 (hed.mp he), h c hc, nI_1]
    · rw [bd_ct_f he, (h2 c hc).2 (fun z => he (hed.mpr z)), h c hc]
theorem bd_ed_no {c i : Nat} (hi : ¬ bd_in W H i) : bd_ct (bd_ed W H px L c) (4 * (i + 1)) = bd_ct (bd_ed W H px L c) (4 * i) := by
  have h : ∀ s, s < 4 → ¬ bd_ed W H px L c (4 * i + s) := fun s hs z => hi (by
    have := z.1
    rw [show (4 * i + s) / 4 = i from by omega] at this
    exact this)
  rw [show 4 * (i + 1) = 4 * i + 0 + 1 + 1 + 1 + 1 from by omega, bd_ct_f (h 3 (by omega)), bd_ct_f (h 2 (by omega)), bd_ct_f (h 1 (by omega)), bd_ct_f (h 0 (by omega))]
  rfl
theorem bd_ed_skip {c y : Nat} : ∀ d x, W ≤ x → x + d = 16 → bd_ct (bd_ed W H px L c) (4 * ((y + 1) * 16)) = bd_ct (bd_ed W H px L c) (4 * (y * 16 + x)) := by
  intro d
  induction d with
  | zero =>
    intro x _ hx
    rw [show (y + 1) * 16 = y * 16 + x from by omega]
  | succ d ih =>
    intro x hw hx
    rw [ih (x + 1) (by omega) (by omega)]
    exact bd_ed_no (i := y * 16 + x) (fun z => absurd z.1 (by omega))
theorem bd_ed_rows {c : Nat} (d : Nat) : bd_ct (bd_ed W H px L c) (4 * (H * 16 + d)) = bd_ct (bd_ed W H px L c) (4 * (H * 16)) := by
  induction d with
  | zero => rfl
  | succ d ih =>
    rw [← ih]
    exact bd_ed_no (i := H * 16 + d) (fun z => absurd z.2 (by omega))
theorem x_ce12 {post : St2 → Prop} {J2 : Int32 → Int32 → Int32 → Int32 → Int32 → (Nat → Int32) → (Nat → Int32) → (Nat → Int32) → (Nat → Int32) → (Nat → Int32) → (Nat → Int32) → (Nat → Int32) → (Nat → Int32) → (Nat → Int32) → (Nat → Int32) → Prop}
    (hF : bd_F W H px L t lb kn pa st) {y : Nat} (hy : y < H)
    (hJ : ∀ ln, (∀ c, bd_key W H px L c → ln (bd_N W H px L c) = nI (bd_ct (bd_ed W H px L c) (4 * ((y + 1) * 16)))) → J2 (nI (y + 1)) (nI W) (nI H) tr (nI t) px fl lb qu kn pa st ln ar ii) :
    ∀ e x, x + e = W → ∀ n, e < n → ∀ ln, (∀ c, bd_key W H px L c → ln (bd_N W H px L c) = nI (bd_ct (bd_ed W H px L c) (4 * (y * 16 + x)))) →
      wX_countEdges_12 post J2 (nI y) n (nI x) (nI W) (nI H) tr (nI t) px fl lb qu kn pa st ln ar ii := by
  have hW := hF.1.2.1
  have hH := hF.1.2.2.2.1
  intro e
  induction e with
  | zero =>
    intro x hx n hn ln h
    obtain ⟨n, rfl⟩ : ∃ m, n = m + 1 := ⟨n - 1, by omega⟩
    refine br_t (nI_le (by omega) (by omega)) (nm_r (nI_1 y) (hJ ln (fun c hc => ?_)))
    rw [bd_ed_skip (16 - x) x (by omega) (by omega)]
    exact h c hc
  | succ e ih =>
    intro x hx n hn ln h
    obtain ⟨n, rfl⟩ : ∃ m, n = m + 1 := ⟨n - 1, by omega⟩
    have hin : bd_in W H (y * 16 + x) := ⟨by omega, by omega⟩
    refine br_f (nI_ge (by omega) (by omega)) (x_ri ⟨vp_in_nI (by omega) (by omega), nm_r ((congrArg lb (nI_clamp (by omega))).trans (bd_F_lb hF hin)) ⟨5, ?_⟩⟩)
    refine x_ce34 hF (by omega) hy (fun ln h => ?_) 4 0 rfl 5 (by omega) ln h
    exact ih (x + 1) (by omega) n (by omega) ln h
theorem x_ce2 {post : St2 → Prop} (hF : bd_F W H px L t lb kn pa st)
    (hp : ∀ ln, (∀ c, bd_key W H px L c → ln (bd_N W H px L c) = nI (bd_ct (bd_ed W H px L c) 1024)) → post (nI W, nI H, tr, nI t, px, fl, lb, qu, kn, pa, st, ln, ar, ii)) :
    ∀ e y, y + e = H → ∀ n, e < n → ∀ ln, (∀ c, bd_key W H px L c → ln (bd_N W H px L c) = nI (bd_ct (bd_ed W H px L c) (4 * (y * 16)))) →
      wX_countEdges_2 post n (nI y) (nI W) (nI H) tr (nI t) px fl lb qu kn pa st ln ar ii := by
  have hW := hF.1.2.1
  have hH := hF.1.2.2.2.1
  intro e
  induction e with
  | zero =>
    intro y hy n hn ln h
    obtain ⟨n, rfl⟩ : ∃ m, n = m + 1 := ⟨n - 1, by omega⟩
    have hy' : y = H := by omega
    subst hy'
    refine br_t (nI_le (by omega) (by omega)) (hp ln (fun c hc => ?_))
    rw [h c hc, ← bd_ed_rows (256 - y * 16), show 4 * (y * 16 + (256 - y * 16)) = 1024 from by omega]
  | succ e ih =>
    intro y hy n hn ln h
    obtain ⟨n, rfl⟩ : ∃ m, n = m + 1 := ⟨n - 1, by omega⟩
    exact br_f (nI_ge (by omega) (by omega)) ⟨W + 1, x_ce12 hF (by omega) (fun ln h => ih (y + 1) (by omega) n (by omega) ln h) W 0 (by omega) (W + 1) (by omega) ln h⟩
theorem x_edges {post : St2 → Prop} (hF : bd_F W H px L t lb kn pa st) (h0 : ∀ c, bd_key W H px L c → ln (bd_N W H px L c) = 0)
    (hp : ∀ ln, (∀ c, bd_key W H px L c → ln (bd_N W H px L c) = nI (bd_ct (bd_ed W H px L c) 1024)) → post (nI W, nI H, tr, nI t, px, fl, lb, qu, kn, pa, st, ln, ar, ii)) : wpX_countEdges post (nI W, nI H, tr, nI t, px, fl, lb, qu, kn, pa, st, ln, ar, ii) :=
  ⟨H + 1, x_ce2 hF hp H 0 (by omega) (H + 1) (by omega) ln (fun c hc => h0 c hc)⟩
end
