/-! the reference's questions and fills -/
section
variable {W H : Nat} {tr tt : Int32} {px fl lb qu kn pa st ln ar ii fg bg : Nat → Int32} {L : Nat → Nat} {t : Nat}
theorem y_e87 {post : Int32 → Prop} (hY : bd_Y W H px L t kn st fg bg) {c x y s : Nat} (hc : bd_key W H px L c) (hx : x < W) (hy : y < H) (hs : s < 4)
    (h1 : bd_far W H (bd_ow W H px L) (y * 16 + x) s = bd_bo W H px L c → post 1) (h0 : ¬ bd_far W H (bd_ow W H px L) (y * 16 + x) s = bd_bo W H px L c → post 0) :
    wY_isEdge_87 post (nI (bd_N W H px L c)) (bd_cd (x + bd_sx s)) (bd_cd (y + bd_sy s)) (nI W) (nI H) tr tt px fl fg bg kn st pa := by
  have hC := hY.1
  have hW := hC.2.1
  have hH := hC.2.2.2.1
  have hd := bd_d8 (s := s) (by omega)
  have hc256 := bd_key_lt hC hc
  have hbl : bd_bl W H px L c ≤ 257 := by
    unfold bd_bl
    by_cases ho : bd_ok W H px L c
    · rw [if_pos ho]
      by_cases hz : c % 16 = 0
      · rw [if_pos hz]; omega
      · rw [if_neg hz]
        have := bd_L_le hC (bd_left hC ho hz).1
        omega
    · rw [if_neg ho, (hc.resolve_left ho).2.2.2]; omega
  refine y_bgl hY hc (y_pix hW hH (fun a b ea eb ha hb => br_f bd_10 ?_) (fun hno => br_t rfl ?_))
  · rw [bd_cd_nI (by omega) (by omega)] at ea eb
    rw [bd_far_in hx hy hW hs ha hb ea eb] at h1 h0
    have hq : bd_in W H (b * 16 + a) := ⟨by omega, by omega⟩
    have hL := bd_L_le hC hq
    have hf := bd_farI hC hc hq
    have hv : vp_in (nI (b * 16 + a)) 256 := vp_in_nI (by omega) (by omega)
    rw [ea, eb, bd_cd_s, bd_cd_s]
    refine nm_r (bd_ri a b) ⟨hv, ?_⟩
    rw [nI_clamp (by omega)]
    refine br_c (fun e0 => ⟨hv, ?_⟩) (fun e0 => h0 (fun z => e0 (hf.mpr z).1))
    rw [(hY.2.2.1 _ hq).2 e0]
    refine br_c (fun e1 => h1 (hf.mp ⟨e0, ?_⟩)) (fun e1 => h0 (fun z => e1 ?_))
    · rw [bd_cd_eq (by omega) (by omega)] at e1
      exact e1
    · rw [(hf.mpr z).2]
  · rw [bd_far_out hx hy hW hs (fun a b z1 z2 z3 z4 => hno a b (by rw [z1]; rfl) (by rw [z2]; rfl) z3 z4)] at h1 h0
    have hf := bd_farO hC hc
    refine br_c (fun e1 => h1 (hf.mp ?_)) (fun e1 => h0 (fun z => e1 ?_))
    · rw [bd_cd_m1 (by omega)] at e1
      exact e1
    · rw [bd_cd_m1 (by omega)]
      exact hf.mpr z
theorem y_isE {post : Int32 → Prop} (hY : bd_Y W H px L t kn st fg bg) {c x y s : Nat} (hc : bd_key W H px L c) (hx : x < W) (hy : y < H) (hs : s < 4)
    (h1 : bd_E W H px L (bd_ow W H px L (y * 16 + x)) (bd_far W H (bd_ow W H px L) (y * 16 + x) s) c → post 1)
    (h0 : ¬ bd_E W H px L (bd_ow W H px L (y * 16 + x)) (bd_far W H (bd_ow W H px L) (y * 16 + x) s) c → post 0) :
    wpY_isEdge post (nI W, nI H, tr, tt, px, fl, fg, bg, kn, st, pa) (nI (bd_N W H px L c)) (nI x) (nI y) (nI s) := by
  have hC := hY.1
  have hW := hC.2.1
  have hH := hC.2.2.2.1
  have hi : bd_in W H (y * 16 + x) := ⟨by omega, by omega⟩
  have hv : vp_in (nI (y * 16 + x)) 256 := vp_in_nI (by omega) (by omega)
  have hn := bd_near hC hc hi
  have hLi := bd_L_le hC hi
  have hLc := bd_L_le hC (bd_key_p hC hc).1
  have hc256 := bd_key_lt hC hc
  refine nm_r (bd_ri x y) ⟨hv, ?_⟩
  rw [nI_clamp (by omega)]
  refine br_c (fun e1 => ⟨hv, y_fgl hY hc ?_⟩) (fun e1 => h0 (fun z => e1 (hn.mpr z.1).1))
  rw [(hY.2.2.1 _ hi).1 e1]
  refine br_c (fun e2 => ?_) (fun e2 => h0 (fun z => e2 (by rw [(hn.mpr z.1).2])))
  rw [bd_cd_eq (by omega) (by omega)] at e2
  have ho := hn.mp ⟨e1, e2⟩
  have main : wY_isEdge_87 post (nI (bd_N W H px L c)) (bd_cd (x + bd_sx s)) (bd_cd (y + bd_sy s)) (nI W) (nI H) tr tt px fl fg bg kn st pa :=
    y_e87 hY hc hx hy hs (fun z => h1 ⟨ho, z⟩) (fun z => h0 (fun w => z w.2))
  have hcs : s = 0 ∨ s = 1 ∨ s = 2 ∨ s = 3 := by omega
  rcases hcs with rfl | rfl | rfl | rfl
  · refine br_f (by decide +kernel) (br_f (by decide +kernel) (br_t (by decide +kernel) ?_))
    rw [bd_sub1]
    exact main
  · refine br_t (by decide +kernel) (br_f (by decide +kernel) (br_f (by decide +kernel) ?_))
    rw [nI_1]
    exact main
  · refine br_f (by decide +kernel) (br_f (by decide +kernel) (br_f (by decide +kernel) (br_t (by decide +kernel) ?_)))
    rw [nI_1]
    exact main
  · refine br_f (by decide +kernel) (br_t (by decide +kernel) (br_f (by decide +kernel) (br_f (by decide +kernel) ?_)))
    rw [bd_sub1]
    exact main
theorem y_l41 {post : Int32 → Prop} {J : Int32 → Int32 → Prop} (hY : bd_Y W H px L t kn st fg bg) {c i : Nat} (hc : bd_key W H px L c) (hi : bd_in W H i)
    (hJ : J (nI (bd_ct (bd_ed W H px L c) (4 * i + 4))) (nI (i + 1))) :
    ∀ e s, s + e = 4 → ∀ n, e < n → wY_contourLength_41 post J (nI (bd_N W H px L c)) (nI i) (nI W) (nI H) tr tt px fl fg bg kn st pa n (nI (bd_ct (bd_ed W H px L c) (4 * i + s))) (nI s) := by
  have hi256 := bd_in_lt hY.1 hi
  intro e
  induction e with
  | zero =>
    intro s hs n hn
    obtain ⟨n, rfl⟩ : ∃ m, n = m + 1 := ⟨n - 1, by omega⟩
    have : s = 4 := by omega
    subst this
    exact br_t (nI_le (a := 4) (by omega) (by omega)) (nm_r (nI_1 i) hJ)
  | succ e ih =>
    intro s hs n hn
    obtain ⟨n, rfl⟩ : ∃ m, n = m + 1 := ⟨n - 1, by omega⟩
    have q1 : (4 * i + s) / 4 = i := by omega
    have q2 : (4 * i + s) % 4 = s := by omega
    have q3 : i / 16 * 16 + i % 16 = i := by omega
    have hed : bd_ed W H px L c (4 * i + s) ↔ bd_E W H px L (bd_ow W H px L i) (bd_far W H (bd_ow W H px L) i s) c := by
      unfold bd_ed bd_E
      rw [q1, q2]
      exact ⟨fun z => z.2, fun z => ⟨hi, z⟩⟩
    have next := ih (s + 1) (by omega) n (by omega)
    rw [← Nat.add_assoc] at next
    refine br_f (nI_ge (b := 4) (by omega) (by omega)) ?_
    rw [bd_m15 hi256, bd_s4 hi256]
    refine y_isE hY hc hi.1 hi.2 (by omega) (fun z => br_f bd_10 ?_) (fun z => br_t rfl ?_)
    · rw [q3] at z
      rw [bd_ct_t (hed.mpr z)] at next
      exact nm_r (nI_1 _) (nm_r (nI_1 s) next)
    · rw [q3] at z
      rw [bd_ct_f (fun w => z (hed.mp w))] at next
      exact nm_r (nI_1 s) next
theorem y_l14 {post : Int32 → Prop} (hY : bd_Y W H px L t kn st fg bg) {c : Nat} (hc : bd_key W H px L c) (hp : post (nI (bd_ct (bd_ed W H px L c) 1024))) :
    ∀ e i, i + e = 256 → ∀ n, e < n → wY_contourLength_14 post (nI (bd_N W H px L c)) (nI W) (nI H) tr tt px fl fg bg kn st pa n (nI (bd_ct (bd_ed W H px L c) (4 * i))) (nI i) := by
  have hW := hY.1.2.1
  have hH := hY.1.2.2.2.1
  intro e
  induction e with
  | zero =>
    intro i hi n hn
    obtain ⟨n, rfl⟩ : ∃ m, n = m + 1 := ⟨n - 1, by omega⟩
    have : i = 256 := by omega
    subst this
    exact br_t (nI_le (a := 256) (by omega) (by omega)) hp
  | succ e ih =>
    intro i hi n hn
    obtain ⟨n, rfl⟩ : ∃ m, n = m + 1 := ⟨n - 1, by omega⟩
    have next := ih (i + 1) (by omega) n (by omega)
    refine br_f (nI_ge (b := 256) (by omega) (by omega)) (y_pixc (by omega) hW hH (fun z => br_f bd_10 ⟨5, ?_⟩) (fun z => br_t rfl (nm_r (nI_1 i) ?_)))
    · exact y_l41 hY hc z next 4 0 rfl 5 (by omega)
    · rw [bd_ed_no z] at next
      exact next
theorem y_in9 {post : Int32 → Prop} (hF : bd_F W H px L t lb kn pa st) {k : Nat} (hk : k < t) : ∀ e s, s + e = 300 → ∀ n, e < n → ∀ q, q ≤ t →
    (bd_an (fun i => bd_dc (pa i)) k e q = true → post 1) → (bd_an (fun i => bd_dc (pa i)) k e q = false → post 0) → wY_inInterior_9 post (nI k) (nI W) (nI H) tr tt px fl fg bg kn st pa n (bd_cd q) (nI s) := by
  have ht := bd_F_t hF
  intro e
  induction e with
  | zero =>
    intro s hs n hn q hq h1 h0
    obtain ⟨n, rfl⟩ : ∃ m, n = m + 1 := ⟨n - 1, by omega⟩
    exact br_t (nI_le (a := 300) (by omega) (by omega)) (h0 rfl)
  | succ e ih =>
    intro s hs n hn q hq h1 h0
    obtain ⟨n, rfl⟩ : ∃ m, n = m + 1 := ⟨n - 1, by omega⟩
    refine br_f (nI_ge (b := 300) (by omega) (by omega)) ?_
    rcases Nat.eq_zero_or_pos q with z | z
    · subst z
      exact br_f (by decide) (h0 (bd_an_0 _ _ _))
    · obtain ⟨j, rfl⟩ : ∃ j, q = j + 1 := ⟨q - 1, by omega⟩
      rw [bd_an_s, if_neg (show ¬ j + 1 = 0 by omega)] at h1 h0
      refine br_t (by rw [bd_cd_nn (by omega)]; omega) (br_c (fun y => ?_) (fun y => ⟨vp_in_nI (n := j) (by omega) (by omega), ?_⟩))
      · rw [bd_cd_nI (by omega) (by omega)] at y
        rw [if_pos y] at h1
        exact h1 rfl
      · rw [bd_cd_nI (by omega) (by omega)] at y
        rw [if_neg y] at h1 h0
        obtain ⟨a1, a2⟩ := bd_pp hF (k := j) (by omega)
        refine nm_r ((congrArg pa (nI_clamp (n := j) (by omega))).trans a1) (nm_r (nI_1 s) (ih (s + 1) (by omega) n (by omega) _ (by omega) h1 h0))
theorem y_inI {post : Int32 → Prop} (hF : bd_F W H px L t lb kn pa st) (hG : bd_G W H px L fg bg) {k i : Nat} (hk : k < t) (hi : bd_in W H i)
    (h1 : bd_a (fun i => bd_dc (pa i)) k (bd_ow W H px L i) = true → post 1) (h0 : bd_a (fun i => bd_dc (pa i)) k (bd_ow W H px L i) = false → post 0) : wpY_inInterior post (nI W, nI H, tr, nI t, px, fl, fg, bg, kn, st, pa) (nI k) (nI i) := by
  have ht := bd_F_t hF
  have ho := bd_F_ow hF hi
  have e := bd_a_an (bd_ppl hF) (k := k) (n := 300) (q := bd_ow W H px L i) ho (by omega)
  rw [← e] at h1 h0
  unfold wpY_inInterior
  dsimp only
  exact y_own (bd_FY hF hG) hi ⟨301, y_in9 hF hk 300 0 rfl 301 (by omega) _ ho h1 h0⟩
theorem y_a14 {post : Int32 → Prop} (hF : bd_F W H px L t lb kn pa st) (hG : bd_G W H px L fg bg) {k : Nat} (hk : k < t) (hp : post (bd_fin W H px L kn pa k)) :
    ∀ e i, i + e = 256 → ∀ n, e < n → wY_contourArea_14 post (nI k) (nI W) (nI H) tr (nI t) px fl fg bg kn st pa n (nI (bd_ct (fun j => bd_in W H j ∧ bd_a (fun j => bd_dc (pa j)) k (bd_ow W H px L j) = true) i)) (nI i) := by
  have ht := bd_F_t hF
  have hW := hF.1.2.1
  have hH := hF.1.2.2.2.1
  intro e
  induction e with
  | zero =>
    intro i hi n hn
    obtain ⟨n, rfl⟩ : ∃ m, n = m + 1 := ⟨n - 1, by omega⟩
    have : i = 256 := by omega
    subst this
    obtain ⟨c, hc, rfl⟩ := bd_F_c hF hk
    have hkd := (hF.2.2.2 c hc).1
    unfold bd_fin bd_arN at hp
    refine br_t (nI_le (a := 256) (by omega) (by omega)) ⟨vp_in_nI (by omega) (by omega), ?_⟩
    rw [nI_clamp (n := bd_N W H px L c) (by omega)]
    by_cases ho : bd_ok W H px L c
    · rw [show bd_kd W H px L c = 1 from if_pos ho] at hkd
      rw [hkd, if_neg (by decide)] at hp
      exact br_t hkd hp
    · rw [show bd_kd W H px L c = 2 from if_neg ho] at hkd
      rw [hkd, if_pos rfl] at hp
      exact br_f (by rw [hkd]; decide) hp
  | succ e ih =>
    intro i hi n hn
    obtain ⟨n, rfl⟩ : ∃ m, n = m + 1 := ⟨n - 1, by omega⟩
    have next := ih (i + 1) (by omega) n (by omega)
    have nno : ¬ (bd_in W H i ∧ bd_a (fun j => bd_dc (pa j)) k (bd_ow W H px L i) = true) → ∀ z, z = nI i + 1 → wY_contourArea_14 post (nI k) (nI W) (nI H) tr (nI t) px fl fg bg kn st pa n (nI (bd_ct (fun j => bd_in W H j ∧ bd_a (fun j => bd_dc (pa j)) k (bd_ow W H px L j) = true) i)) z := by
      intro h z ez
      rw [ez, nI_1]
      rw [bd_ct_f (P := fun j => bd_in W H j ∧ bd_a (fun j => bd_dc (pa j)) k (bd_ow W H px L j) = true) h] at next
      exact next
    refine br_f (nI_ge (b := 256) (by omega) (by omega)) (y_pixc (by omega) hW hH (fun z => br_f bd_10 (y_inI hF hG hk z (fun w => br_f bd_10 ?_) (fun w => br_t rfl (nno (fun y => ?_))))) (fun z => br_t rfl (nno (fun y => z y.1))))
    · rw [bd_ct_t (P := fun j => bd_in W H j ∧ bd_a (fun j => bd_dc (pa j)) k (bd_ow W H px L j) = true) ⟨z, w⟩] at next
      exact nm_r (nI_1 _) (nm_r (nI_1 i) next)
    · rw [w] at y
      exact absurd y.2 (by decide)
theorem y_g12 {post : Int32 → SY → Prop} (hF : bd_F W H px L t lb kn pa st) (hG : bd_G W H px L fg bg) {k : Nat} (hk : k < t) (hp : post 1 (nI W, nI H, tr, nI t, px, bd_tg (bd_Qk W H px L pa k) fl 256, fg, bg, kn, st, pa)) :
    ∀ e i, i + e = 256 → ∀ n, e < n → wY_toggleFill_12 post (nI k) (nI W) (nI H) tr (nI t) n (nI i) px (bd_tg (bd_Qk W H px L pa k) fl i) fg bg kn st pa := by
  have ht := bd_F_t hF
  have hW := hF.1.2.1
  have hH := hF.1.2.2.2.1
  intro e
  induction e with
  | zero =>
    intro i hi n hn
    obtain ⟨n, rfl⟩ : ∃ m, n = m + 1 := ⟨n - 1, by omega⟩
    have : i = 256 := by omega
    subst this
    exact br_t (nI_le (a := 256) (by omega) (by omega)) hp
  | succ e ih =>
    intro i hi n hn
    obtain ⟨n, rfl⟩ : ∃ m, n = m + 1 := ⟨n - 1, by omega⟩
    have hv : vp_in (nI i) 256 := vp_in_nI (by omega) (by omega)
    have next := ih (i + 1) (by omega) n (by omega)
    have nno : bd_Qk W H px L pa k i = false → ∀ z, z = nI i + 1 → wY_toggleFill_12 post (nI k) (nI W) (nI H) tr (nI t) n z px (bd_tg (bd_Qk W H px L pa k) fl i) fg bg kn st pa := by
      intro h z ez
      rw [ez, nI_1]
      rw [bd_tg_f h] at next
      exact next
    refine br_f (nI_ge (b := 256) (by omega) (by omega)) (y_pixc (by omega) hW hH (fun z => br_f bd_10 (y_inI hF hG hk z (fun w => br_f bd_10 ⟨hv, hv, ?_⟩) (fun w => br_t rfl (nno ((bd_Q_in z).trans w))))) (fun z => br_t rfl (nno (bd_Q_out z))))
    rw [nI_clamp (n := i) (by omega)]
    exact nm_r (bd_tg_t ((bd_Q_in z).trans w)) (nm_r (nI_1 i) next)
theorem y_tog {post : Int32 → SY → Prop} (hF : bd_F W H px L t lb kn pa st) (hG : bd_G W H px L fg bg) (htr : tr ≠ 0) {k : Nat} (hk : k < t) (hp : post 1 (nI W, nI H, tr, nI t, px, bd_tg (bd_Qk W H px L pa k) fl 256, fg, bg, kn, st, pa)) : wpY_toggleFill post (nI W, nI H, tr, nI t, px, fl, fg, bg, kn, st, pa) (nI k) := by
  have ht := bd_F_t hF
  unfold wpY_toggleFill
  dsimp only
  refine y_val ht (fun _ _ _ _ => br_f bd_10 ⟨257, ?_⟩) (fun hno => (hno htr k rfl hk).elim)
  have := y_g12 (tr := tr) (fl := fl) hF hG hk hp 256 0 rfl 257 (by omega)
  rw [bd_tg_0] at this
  exact this
theorem y_f57 {post : Int32 → SY → Prop} (hp : post (bd_sm fl 256) (nI W, nI H, tr, tt, px, fl, fg, bg, kn, st, pa)) : ∀ d i, i + d = 256 → ∀ n, d < n → wY_fillAll_57 post (nI W) (nI H) tr tt px fl fg bg kn st pa n (bd_sm fl i) (nI i) := by
  intro d
  induction d with
  | zero =>
    intro i hi n hn
    obtain ⟨n, rfl⟩ : ∃ m, n = m + 1 := ⟨n - 1, by omega⟩
    have : i = 256 := by omega
    subst this
    exact br_t (nI_le (a := 256) (by omega) (by omega)) hp
  | succ d ih =>
    intro i hi n hn
    obtain ⟨n, rfl⟩ : ∃ m, n = m + 1 := ⟨n - 1, by omega⟩
    refine br_f (nI_ge (b := 256) (by omega) (by omega)) ⟨vp_in_nI (by omega) (by omega), nm_r (congrArg (fun z => bd_sm fl i + fl z) (nI_clamp (n := i) (by omega))) (nm_r (nI_1 i) (ih (i + 1) (by omega) n (by omega)))⟩
theorem y_f33 {post : Int32 → SY → Prop} (hF : bd_F W H px L t lb kn pa st) (hG : bd_G W H px L fg bg) (htr : tr ≠ 0) (hp : post (bd_sm (bd_fa (bd_Qk W H px L pa) t) 256) (nI W, nI H, tr, nI t, px, bd_fa (bd_Qk W H px L pa) t, fg, bg, kn, st, pa)) :
    ∀ d k, k + d = t → ∀ n, d < n → wY_fillAll_33 post n (nI k) (nI W) (nI H) tr (nI t) px (bd_fa (bd_Qk W H px L pa) k) fg bg kn st pa := by
  have ht := bd_F_t hF
  intro d
  induction d with
  | zero =>
    intro k hk n hn
    obtain ⟨n, rfl⟩ : ∃ m, n = m + 1 := ⟨n - 1, by omega⟩
    have : k = t := by omega
    subst this
    exact br_t (nI_le (by omega) (by omega)) ⟨257, y_f57 hp 256 0 rfl 257 (by omega)⟩
  | succ d ih =>
    intro k hk n hn
    obtain ⟨n, rfl⟩ : ∃ m, n = m + 1 := ⟨n - 1, by omega⟩
    exact br_f (nI_ge (by omega) (by omega)) (y_tog hF hG htr (by omega) (nm_r (nI_1 k) (ih (k + 1) (by omega) n (by omega))))
theorem y_f11 {post : Int32 → SY → Prop} (h : ∃ n, wY_fillAll_33 post n 0 (nI W) (nI H) tr tt px (fun _ => 0) fg bg kn st pa) : ∀ d i, i + d = 256 → ∀ n, d < n → ∀ fl : Nat → Int32, (∀ j, j < i → fl j = 0) → (∀ j, 256 ≤ j → fl j = 0) → wY_fillAll_11 post (nI W) (nI H) tr tt n (nI i) px fl fg bg kn st pa := by
  intro d
  induction d with
  | zero =>
    intro i hi n hn fl h0 h1
    obtain ⟨n, rfl⟩ : ∃ m, n = m + 1 := ⟨n - 1, by omega⟩
    have e : fl = fun _ => 0 := by
      funext j
      rcases Nat.lt_or_ge j 256 with z | z
      · exact h0 j (by omega)
      · exact h1 j z
    subst e
    exact br_t (nI_le (a := 256) (by omega) (by omega)) h
  | succ d ih =>
    intro i hi n hn fl h0 h1
    obtain ⟨n, rfl⟩ : ∃ m, n = m + 1 := ⟨n - 1, by omega⟩
    refine br_f (nI_ge (b := 256) (by omega) (by omega)) ⟨vp_in_nI (by omega) (by omega), nm_r (congrArg (fun z => upd fl z 0) (nI_clamp (by omega))) (nm_r (nI_1 i) (ih (i + 1) (by omega) n (by omega) _ ?_ ?_))⟩
    · intro j hj
      by_cases e : j = i
      · subst e; exact pk_us
      · exact (pk_un e).trans (h0 j (by omega))
    · intro j hj
      exact (pk_un (by omega)).trans (h1 j hj)
theorem y_fill {post : Int32 → SY → Prop} (hF : bd_F W H px L t lb kn pa st) (hG : bd_G W H px L fg bg) (htr : ¬ tr = 0) (hfl : ∀ j, 256 ≤ j → fl j = 0) (hp : post (bd_sm (bd_fa (bd_Qk W H px L pa) t) 256) (nI W, nI H, tr, nI t, px, bd_fa (bd_Qk W H px L pa) t, fg, bg, kn, st, pa)) :
    wpY_fillAll post (nI W, nI H, tr, nI t, px, fl, fg, bg, kn, st, pa) :=
  br_f htr ⟨257, y_f11 ⟨t + 1, y_f33 hF hG htr hp t 0 (by omega) (t + 1) (by omega)⟩ 256 0 rfl 257 (by omega) fl (fun j hj => absurd hj (Nat.not_lt_zero j)) hfl⟩
end
