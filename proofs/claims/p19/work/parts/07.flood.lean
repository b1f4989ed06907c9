/-! labelComponent: the flood -/
theorem bd_d4 {s : Nat} (h : s < 4) : bd_sx s = 1 ∨ bd_sy s = 1 := by
  have hc : s = 0 ∨ s = 1 ∨ s = 2 ∨ s = 3 := by omega
  rcases hc with rfl | rfl | rfl | rfl
  · exact Or.inl rfl
  · exact Or.inr rfl
  · exact Or.inl rfl
  · exact Or.inr rfl
theorem bd_d8 {s : Nat} (h : s < 8) : bd_sx s ≤ 2 ∧ bd_sy s ≤ 2 := by
  have hc : s = 0 ∨ s = 1 ∨ s = 2 ∨ s = 3 ∨ s = 4 ∨ s = 5 ∨ s = 6 ∨ s = 7 := by omega
  rcases hc with rfl | rfl | rfl | rfl | rfl | rfl | rfl | rfl <;> decide
def bd_D (v : Int32) : Nat := if v = 1 then 8 else 4
theorem bd_D8 (v : Int32) : bd_D v ≤ 8 := by
  unfold bd_D
  by_cases h : v = 1
  · rw [if_pos h]; omega
  · rw [if_neg h]; omega
/-- the neighbours of c in the directions below s are labelled -/
def bd_Q (W H : Nat) (p lab : Nat → Int32) (c s : Nat) : Prop :=
  ∀ r, r < s → ∀ d, bd_in W H d → p d = p c → d % 16 + 1 = c % 16 + bd_sx r → d / 16 + 1 = c / 16 + bd_sy r → lab d ≠ -2
section
variable {W H : Nat} {tr tt : Int32} {px fl lb qu kn pa st ln ar ii fg bg : Nat → Int32} {lab0 : Nat → Int32} {f : Nat} {v : Int32}
theorem x_fl70 {post : St2 → Prop} {J : Int32 → Int32 → (Nat → Int32) → (Nat → Int32) → (Nat → Int32) → (Nat → Int32) → (Nat → Int32) → (Nat → Int32) → (Nat → Int32) → (Nat → Int32) → (Nat → Int32) → (Nat → Int32) → Prop}
    (hW : W ≤ 16) (hH : H ≤ 16) (h01 : ∀ i, px i = 0 ∨ px i = 1) (hv : v ≠ -2) {m c : Nat} (hm : m < 256) (hci : bd_in W H c) (hcf : bd_cn W H px f c)
    (hJ : ∀ q lb qu, bd_FI W H px lab0 f v lb qu q → bd_FP W H px lb qu (m + 1) → m + 1 ≤ q → J (nI q) (nI (m + 1)) px fl lb qu kn pa st ln ar ii) :
    ∀ e s, s + e = bd_D (px f) → ∀ n, e < n → ∀ q lb qu, bd_FI W H px lab0 f v lb qu q → bd_FP W H px lb qu m → m < q → qu m = nI c → bd_Q W H px lb c s →
      wX_labelComponent_70 post J v (px f) (nI (bd_D (px f))) (nI m) (nI W) (nI H) tr tt n (nI q) (nI s) px fl lb qu kn pa st ln ar ii := by
  have hD := bd_D8 (px f)
  have hc256 : c < 256 := by
    obtain ⟨a, b⟩ := hci
    omega
  have hpc : px c = px f := bd_cn_p hcf
  intro e
  induction e with
  | zero =>
    intro s hs n hn q lb qu hI hP hq hqm hQ
    obtain ⟨n, rfl⟩ : ∃ m, n = m + 1 := ⟨n - 1, by omega⟩
    refine br_t (nI_le (by omega) (by omega)) (nm_r (nI_1 m) (hJ q lb qu hI ?_ (by omega)))
    intro k hk x hx ex d hd
    by_cases ek : k = m
    · subst ek
      rw [hqm] at ex
      have exc : x = c := by
        rw [nI_eq (by omega) (by omega)] at ex
        exact ex.symm
      subst exc
      rcases bd_adj_dir hd (h01 x) with e1 | ⟨r, r1, r2, r3⟩
      · subst e1
        obtain ⟨y, y1, y2, y3⟩ := hI.2.1 k hq
        rw [hqm] at y1
        have hyi := bd_cn_in hcf
        have : d = y := by
          have hy : y < 256 := by
            have h1 := bd_cn_in (bd_cn_trans (bd_cn_symm hcf) y2) hci
            obtain ⟨a, b⟩ := h1
            omega
          rw [nI_eq (by omega) (by omega)] at y1
          exact y1
        subst this
        rw [y3]
        exact hv
      · refine hQ r ?_ d hd.2.1 hd.2.2.1.symm r2 r3
        rw [hpc] at r1
        unfold bd_D at hs
        omega
    · exact hP k (by omega) x hx ex d hd
  | succ e ih =>
    intro s hs n hn q lb qu hI hP hq hqm hQ
    obtain ⟨n, rfl⟩ : ∃ m, n = m + 1 := ⟨n - 1, by omega⟩
    have hs8 : s < 8 := by omega
    have hsd := bd_d8 hs8
    have hvm : vp_in (nI m) 256 := vp_in_nI hm (by omega)
    have next : ∀ q lb qu, bd_FI W H px lab0 f v lb qu q → bd_FP W H px lb qu m → m < q → qu m = nI c → bd_Q W H px lb c (s + 1) → ∀ z, z = nI s + 1 →
        wX_labelComponent_70 post J v (px f) (nI (bd_D (px f))) (nI m) (nI W) (nI H) tr tt n (nI q) z px fl lb qu kn pa st ln ar ii := by
      intro q lb qu a1 a2 a3 a4 a5 z ez
      rw [ez, nI_1]
      exact ih (s + 1) (by omega) n (by omega) q lb qu a1 a2 a3 a4 a5
    have hx : (qu (nI m).toNatClampNeg - qu (nI m).toNatClampNeg / 16 * 16) + bd_cd (bd_sx s) = bd_cd (c % 16 + bd_sx s) := by
      rw [nI_clamp (by omega), hqm, show (16 : Int32) = nI 16 from rfl, pk_rem (by omega) (by omega) (by omega), bd_add]
    have hy : (qu (nI m).toNatClampNeg / 16) + bd_cd (bd_sy s) = bd_cd (c / 16 + bd_sy s) := by
      rw [nI_clamp (by omega), hqm, show (16 : Int32) = nI 16 from rfl, pk_div (by omega) (by omega) (by omega), bd_add]
    refine br_f (nI_ge (by omega) (by omega)) ⟨hvm, bd_16, x_stepX hs8 (nm_r hx ⟨hvm, bd_16, x_stepY hs8 (nm_r hy ?_)⟩)⟩
    have hQn : ∀ lb, bd_Q W H px lb c s → (∀ d, bd_in W H d → px d = px c → d % 16 + 1 = c % 16 + bd_sx s → d / 16 + 1 = c / 16 + bd_sy s → lb d ≠ -2) → bd_Q W H px lb c (s + 1) := by
      intro lb b1 b2 r hr d d1 d2 d3 d4
      by_cases er : r = s
      · subst er
        exact b2 d d1 d2 d3 d4
      · exact b1 r (by omega) d d1 d2 d3 d4
    by_cases hq2 : q < 256
    · refine br_f (nI_ge (b := 256) hq2 (by omega)) (x_unl hW hH (fun a b ea eb ha hb e1 e2 => br_f bd_10 ?_) (fun hno => br_t rfl (next q lb qu hI hP hq hqm (hQn lb hQ ?_))))
      · rw [bd_cd_nI (by omega) (by omega)] at ea eb
        have d1 : (b * 16 + a) % 16 = a := by omega
        have d2 : (b * 16 + a) / 16 = b := by omega
        have hdi : bd_in W H (b * 16 + a) := ⟨by omega, by omega⟩
        have hadj : bd_adj W H px c (b * 16 + a) := by
          refine ⟨hci, hdi, hpc.trans e1.symm, ⟨by omega, by omega, by omega, by omega⟩, fun z => ?_⟩
          have : s < 4 := by
            rw [hpc] at z
            unfold bd_D at hs
            rw [z, if_neg bd_01] at hs
            omega
          rcases bd_d4 this with y | y
          · exact Or.inl (by omega)
          · exact Or.inr (by omega)
        have hcd := bd_cn_step hcf hadj
        have hd256 : b * 16 + a < 256 := by omega
        have hvq : vp_in (nI q) 256 := vp_in_nI hq2 (by omega)
        have hu : upd qu q (nI (b * 16 + a)) (nI q).toNatClampNeg = nI (b * 16 + a) := by
          rw [nI_clamp (by omega)]
          exact pk_us
        rw [ea, eb, bd_cd_s, bd_cd_s]
        refine x_ri ⟨hvq, nm_r (congrArg (fun z => upd qu z (nI (b * 16 + a))) (nI_clamp (by omega))) ⟨hvq, ?_⟩⟩
        rw [hu]
        refine ⟨vp_in_nI hd256 (by omega), nm_r (congrArg (fun z => upd lb z v) (nI_clamp (by omega))) (nm_r (nI_1 q) ?_)⟩
        refine next (q + 1) _ _ (bd_FI_push hv hI hd256 hcd e2) (bd_FP_push hv (by omega) hP) (by omega) ((pk_un (by omega)).trans hqm) ?_
        have hk : ∀ d, lb d ≠ -2 → upd lb (b * 16 + a) v d ≠ -2 := by
          intro d hd
          by_cases e3 : d = b * 16 + a
          · rw [e3, pk_us]; exact hv
          · rw [pk_un e3]; exact hd
        refine hQn _ (fun r hr d x1 x2 x3 x4 => hk d (hQ r hr d x1 x2 x3 x4)) (fun d x1 x2 x3 x4 => ?_)
        have : d = b * 16 + a := by omega
        rw [this, pk_us]
        exact hv
      · intro d x1 x2 x3 x4 x5
        have x6 : d / 16 * 16 + d % 16 = d := by omega
        refine hno (d % 16) (d / 16) ?_ ?_ x1.1 x1.2 ?_ ?_
        · rw [← x3, bd_cd_s]
        · rw [← x4, bd_cd_s]
        · rw [x6]; exact x2.trans hpc
        · rw [x6]; exact x5
    · refine br_t (nI_le (a := 256) (by omega) (by have := hI.2.2.2.1; omega)) (next q lb qu hI hP hq hqm (hQn lb hQ ?_))
      intro d x1 x2 x3 x4 x5
      have : d < 256 := by
        obtain ⟨a, b⟩ := x1
        omega
      exact hq2 (bd_FI_lt hI this x5)
theorem x_fl52 {post : St2 → Prop} (hW : W ≤ 16) (hH : H ≤ 16) (h01 : ∀ i, px i = 0 ∨ px i = 1) (hv : v ≠ -2) (hf : bd_in W H f)
    (hp : ∀ q m lb qu, bd_FI W H px lab0 f v lb qu q → bd_FP W H px lb qu m → q ≤ m → post (nI W, nI H, tr, tt, px, fl, lb, qu, kn, pa, st, ln, ar, ii)) :
    ∀ e m, m + e = 256 → ∀ n, e < n → ∀ q lb qu, bd_FI W H px lab0 f v lb qu q → bd_FP W H px lb qu m → m ≤ q →
      wX_labelComponent_52 post v (px f) (nI (bd_D (px f))) (nI W) (nI H) tr tt n (nI q) (nI m) px fl lb qu kn pa st ln ar ii := by
  intro e
  induction e with
  | zero =>
    intro m hm n hn q lb qu hI hP hq
    obtain ⟨n, rfl⟩ : ∃ m, n = m + 1 := ⟨n - 1, by omega⟩
    exact br_t (nI_le (a := 256) (by omega) (by omega)) (hp q m lb qu hI hP (by have := hI.2.2.2.1; omega))
  | succ e ih =>
    intro m hm n hn q lb qu hI hP hq
    obtain ⟨n, rfl⟩ : ∃ m, n = m + 1 := ⟨n - 1, by omega⟩
    refine br_f (nI_ge (b := 256) (by omega) (by omega)) ?_
    have hq256 : q ≤ 256 := by have := hI.2.2.2.1; omega
    by_cases hqm : q ≤ m
    · exact br_t (nI_le hqm (by omega)) (hp q m lb qu hI hP hqm)
    · obtain ⟨c, c1, c2, c3⟩ := hI.2.1 m (by omega)
      refine br_f (nI_ge (by omega) (by omega)) ⟨9, ?_⟩
      have hD := bd_D8 (px f)
      refine x_fl70 (lab0 := lab0) hW hH h01 hv (by omega) (bd_cn_in c2 hf) c2 (fun q lb qu a1 a2 a3 => ?_) (bd_D (px f)) 0 (by omega) 9 (by omega) q lb qu hI hP (by omega) c1 (fun r hr => absurd hr (Nat.not_lt_zero r))
      exact ih (m + 1) (by omega) n (by omega) q lb qu a1 a2 a3
theorem x_flood {post : St2 → Prop} {a b : Nat} (hW : W ≤ 16) (hH : H ≤ 16) (h01 : ∀ i, px i = 0 ∨ px i = 1) (hv : v ≠ -2) (ha : a < W) (hb : b < H)
    (h0 : ∀ j, bd_cn W H px (b * 16 + a) j → lb j = -2)
    (hp : ∀ lb' qu', (∀ j, (bd_cn W H px (b * 16 + a) j → lb' j = v) ∧ (¬ bd_cn W H px (b * 16 + a) j → lb' j = lb j)) → post (nI W, nI H, tr, tt, px, fl, lb', qu', kn, pa, st, ln, ar, ii)) :
    wpX_labelComponent post (nI W, nI H, tr, tt, px, fl, lb, qu, kn, pa, st, ln, ar, ii) (nI a) (nI b) v := by
  have hf : bd_in W H (b * 16 + a) := ⟨by omega, by omega⟩
  have hin : ∀ j, bd_cn W H px (b * 16 + a) j → j < 256 := fun j hj => by
    obtain ⟨x, y⟩ := bd_cn_in hj hf
    omega
  have hvi : vp_in (nI (b * 16 + a)) 256 := vp_in_nI (by omega) (by omega)
  have main : wX_labelComponent_28 post v (nI (b * 16 + a)) (px (b * 16 + a)) (nI (bd_D (px (b * 16 + a)))) (nI W) (nI H) tr tt px fl lb qu kn pa st ln ar ii := by
    refine ⟨hvi, nm_r (congrArg (fun z => upd lb z v) (nI_clamp (by omega))) (nm_e ⟨257, ?_⟩)⟩
    exact x_fl52 (lab0 := lb) (f := b * 16 + a) hW hH h01 hv hf (fun q m lb' qu' hI hP hq => hp lb' qu' (bd_FI_end hin h0 hv hI hP hq)) 256 0 rfl 257 (by omega) 1 _ _ (bd_FI_0 (hin _ bd_cn_refl) h0 hv qu) (fun k hk => absurd hk (Nat.not_lt_zero k)) (by omega)
  unfold wpX_labelComponent
  refine x_ri ⟨hvi, nm_r (congrArg px (nI_clamp (by omega))) ?_⟩
  unfold bd_D at main
  rcases h01 (b * 16 + a) with e | e
  · refine br_f (by rw [e]; exact bd_01) ?_
    rw [if_neg (by rw [e]; exact bd_01)] at main
    exact main
  · refine br_t e ?_
    rw [if_pos e] at main
    exact main
end
