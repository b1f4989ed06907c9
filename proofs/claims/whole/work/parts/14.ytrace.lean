/-! the reference's trace -/
def bd_s0 (W H : Nat) (p : Nat → Int32) (i : Nat) : Nat := if p i = 0 ∧ bd_rim W H i then 0 else i + 1
/-- the reference's labels are the pure ones -/
def bd_G (W H : Nat) (p : Nat → Int32) (L : Nat → Nat) (fg bg : Nat → Int32) : Prop := ∀ i, bd_in W H i → (p i = 1 → fg i = bd_cd (L i)) ∧ (p i = 0 → bg i = bd_cd (L i))
section
variable {W H : Nat} {tr tt : Int32} {px fl lb qu kn pa st ln ar ii fg bg : Nat → Int32} {L : Nat → Nat}
theorem bd_G_of {s : Nat → Nat} (hS : bd_St W H px fg bg s) (h : ∀ i, bd_in W H i → s i = L i) : bd_G W H px L fg bg := by
  intro i hi
  have := hS i hi
  rw [h i hi] at this
  exact ⟨this.1, this.2.1⟩
theorem y_p152 {post : Int32 → SY → Prop} {J : Int32 → Int32 → Int32 → Int32 → Int32 → (Nat → Int32) → (Nat → Int32) → (Nat → Int32) → (Nat → Int32) → (Nat → Int32) → (Nat → Int32) → (Nat → Int32) → Prop}
    (hC : bd_C W H px L) {s0 : Nat → Nat} {t : Nat} (hlo : bd_lo W H L s0) (hsrc : bd_src W H px s0)
    (hE : ∀ fg bg, bd_G W H px L fg bg → ∃ n, wY_trace_195 post (nI W) (nI H) tr n 0 0 px fl fg bg kn st pa)
    (hJ : ∀ fg bg s, bd_St W H px fg bg s → bd_pass W H px L s0 s → J (nI (t + 1)) (nI W) (nI H) tr tt px fl fg bg kn st pa) :
    ∀ e i, i + e = 256 → ∀ n, e < n → ∀ fg bg s ch, bd_St W H px fg bg s → (∀ j, bd_in W H j → L j ≤ s j ∧ s j ≤ s0 j) → (∀ j, j < i → ∀ q, bd_adj W H px j q → s j ≤ s0 q) → (ch = 0 → s = s0) →
      wY_trace_152 post J (nI t) n ch (nI i) (nI W) (nI H) tr tt px fl fg bg kn st pa := by
  intro e
  induction e with
  | zero =>
    intro i hi n hn fg bg s ch hS h1 h2 h3
    obtain ⟨n, rfl⟩ : ∃ m, n = m + 1 := ⟨n - 1, by omega⟩
    have hps : bd_pass W H px L s0 s := ⟨h1, fun j q hq => h2 j (by have := bd_in_lt hC hq.1; omega) q hq⟩
    refine br_t (nI_le (a := 256) (by omega) (by omega)) (br_c (fun z => hE fg bg (bd_G_of hS ?_)) (fun z => nm_r (nI_1 t) (hJ fg bg s hS hps)))
    have := h3 z
    subst this
    exact fun i hi => bd_pass_fix hC hlo hsrc hps (fun _ _ => rfl) hi
  | succ e ih =>
    intro i hi n hn fg bg s ch hS h1 h2 h3
    obtain ⟨n, rfl⟩ : ∃ m, n = m + 1 := ⟨n - 1, by omega⟩
    refine br_f (nI_ge (b := 256) (by omega) (by omega)) (y_rx hC hS (fun j hj => (h1 j hj).1) (by omega) (fun r fg' bg' s' a1 a2 a3 a4 => ?_))
    have b1 : ∀ j, bd_in W H j → L j ≤ s' j ∧ s' j ≤ s0 j := by
      intro j hj
      by_cases ej : j = i
      · subst ej
        have := a3 hj
        have := h1 j hj
        omega
      · rw [a2 j ej]; exact h1 j hj
    have b2 : ∀ j, j < i + 1 → ∀ q, bd_adj W H px j q → s' j ≤ s0 q := by
      intro j hj q hq
      by_cases ej : j = i
      · subst ej
        have c1 := (a3 hq.1).2.2 q hq
        have c2 := (h1 q hq.2.1).2
        omega
      · rw [a2 j ej]; exact h2 j (by omega) q hq
    dsimp only
    rcases a4 with ⟨rfl, rfl⟩ | rfl
    · exact br_t rfl (nm_r (nI_1 i) (ih (i + 1) (by omega) n (by omega) fg' bg' s' ch a1 b1 b2 h3))
    · exact br_f bd_10 (nm_r (nI_1 i) (ih (i + 1) (by omega) n (by omega) fg' bg' s' 1 a1 b1 b2 (fun z => absurd z bd_10)))
theorem y_t141 {post : Int32 → SY → Prop} (hC : bd_C W H px L) (hE : ∀ fg bg, bd_G W H px L fg bg → ∃ n, wY_trace_195 post (nI W) (nI H) tr n 0 0 px fl fg bg kn st pa) :
    ∀ e t, t + e = 300 → ∀ n, e < n → ∀ fg bg s, bd_St W H px fg bg s → bd_lo W H L s → bd_src W H px s → (bd_nf W H L s = 0 ∨ t + bd_nf W H L s ≤ 256) → wY_trace_141 post n (nI t) (nI W) (nI H) tr tt px fl fg bg kn st pa := by
  intro e
  induction e with
  | zero =>
    intro t ht n hn fg bg s hS hlo hsrc hnf
    obtain ⟨n, rfl⟩ : ∃ m, n = m + 1 := ⟨n - 1, by omega⟩
    exact br_t (nI_le (a := 300) (by omega) (by omega)) (hE fg bg (bd_G_of hS (fun i hi => bd_nf_0 hC (by omega) hi)))
  | succ e ih =>
    intro t ht n hn fg bg s hS hlo hsrc hnf
    obtain ⟨n, rfl⟩ : ∃ m, n = m + 1 := ⟨n - 1, by omega⟩
    refine br_f (nI_ge (b := 300) (by omega) (by omega)) ⟨257, y_p152 hC hlo hsrc hE (fun fg bg s' hS' hps => ?_) 256 0 rfl 257 (by omega) fg bg s 0 hS (fun j hj => ⟨hlo j hj, Nat.le_refl _⟩) (fun j hj => absurd hj (Nat.not_lt_zero j)) (fun _ => rfl)⟩
    exact ih (t + 1) (by omega) n (by omega) fg bg s' hS' (bd_pass_lo hps) (bd_pass_src hps hsrc) (bd_pass_nf hC hlo hsrc hps hnf)
theorem y_t24 {post : Int32 → SY → Prop} (hC : bd_C W H px L) (hp : ∀ fg bg, bd_St W H px fg bg (bd_s0 W H px) → ∃ n, wY_trace_141 post n 0 (nI W) (nI H) tr tt px fl fg bg kn st pa) :
    ∀ e i, i + e = 256 → ∀ n, e < n → ∀ fg bg, (∀ j, j < i → bd_in W H j → (px j = 1 → fg j = bd_cd (bd_s0 W H px j)) ∧ (px j = 0 → bg j = bd_cd (bd_s0 W H px j))) → wY_trace_24 post (nI W) (nI H) tr tt n (nI i) px fl fg bg kn st pa := by
  have hW := hC.2.1
  have hH := hC.2.2.2.1
  intro e
  induction e with
  | zero =>
    intro i hi n hn fg bg h
    obtain ⟨n, rfl⟩ : ∃ m, n = m + 1 := ⟨n - 1, by omega⟩
    refine br_t (nI_le (a := 256) (by omega) (by omega)) (hp fg bg (fun j hj => ⟨(h j ?_ hj).1, (h j ?_ hj).2, ?_⟩))
    · have := bd_in_lt hC hj; omega
    · have := bd_in_lt hC hj; omega
    · unfold bd_s0
      by_cases z : px j = 0 ∧ bd_rim W H j
      · rw [if_pos z]; omega
      · rw [if_neg z]; omega
  | succ e ih =>
    intro i hi n hn fg bg h
    obtain ⟨n, rfl⟩ : ∃ m, n = m + 1 := ⟨n - 1, by omega⟩
    have hv : vp_in (nI i) 256 := vp_in_nI (by omega) (by omega)
    have hc : (nI i).toNatClampNeg = i := nI_clamp (by omega)
    have next : ∀ fg' bg' : Nat → Int32, (∀ j, j ≠ i → fg' j = fg j) → (∀ j, j ≠ i → bg' j = bg j) → (bd_in W H i → (px i = 1 → fg' i = bd_cd (bd_s0 W H px i)) ∧ (px i = 0 → bg' i = bd_cd (bd_s0 W H px i))) → ∀ z, z = nI i + 1 → wY_trace_24 post (nI W) (nI H) tr tt n z px fl fg' bg' kn st pa := by
      intro fg' bg' a1 a2 a3 z ez
      rw [ez, nI_1]
      refine ih (i + 1) (by omega) n (by omega) fg' bg' (fun j hj hji => ?_)
      by_cases ej : j = i
      · subst ej; exact a3 hji
      · rw [a1 j ej, a2 j ej]; exact h j (by omega) hji
    refine br_f (nI_ge (b := 256) (by omega) (by omega)) (nm_r (bd_m15 (by omega)) (nm_r (bd_s4 (by omega)) ⟨hv, nm_r (congrArg (fun z => upd fg z (-2)) hc) ⟨hv, nm_r (congrArg (fun z => upd bg z (-2)) hc) (y_pix hW hH (fun a b ea eb ha hb => br_f bd_10 ⟨hv, ?_⟩) (fun hno => br_t rfl (next _ _ (fun j hj => pk_un hj) (fun j hj => pk_un hj) (fun z => (hno _ _ rfl rfl z.1 z.2).elim))))⟩⟩))
    rw [nI_eq (by omega) (by omega)] at ea eb
    have hin : bd_in W H i := ⟨by omega, by omega⟩
    have e1 : nI W - 1 = nI (W - 1) := by
      have := hC.1
      rw [show (1 : Int32) = nI 1 from rfl, pk_sub (by omega)]
    have e2 : nI H - 1 = nI (H - 1) := by
      have := hC.2.2.1
      rw [show (1 : Int32) = nI 1 from rfl, pk_sub (by omega)]
    rw [hc, e1, e2]
    have uu : ∀ (f : Nat → Int32) (x y : Int32) (j : Nat), j ≠ i → upd (upd f i x) i y j = f j := fun f x y j hj => (pk_un hj).trans (pk_un hj)
    refine br_c (fun z => ⟨hv, nm_e (next _ _ (uu fg _ _) (fun j hj => pk_un hj) (fun _ => ⟨fun _ => ?_, fun y => absurd (y.symm.trans z) bd_01⟩))⟩) (fun z => ?_)
    · rw [pk_us]
      unfold bd_s0
      rw [if_neg (fun y => bd_01 (y.1.symm.trans z))]
      rfl
    · have z0 : px i = 0 := (hC.2.2.2.2.1 i).resolve_right z
      have rim : bd_rim W H i → wY_trace_116 post (wY_trace_24 post (nI W) (nI H) tr tt n) (nI i) (nI W) (nI H) tr tt px fl (upd fg i (-2)) (upd bg i (-2)) kn st pa := by
        intro hr
        refine ⟨hv, nm_r (congrArg (fun z => upd (upd bg i (-2)) z (-1)) hc) (next _ _ (fun j hj => pk_un hj) (uu bg _ _) (fun _ => ⟨fun y => absurd y z, fun _ => ?_⟩))⟩
        rw [pk_us]
        unfold bd_s0
        rw [if_pos ⟨z0, hr⟩]
        rfl
      refine pk_eq (i % 16) 0 (fun w => rim (Or.inl w)) (fun w1 => pk_eq (i / 16) 0 (fun w => rim (Or.inr (Or.inl w))) (fun w2 => pk_eq (i % 16) (W - 1) (fun w => rim (by omega)) (fun w3 => pk_eq (i / 16) (H - 1) (fun w => rim (by omega)) (fun w4 => ⟨hv, nm_e (next _ _ (fun j hj => pk_un hj) (uu bg _ _) (fun _ => ⟨fun y => absurd y z, fun _ => ?_⟩))⟩))))
      rw [pk_us]
      unfold bd_s0
      rw [if_neg (fun y => by have := y.2; omega)]
      rfl
theorem y_t2 {post : Int32 → SY → Prop} (h : ∃ n, wY_trace_24 post (nI W) (nI H) tr tt n 0 px (fun _ => 0) fg bg kn st pa) : ∀ d i, i + d = 256 → ∀ n, d < n → ∀ fl : Nat → Int32, (∀ j, j < i → fl j = 0) → (∀ j, 256 ≤ j → fl j = 0) → wY_trace_2 post (nI W) (nI H) tr tt n (nI i) px fl fg bg kn st pa := by
  intro d
  induction d with
  | zero =>
    intro i hi n hn fl h0 h1
    obtain ⟨n, rfl⟩ : ∃ m, n = m + 1 := ⟨n - 1, by omega⟩
    have e : fl = fun _ => 0 := by
      funext j
      rcases Nat.lt_or_ge j 256 with z | z
      · exact h0 j (by omega)
      · exact h1 j z
    subst e
    exact br_t (nI_le (a := 256) (by omega) (by omega)) h
  | succ d ih =>
    intro i hi n hn fl h0 h1
    obtain ⟨n, rfl⟩ : ∃ m, n = m + 1 := ⟨n - 1, by omega⟩
    refine br_f (nI_ge (b := 256) (by omega) (by omega)) ⟨vp_in_nI (by omega) (by omega), nm_r (congrArg (fun z => upd fl z 0) (nI_clamp (by omega))) (nm_r (nI_1 i) (ih (i + 1) (by omega) n (by omega) _ ?_ ?_))⟩
    · intro j hj
      by_cases e : j = i
      · subst e; exact pk_us
      · exact (pk_un e).trans (h0 j (by omega))
    · intro j hj
      exact (pk_un (by omega)).trans (h1 j hj)
/-! the contours in order -/
theorem y_t276 {post : Int32 → SY → Prop} {J : Int32 → Int32 → (Nat → Int32) → (Nat → Int32) → (Nat → Int32) → (Nat → Int32) → (Nat → Int32) → (Nat → Int32) → (Nat → Int32) → Prop}
    (hC : bd_C W H px L) (hG : bd_G W H px L fg bg) {i k : Nat} (hi : bd_in W H i) (hk : k < 256) (hh : bd_hk W H px L i → J (nI (i + 1)) (nI (k + 1)) px fl fg bg (upd kn k 2) (upd st k (nI i)) pa) (hn : ¬ bd_hk W H px L i → J (nI (i + 1)) (nI k) px fl fg bg kn st pa) :
    wY_trace_276 post J (nI i) (nI (i % 16)) (nI W) (nI H) tr (nI k) px fl fg bg kn st pa := by
  have hW := hC.2.1
  have hH := hC.2.2.2.1
  have hi256 := bd_in_lt hC hi
  have hvk : vp_in (nI k) 256 := vp_in_nI hk (by omega)
  have hck : (nI k).toNatClampNeg = k := nI_clamp (by omega)
  unfold wY_trace_276
  rw [nI_1 (i % 16), nI_1 i]
  refine pk_le W (i % 16 + 1) (fun z => nm_e (hn (fun y => by have := y.2.1; omega))) (fun z => ?_)
  have hi1 : bd_in W H (i + 1) := by
    obtain ⟨a, b⟩ := hi
    exact ⟨by omega, by omega⟩
  have hi2 := bd_in_lt hC hi1
  have hL := bd_L_le hC hi1
  have hv : vp_in (nI (i + 1)) 256 := vp_in_nI hi2 (by omega)
  refine ⟨hv, ?_⟩
  rw [nI_clamp (n := i + 1) (by omega)]
  refine br_c (fun e0 => ⟨hv, ?_⟩) (fun e0 => nm_e (hn (fun y => e0 y.2.2.1)))
  rw [(hG _ hi1).2 e0]
  refine br_c (fun e1 => ⟨hvk, nm_r (congrArg (fun z => upd kn z 2) hck) ⟨hvk, nm_r (congrArg (fun z => upd st z (nI i)) hck) (nm_r (nI_1 k) (nm_e (hh ⟨hi, z, e0, ?_⟩)))⟩⟩) (fun e1 => nm_e (hn (fun y => e1 ?_)))
  · rw [bd_cd_nI (by omega) (by omega)] at e1
    exact e1
  · rw [bd_cd_nI (by omega) (by omega)]
    exact y.2.2.2
end
