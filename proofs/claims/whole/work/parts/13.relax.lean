/-! the reference's relaxation -/
theorem bd_cd1 : ∀ a : Nat, bd_cd a + 1 = bd_cd (a + 1)
  | 0 => by decide +kernel
  | a + 1 => nI_1 a
theorem bd_cd_0' {a : Nat} (h : a < 2 ^ 31) : bd_cd a = 0 ↔ a = 1 := bd_cd_eq (b := 1) h (by decide)
def bd_St (W H : Nat) (p fg bg : Nat → Int32) (s : Nat → Nat) : Prop := ∀ i, bd_in W H i → (p i = 1 → fg i = bd_cd (s i)) ∧ (p i = 0 → bg i = bd_cd (s i)) ∧ s i ≤ i + 1
/-- what the walk over the neighbours of i knows before the neighbour with steps e, d (plus one) -/
def bd_IR (W H : Nat) (p : Nat → Int32) (L s : Nat → Nat) (i e d m : Nat) : Prop :=
  L i ≤ m ∧ m ≤ s i ∧ ∀ q, bd_adj W H p i q → (q / 16 + 1 < i / 16 + e ∨ (q / 16 + 1 = i / 16 + e ∧ q % 16 + 1 < i % 16 + d)) → m ≤ s q
section
variable {W H : Nat} {tr tt : Int32} {px fl lb qu kn pa st ln ar ii fg bg : Nat → Int32} {L s : Nat → Nat} {i : Nat}
theorem bd_IR_no {e d m : Nat} (h : bd_IR W H px L s i e d m) (hn : ∀ q, bd_adj W H px i q → q / 16 + 1 = i / 16 + e → q % 16 + 1 = i % 16 + d → m ≤ s q) : bd_IR W H px L s i e (d + 1) m := by
  refine ⟨h.1, h.2.1, fun q hq z => ?_⟩
  rcases z with z | ⟨z1, z2⟩
  · exact h.2.2 q hq (Or.inl z)
  · by_cases y : q % 16 + 1 = i % 16 + d
    · exact hn q hq z1 y
    · exact h.2.2 q hq (Or.inr ⟨z1, by omega⟩)
theorem bd_IR_min {e d m m' : Nat} (h : bd_IR W H px L s i e d m) (h1 : m' ≤ m) (h2 : L i ≤ m') : bd_IR W H px L s i e d m' :=
  ⟨h2, by have := h.2.1; omega, fun q hq z => by have := h.2.2 q hq z; omega⟩
theorem y_rx100 {post : Int32 → SY → Prop} {J54 J63 : Int32 → Int32 → Prop} (hC : bd_C W H px L) (hS : bd_St W H px fg bg s) (hlo : bd_lo W H L s) (hi : bd_in W H i) {e d m : Nat} (he : e ≤ 2) (hd : d ≤ 2)
    (hI : bd_IR W H px L s i e d m) (hdg : px i = 0 → e = 1 ∨ d = 1) (hJ : ∀ m, bd_IR W H px L s i e (d + 1) m → J63 (bd_cd m) (bd_cd (d + 1))) :
    wY_relax_100 post J54 J63 (nI i) (nI (i % 16)) (nI (i / 16)) (px i) (bd_cd m) (bd_cd e) (bd_cd d) (nI W) (nI H) tr tt px fl fg bg kn st pa := by
  have hW := hC.2.1
  have hH := hC.2.2.2.1
  have hi256 := bd_in_lt hC hi
  have hm : m ≤ 256 := by
    have := hI.2.1
    have := (hS i hi).2.2
    omega
  have keep : (∀ q, bd_adj W H px i q → q / 16 + 1 = i / 16 + e → q % 16 + 1 = i % 16 + d → False) → ∀ z, z = bd_cd d + 1 → J63 (bd_cd m) z := by
    intro hn z ez
    rw [ez, bd_cd1]
    exact hJ m (bd_IR_no hI (fun q a b c => (hn q a b c).elim))
  refine nm_r (bd_add _ d) (nm_r (bd_add _ e) (y_pix hW hH (fun a b ea eb ha hb => br_f bd_10 ?_) (fun hno => br_t rfl (keep (fun q h1 h2 h3 => ?_)))))
  · rw [bd_cd_nI (by omega) (by omega)] at ea eb
    have hq : bd_in W H (b * 16 + a) := ⟨by omega, by omega⟩
    have hq2 := (hS _ hq).2.2
    have hv : vp_in (nI (b * 16 + a)) 256 := vp_in_nI (by omega) (by omega)
    rw [ea, eb, bd_cd_s, bd_cd_s]
    refine nm_r (bd_ri a b) ⟨hv, ?_⟩
    rw [nI_clamp (by omega)]
    refine br_c (fun e1 => ?_) (fun e1 => keep (fun q h1 h2 h3 => e1 ?_))
    · have hadj : bd_adj W H px i (b * 16 + a) := ⟨hi, hq, e1.symm, ⟨by omega, by omega, by omega, by omega⟩, fun z => by
        rcases hdg z with y | y
        · exact Or.inr (by omega)
        · exact Or.inl (by omega)⟩
      have hL := bd_L_adj hC hadj
      have hlq := hlo _ hq
      have fin : wY_relax_174 post J54 J63 (nI i) (nI (i % 16)) (nI (i / 16)) (px i) (bd_cd m) (bd_cd e) (bd_cd d) (bd_cd (s (b * 16 + a))) (nI W) (nI H) tr tt px fl fg bg kn st pa := by
        have pos : ∀ q, bd_adj W H px i q → q / 16 + 1 = i / 16 + e → q % 16 + 1 = i % 16 + d → q = b * 16 + a := fun q _ h2 h3 => by omega
        refine br_c (fun z => nm_r (bd_cd1 d) (hJ m (bd_IR_no hI (fun q h1 h2 h3 => ?_)))) (fun z => nm_r (bd_cd1 d) (hJ _ (bd_IR_no (bd_IR_min hI ?_ (by omega)) (fun q h1 h2 h3 => ?_))))
        · rw [bd_cd_le (by omega) (by omega)] at z
          rw [pos q h1 h2 h3]
          exact z
        · rw [bd_cd_le (by omega) (by omega)] at z
          omega
        · rw [pos q h1 h2 h3]
          exact Nat.le_refl _
      refine br_c (fun z => ⟨hv, ?_⟩) (fun z => ⟨hv, ?_⟩)
      · rw [(hS _ hq).1 (e1.trans z)]
        exact fin
      · rw [(hS _ hq).2.1 (e1.trans ((hC.2.2.2.2.1 i).resolve_right z))]
        exact fin
    · have : q = b * 16 + a := by omega
      rw [← this]
      exact h1.2.2.1.symm
  · have hqi := h1.2.1
    exact hno (q % 16) (q / 16) (by rw [← h3]; rfl) (by rw [← h2]; rfl) hqi.1 hqi.2
theorem y_rx82 {post : Int32 → SY → Prop} {J54 J63 : Int32 → Int32 → Prop} (hC : bd_C W H px L) (hS : bd_St W H px fg bg s) (hlo : bd_lo W H L s) (hi : bd_in W H i) {e d m : Nat} (he : e ≤ 2) (hd : d ≤ 2)
    (hI : bd_IR W H px L s i e d m) (hJ : ∀ m, bd_IR W H px L s i e (d + 1) m → J63 (bd_cd m) (bd_cd (d + 1))) :
    wY_relax_82 post J54 J63 (nI i) (nI (i % 16)) (nI (i / 16)) (px i) (bd_cd m) (bd_cd e) (bd_cd d) (nI W) (nI H) tr tt px fl fg bg kn st pa := by
  have go : (px i = 0 → e = 1 ∨ d = 1) → wY_relax_100 post J54 J63 (nI i) (nI (i % 16)) (nI (i / 16)) (px i) (bd_cd m) (bd_cd e) (bd_cd d) (nI W) (nI H) tr tt px fl fg bg kn st pa := fun h => y_rx100 hC hS hlo hi he hd hI h hJ
  refine br_c (fun z => br_c (fun y => go (fun _ => Or.inr ((bd_cd_0' (by omega)).mp y))) (fun y => br_c (fun x => go (fun _ => Or.inl ((bd_cd_0' (by omega)).mp x))) (fun x => nm_r (bd_cd1 d) (hJ m (bd_IR_no hI (fun q h1 h2 h3 => ?_)))))) (fun z => go (fun y => absurd y z))
  rw [bd_cd_0' (by omega)] at x y
  rcases h1.2.2.2.2 z with w | w
  · exact absurd w (by omega)
  · exact absurd w (by omega)
theorem y_rx63 {post : Int32 → SY → Prop} {J54 : Int32 → Int32 → Prop} (hC : bd_C W H px L) (hS : bd_St W H px fg bg s) (hlo : bd_lo W H L s) (hi : bd_in W H i) {e : Nat} (he : e ≤ 2)
    (hJ : ∀ m, bd_IR W H px L s i (e + 1) 0 m → J54 (bd_cd m) (bd_cd (e + 1))) :
    ∀ r d, d + r = 3 → ∀ n, r < n → ∀ m, bd_IR W H px L s i e d m → wY_relax_63 post J54 (nI i) (nI (i % 16)) (nI (i / 16)) (px i) (bd_cd e) (nI W) (nI H) tr tt px fl fg bg kn st pa n (bd_cd m) (bd_cd d) := by
  intro r
  induction r with
  | zero =>
    intro d hd n hn m hI
    obtain ⟨n, rfl⟩ : ∃ m, n = m + 1 := ⟨n - 1, by omega⟩
    have : d = 3 := by omega
    subst this
    refine br_t (by decide) (nm_r (bd_cd1 e) (hJ m ⟨hI.1, hI.2.1, fun q hq z => hI.2.2 q hq ?_⟩))
    obtain ⟨_, _, _, ⟨a1, a2, a3, a4⟩, _⟩ := hq
    omega
  | succ r ih =>
    intro d hd n hn m hI
    obtain ⟨n, rfl⟩ : ∃ m, n = m + 1 := ⟨n - 1, by omega⟩
    have h2 : ¬ (1 : Int32) < bd_cd d := by
      show ¬ bd_cd 2 < bd_cd d
      rw [bd_cd_lt (by omega) (by omega)]
      omega
    have next : ∀ m, bd_IR W H px L s i e (d + 1) m → wY_relax_63 post J54 (nI i) (nI (i % 16)) (nI (i / 16)) (px i) (bd_cd e) (nI W) (nI H) tr tt px fl fg bg kn st pa n (bd_cd m) (bd_cd (d + 1)) := fun m h => ih (d + 1) (by omega) n (by omega) m h
    have go : wY_relax_82 post J54 (wY_relax_63 post J54 (nI i) (nI (i % 16)) (nI (i / 16)) (px i) (bd_cd e) (nI W) (nI H) tr tt px fl fg bg kn st pa n) (nI i) (nI (i % 16)) (nI (i / 16)) (px i) (bd_cd m) (bd_cd e) (bd_cd d) (nI W) (nI H) tr tt px fl fg bg kn st pa := y_rx82 hC hS hlo hi he (by omega) hI next
    refine br_f h2 (br_c (fun z => br_c (fun y => nm_r (bd_cd1 d) (next m (bd_IR_no hI (fun q h1 h2 h3 => ?_)))) (fun _ => go)) (fun _ => go))
    rw [bd_cd_0' (by omega)] at z y
    have : q = i := by omega
    rw [this]
    exact hI.2.1
theorem y_rx54 {post : Int32 → SY → Prop} (hC : bd_C W H px L) (hS : bd_St W H px fg bg s) (hlo : bd_lo W H L s) (hi : bd_in W H i)
    (hp : ∀ r fg' bg' s', bd_St W H px fg' bg' s' → (∀ j, j ≠ i → s' j = s j) → L i ≤ s' i → s' i ≤ s i → (∀ q, bd_adj W H px i q → s' i ≤ s q) → ((r = 0 ∧ s' = s) ∨ r = 1) → post r (nI W, nI H, tr, tt, px, fl, fg', bg', kn, st, pa)) :
    ∀ r e, e + r = 3 → ∀ n, r < n → ∀ m, bd_IR W H px L s i e 0 m → wY_relax_54 post (nI i) (nI (i % 16)) (nI (i / 16)) (px i) (nI W) (nI H) tr tt px fl fg bg kn st pa n (bd_cd m) (bd_cd e) := by
  have hi256 := bd_in_lt hC hi
  intro r
  induction r with
  | zero =>
    intro e he n hn m hI
    obtain ⟨n, rfl⟩ : ∃ m, n = m + 1 := ⟨n - 1, by omega⟩
    have : e = 3 := by omega
    subst this
    obtain ⟨i1, i2, i3⟩ := hI
    have hv : vp_in (nI i) 256 := vp_in_nI hi256 (by omega)
    have hc : (nI i).toNatClampNeg = i := nI_clamp (by omega)
    have hsi := (hS i hi).2.2
    have hq : ∀ q, bd_adj W H px i q → m ≤ s q := fun q hq => i3 q hq (by
      obtain ⟨_, _, _, ⟨a1, a2, a3, a4⟩, _⟩ := hq
      omega)
    have h0 : s i ≤ m → post 0 (nI W, nI H, tr, tt, px, fl, fg, bg, kn, st, pa) := fun z => by
      have : m = s i := by omega
      subst this
      exact hp 0 fg bg s hS (fun _ _ => rfl) i1 (Nat.le_refl _) hq (Or.inl ⟨rfl, rfl⟩)
    have hs' : ∀ j, (if j = i then m else s j) = if j = i then m else s j := fun _ => rfl
    refine br_t (by decide) ?_
    rw [hc]
    refine br_c (fun e1 => ⟨hv, ?_⟩) (fun e1 => ⟨hv, ?_⟩)
    · rw [(hS i hi).1 e1]
      refine br_c (fun z => h0 ((bd_cd_le (by omega) (by omega)).mp z)) (fun z => ⟨hv, nm_e (hp 1 _ bg (fun j => if j = i then m else s j) (fun j hj => ?_) (fun j hj => if_neg hj) ?_ ?_ ?_ (Or.inr rfl))⟩)
      · by_cases ej : j = i
        · subst ej
          refine ⟨fun _ => ?_, fun y => absurd (y.symm.trans e1) bd_01, ?_⟩
          · rw [pk_us]
            show bd_cd m = bd_cd (if j = j then m else s j)
            rw [if_pos rfl]
          · show (if j = j then m else s j) ≤ j + 1
            rw [if_pos rfl]; omega
        · show (px j = 1 → upd fg i (bd_cd m) j = bd_cd (if j = i then m else s j)) ∧ (px j = 0 → bg j = bd_cd (if j = i then m else s j)) ∧ (if j = i then m else s j) ≤ j + 1
          rw [if_neg ej, pk_un ej]
          exact hS j hj
      · show L i ≤ if i = i then m else s i
        rw [if_pos rfl]; exact i1
      · show (if i = i then m else s i) ≤ s i
        rw [if_pos rfl]; exact i2
      · intro q hq'
        show (if i = i then m else s i) ≤ s q
        rw [if_pos rfl]; exact hq q hq'
    · have e0 : px i = 0 := (hC.2.2.2.2.1 i).resolve_right e1
      rw [(hS i hi).2.1 e0]
      refine br_c (fun z => h0 ((bd_cd_le (by omega) (by omega)).mp z)) (fun z => ⟨hv, nm_e (hp 1 fg _ (fun j => if j = i then m else s j) (fun j hj => ?_) (fun j hj => if_neg hj) ?_ ?_ ?_ (Or.inr rfl))⟩)
      · by_cases ej : j = i
        · subst ej
          refine ⟨fun y => absurd y e1, fun _ => ?_, ?_⟩
          · rw [pk_us]
            show bd_cd m = bd_cd (if j = j then m else s j)
            rw [if_pos rfl]
          · show (if j = j then m else s j) ≤ j + 1
            rw [if_pos rfl]; omega
        · show (px j = 1 → fg j = bd_cd (if j = i then m else s j)) ∧ (px j = 0 → upd bg i (bd_cd m) j = bd_cd (if j = i then m else s j)) ∧ (if j = i then m else s j) ≤ j + 1
          rw [if_neg ej, pk_un ej]
          exact hS j hj
      · show L i ≤ if i = i then m else s i
        rw [if_pos rfl]; exact i1
      · show (if i = i then m else s i) ≤ s i
        rw [if_pos rfl]; exact i2
      · intro q hq'
        show (if i = i then m else s i) ≤ s q
        rw [if_pos rfl]; exact hq q hq'
  | succ r ih =>
    intro e he n hn m hI
    obtain ⟨n, rfl⟩ : ∃ m, n = m + 1 := ⟨n - 1, by omega⟩
    have h2 : ¬ (1 : Int32) < bd_cd e := by
      show ¬ bd_cd 2 < bd_cd e
      rw [bd_cd_lt (by omega) (by omega)]
      omega
    exact br_f h2 ⟨4, y_rx63 hC hS hlo hi (by omega) (fun m h => ih (e + 1) (by omega) n (by omega) m h) 3 0 rfl 4 (by omega) m hI⟩
theorem y_rx {post : Int32 → SY → Prop} (hC : bd_C W H px L) (hS : bd_St W H px fg bg s) (hlo : bd_lo W H L s) (hi : i < 256)
    (hp : ∀ r fg' bg' s', bd_St W H px fg' bg' s' → (∀ j, j ≠ i → s' j = s j) → (bd_in W H i → L i ≤ s' i ∧ s' i ≤ s i ∧ ∀ q, bd_adj W H px i q → s' i ≤ s q) → ((r = 0 ∧ s' = s) ∨ r = 1) → post r (nI W, nI H, tr, tt, px, fl, fg', bg', kn, st, pa)) :
    wpY_relax post (nI W, nI H, tr, tt, px, fl, fg, bg, kn, st, pa) (nI i) := by
  have hW := hC.2.1
  have hH := hC.2.2.2.1
  have hv : vp_in (nI i) 256 := vp_in_nI hi (by omega)
  refine nm_r (bd_m15 hi) (nm_r (bd_s4 hi) (y_pix hW hH (fun a b ea eb ha hb => br_f bd_10 ⟨hv, nm_r (congrArg px (nI_clamp (n := i) (by omega))) ?_⟩) (fun hno => br_t rfl (hp 0 fg bg s hS (fun _ _ => rfl) (fun z => (hno _ _ rfl rfl z.1 z.2).elim) (Or.inl ⟨rfl, rfl⟩)))))
  rw [nI_eq (by omega) (by omega)] at ea eb
  have hin : bd_in W H i := ⟨by omega, by omega⟩
  have h0 : bd_IR W H px L s i 0 0 (s i) := by
    refine ⟨hlo i hin, Nat.le_refl _, fun q hq z => ?_⟩
    obtain ⟨_, _, _, ⟨a1, a2, a3, a4⟩, _⟩ := hq
    omega
  have main : wY_relax_54 post (nI i) (nI (i % 16)) (nI (i / 16)) (px i) (nI W) (nI H) tr tt px fl fg bg kn st pa 4 (bd_cd (s i)) (-1) :=
    y_rx54 hC hS hlo hin (fun r fg' bg' s' a b c d e f => hp r fg' bg' s' a b (fun _ => ⟨c, d, e⟩) f) 3 0 rfl 4 (by omega) (s i) h0
  refine br_c (fun z => ⟨hv, nm_r ((congrArg fg (nI_clamp (n := i) (by omega))).trans ((hS i hin).1 z)) ⟨4, main⟩⟩) (fun z => ⟨hv, nm_r ((congrArg bg (nI_clamp (n := i) (by omega))).trans ((hS i hin).2.1 ((hC.2.2.2.2.1 i).resolve_right z))) ⟨4, main⟩⟩)
end
