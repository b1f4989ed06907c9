/-! counts -/
noncomputable def bd_b (P : Prop) : Nat := @ite Nat P (Classical.propDecidable P) 1 0
theorem bd_b_t {P : Prop} (h : P) : bd_b P = 1 := by unfold bd_b; rw [if_pos h]
theorem bd_b_f {P : Prop} (h : ¬ P) : bd_b P = 0 := by unfold bd_b; rw [if_neg h]
theorem bd_b_le (P : Prop) : bd_b P ≤ 1 := by
  rcases Classical.em P with h | h
  · rw [bd_b_t h]; omega
  · rw [bd_b_f h]; omega
theorem bd_b_mono {P Q : Prop} (h : P → Q) : bd_b P ≤ bd_b Q := by
  rcases Classical.em P with hp | hp
  · rw [bd_b_t hp, bd_b_t (h hp)]; omega
  · rw [bd_b_f hp]; omega
noncomputable def bd_ct (P : Nat → Prop) : Nat → Nat
  | 0 => 0
  | k + 1 => bd_ct P k + bd_b (P k)
theorem bd_ct_0 (P : Nat → Prop) : bd_ct P 0 = 0 := rfl
theorem bd_ct_s (P : Nat → Prop) (k : Nat) : bd_ct P (k + 1) = bd_ct P k + bd_b (P k) := rfl
theorem bd_ct_t {P : Nat → Prop} {k : Nat} (h : P k) : bd_ct P (k + 1) = bd_ct P k + 1 := by rw [bd_ct_s, bd_b_t h]
theorem bd_ct_f {P : Nat → Prop} {k : Nat} (h : ¬ P k) : bd_ct P (k + 1) = bd_ct P k := by rw [bd_ct_s, bd_b_f h]; omega
theorem bd_ct_mono {P Q : Nat → Prop} : ∀ {N : Nat}, (∀ k, k < N → P k → Q k) → bd_ct P N ≤ bd_ct Q N
  | 0, _ => Nat.le_refl _
  | N + 1, h => by
    have a := bd_ct_mono (P := P) (Q := Q) (N := N) (fun k hk => h k (by omega))
    have b := bd_b_mono (h N (by omega))
    rw [bd_ct_s, bd_ct_s]; omega
theorem bd_ct_lt {P Q : Nat → Prop} {a : Nat} (hp : ¬ P a) (hq : Q a) : ∀ {N : Nat}, (∀ k, k < N → P k → Q k) → a < N → bd_ct P N < bd_ct Q N
  | 0, _, h => by omega
  | N + 1, h, ha => by
    rw [bd_ct_s, bd_ct_s]
    rcases Nat.lt_or_ge a N with z | z
    · have x := bd_ct_lt hp hq (N := N) (fun k hk => h k (by omega)) z
      have b := bd_b_mono (h N (by omega))
      omega
    · have e : a = N := by omega
      subst e
      have x := bd_ct_mono (P := P) (Q := Q) (N := a) (fun k hk => h k (by omega))
      rw [bd_b_t hq, bd_b_f hp]; omega
theorem bd_ct_le (P : Nat → Prop) : ∀ N, bd_ct P N ≤ N
  | 0 => Nat.le_refl _
  | N + 1 => by have := bd_ct_le P N; have := bd_b_le (P N); rw [bd_ct_s]; omega
theorem bd_ct_eq {P Q : Nat → Prop} {N : Nat} (h : ∀ k, k < N → (P k ↔ Q k)) : bd_ct P N = bd_ct Q N :=
  Nat.le_antisymm (bd_ct_mono fun k hk => (h k hk).mp) (bd_ct_mono fun k hk => (h k hk).mpr)
theorem bd_ct_z {P : Nat → Prop} : ∀ {N : Nat}, (∀ k, k < N → ¬ P k) → bd_ct P N = 0
  | 0, _ => rfl
  | N + 1, h => by
    rw [bd_ct_f (h N (by omega))]
    exact bd_ct_z (fun k hk => h k (by omega))
theorem bd_ct_or {P Q R : Nat → Prop} : ∀ {N : Nat}, (∀ k, k < N → (R k ↔ P k ∨ Q k)) → (∀ k, k < N → P k → ¬ Q k) → bd_ct R N = bd_ct P N + bd_ct Q N
  | 0, _, _ => rfl
  | N + 1, h, d => by
    have x := bd_ct_or (P := P) (Q := Q) (R := R) (N := N) (fun k hk => h k (by omega)) (fun k hk => d k (by omega))
    rw [bd_ct_s, bd_ct_s, bd_ct_s, x]
    have hN := h N (by omega)
    have dN := d N (by omega)
    rcases Classical.em (P N) with hp | hp
    · rw [bd_b_t hp, bd_b_f (dN hp), bd_b_t (hN.mpr (Or.inl hp))]; omega
    · rcases Classical.em (Q N) with hq | hq
      · rw [bd_b_f hp, bd_b_t hq, bd_b_t (hN.mpr (Or.inr hq))]; omega
      · rw [bd_b_f hp, bd_b_f hq, bd_b_f (fun z => (hN.mp z).elim hp hq)]; omega
theorem bd_ct_ex {P : Nat → Prop} : ∀ {N : Nat}, 0 < bd_ct P N → ∃ k, k < N ∧ P k
  | 0, h => by rw [bd_ct_0] at h; omega
  | N + 1, h => by
    rcases Classical.em (P N) with hp | hp
    · exact ⟨N, by omega, hp⟩
    · rw [bd_ct_f hp] at h
      obtain ⟨k, hk, pk⟩ := bd_ct_ex h
      exact ⟨k, by omega, pk⟩
/-! codes: 0 is -1, k + 1 is k -/
def bd_cd : Nat → Int32
  | 0 => -1
  | k + 1 => nI k
theorem bd_cd_0 : bd_cd 0 = -1 := rfl
theorem bd_cd_s (k : Nat) : bd_cd (k + 1) = nI k := rfl
theorem bd_cd_toInt : ∀ {a : Nat}, a < 2 ^ 31 → (bd_cd a).toInt = (a : Int) - 1
  | 0, _ => by rw [bd_cd_0]; decide
  | k + 1, h => by rw [bd_cd_s, nI_toInt (by omega)]; omega
theorem bd_cd_lt {a b : Nat} (ha : a < 2 ^ 31) (hb : b < 2 ^ 31) : bd_cd a < bd_cd b ↔ a < b := by
  rw [Int32.lt_iff_toInt_lt, bd_cd_toInt ha, bd_cd_toInt hb]; omega
theorem bd_cd_le {a b : Nat} (ha : a < 2 ^ 31) (hb : b < 2 ^ 31) : bd_cd a ≤ bd_cd b ↔ a ≤ b := by
  rw [Int32.le_iff_toInt_le, bd_cd_toInt ha, bd_cd_toInt hb]; omega
theorem bd_cd_eq {a b : Nat} (ha : a < 2 ^ 31) (hb : b < 2 ^ 31) : bd_cd a = bd_cd b ↔ a = b := by
  rw [← Int32.toInt_inj, bd_cd_toInt ha, bd_cd_toInt hb]; omega
theorem bd_cd_nI {a k : Nat} (ha : a < 2 ^ 31) (hk : k + 1 < 2 ^ 31) : bd_cd a = nI k ↔ a = k + 1 := bd_cd_eq (b := k + 1) ha hk
theorem bd_cd_m1 {a : Nat} (ha : a < 2 ^ 31) : bd_cd a = -1 ↔ a = 0 := bd_cd_eq (b := 0) ha (by decide)
theorem bd_cd_neg {a : Nat} (ha : a < 2 ^ 31) : bd_cd a < 0 ↔ a = 0 := by
  rw [Int32.lt_iff_toInt_lt, bd_cd_toInt ha, show (0 : Int32).toInt = 0 from by decide]; omega
theorem bd_cd_nn {a : Nat} (ha : a < 2 ^ 31) : 0 ≤ bd_cd a ↔ 0 < a := by
  rw [Int32.le_iff_toInt_le, bd_cd_toInt ha, show (0 : Int32).toInt = 0 from by decide]; omega
theorem bd_cd_m2 {a : Nat} (ha : a < 2 ^ 31) : ¬ bd_cd a = -2 := by
  rw [← Int32.toInt_inj, bd_cd_toInt ha, show (-2 : Int32).toInt = -2 from by decide]; omega
theorem bd_m1_m2 : ¬ (-1 : Int32) = -2 := by decide
theorem bd_nI_m2 {k : Nat} (h : k < 2 ^ 31) : ¬ nI k = -2 := by
  rw [← Int32.toInt_inj, nI_toInt h, show (-2 : Int32).toInt = -2 from by decide]; omega
theorem bd_nI_m1 {k : Nat} (h : k < 2 ^ 31) : ¬ nI k = -1 := by
  rw [← Int32.toInt_inj, nI_toInt h, show (-1 : Int32).toInt = -1 from by decide]; omega
theorem bd_01 : ¬ (0 : Int32) = 1 := by decide
theorem bd_10 : ¬ (1 : Int32) = 0 := by decide
/-! the raster's cells: i has column i % 16 and row i / 16 -/
abbrev bd_in (W H i : Nat) : Prop := i % 16 < W ∧ i / 16 < H
abbrev bd_rim (W H i : Nat) : Prop := i % 16 = 0 ∨ i / 16 = 0 ∨ i % 16 + 1 = W ∨ i / 16 + 1 = H
abbrev bd_nr (a b : Nat) : Prop := a % 16 ≤ b % 16 + 1 ∧ b % 16 ≤ a % 16 + 1 ∧ a / 16 ≤ b / 16 + 1 ∧ b / 16 ≤ a / 16 + 1
def bd_adj (W H : Nat) (p : Nat → Int32) (a b : Nat) : Prop :=
  bd_in W H a ∧ bd_in W H b ∧ p a = p b ∧ bd_nr a b ∧ (p a = 0 → a % 16 = b % 16 ∨ a / 16 = b / 16)
def bd_cn (W H : Nat) (p : Nat → Int32) (a b : Nat) : Prop := ∀ S : Nat → Prop, S a → (∀ c d, S c → bd_adj W H p c d → S d) → S b
section
variable {W H : Nat} {p : Nat → Int32}
theorem bd_adj_symm {a b : Nat} (h : bd_adj W H p a b) : bd_adj W H p b a := by
  obtain ⟨h1, h2, h3, ⟨h4, h5, h6, h7⟩, h8⟩ := h
  refine ⟨h2, h1, h3.symm, ⟨h5, h4, h7, h6⟩, fun z => ?_⟩
  rcases h8 (h3.trans z) with e | e
  · exact Or.inl e.symm
  · exact Or.inr e.symm
theorem bd_cn_refl {a : Nat} : bd_cn W H p a a := fun _ h _ => h
theorem bd_cn_step {a b c : Nat} (h : bd_cn W H p a b) (e : bd_adj W H p b c) : bd_cn W H p a c := fun S h0 hs => hs b c (h S h0 hs) e
theorem bd_cn_trans {a b c : Nat} (h : bd_cn W H p a b) (g : bd_cn W H p b c) : bd_cn W H p a c := fun S h0 hs => g S (h S h0 hs) hs
theorem bd_cn_symm {a b : Nat} (h : bd_cn W H p a b) : bd_cn W H p b a :=
  h (fun x => bd_cn W H p x a) bd_cn_refl (fun _ _ hc e => bd_cn_trans (bd_cn_step bd_cn_refl (bd_adj_symm e)) hc)
theorem bd_cn_in {a b : Nat} (h : bd_cn W H p a b) (ha : bd_in W H a) : bd_in W H b :=
  h (fun x => bd_in W H x) ha (fun _ _ _ e => e.2.1)
theorem bd_cn_p {a b : Nat} (h : bd_cn W H p a b) : p b = p a :=
  h (fun x => p x = p a) rfl (fun _ _ hc e => e.2.2.1.symm.trans hc)
end
/-! the label of a component, as a code: 0 outside, else its first cell + 1 -/
def bd_LS (W H : Nat) (p : Nat → Int32) (L : Nat → Nat) : Prop :=
  (∀ a b, bd_adj W H p a b → L a = L b) ∧
  (∀ i, bd_in W H i → (p i = 0 ∧ L i = 0 ∧ ∃ j, bd_cn W H p i j ∧ bd_in W H j ∧ bd_rim W H j) ∨
    (∃ r, L i = r + 1 ∧ r ≤ i ∧ bd_cn W H p i r ∧ bd_in W H r ∧ L r = r + 1 ∧ p r = p i)) ∧
  (∀ i, bd_in W H i → p i = 0 → bd_rim W H i → L i = 0)
def bd_out (W H : Nat) (p : Nat → Int32) (i : Nat) : Prop := p i = 0 ∧ ∃ j, bd_cn W H p i j ∧ bd_in W H j ∧ bd_rim W H j
def bd_LP (W H : Nat) (p : Nat → Int32) (i l : Nat) : Prop :=
  (bd_out W H p i ∧ l = 0) ∨ (¬ bd_out W H p i ∧ ∃ r, l = r + 1 ∧ bd_cn W H p i r ∧ ∀ j, bd_cn W H p i j → r ≤ j)
section
variable {W H : Nat} {p : Nat → Int32}
theorem bd_least (P : Nat → Prop) (h : ∃ k, P k) : ∃ k, P k ∧ ∀ j, P j → k ≤ j := by
  obtain ⟨k, hk⟩ := h
  induction k using Nat.strongRecOn with
  | ind k ih =>
    by_cases e : ∃ j, j < k ∧ P j
    · obtain ⟨j, hj, pj⟩ := e
      exact ih j hj pj
    · exact ⟨k, hk, fun j pj => Nat.not_lt.mp fun hj => e ⟨j, hj, pj⟩⟩
theorem bd_LP_ex (i : Nat) : ∃ l, bd_LP W H p i l := by
  by_cases h : bd_out W H p i
  · exact ⟨0, Or.inl ⟨h, rfl⟩⟩
  · obtain ⟨r, hr, hm⟩ := bd_least (fun r => bd_cn W H p i r) ⟨i, bd_cn_refl⟩
    exact ⟨r + 1, Or.inr ⟨h, r, rfl, hr, hm⟩⟩
theorem bd_out_cn {a b : Nat} (h : bd_cn W H p a b) (ho : bd_out W H p a) : bd_out W H p b := by
  obtain ⟨h0, j, h1, h2, h3⟩ := ho
  exact ⟨(bd_cn_p h).trans h0, j, bd_cn_trans (bd_cn_symm h) h1, h2, h3⟩
theorem bd_LP_cn {a b l m : Nat} (h : bd_cn W H p a b) (ha : bd_LP W H p a l) (hb : bd_LP W H p b m) : l = m := by
  rcases ha with ⟨oa, rfl⟩ | ⟨oa, r, rfl, ra, ma⟩
  · rcases hb with ⟨ob, rfl⟩ | ⟨ob, _⟩
    · rfl
    · exact absurd (bd_out_cn h oa) ob
  · rcases hb with ⟨ob, rfl⟩ | ⟨ob, s, rfl, sb, mb⟩
    · exact absurd (bd_out_cn (bd_cn_symm h) ob) oa
    · have h1 := ma s (bd_cn_trans h sb)
      have h2 := mb r (bd_cn_trans (bd_cn_symm h) ra)
      omega
theorem bd_LS_ex (W H : Nat) (p : Nat → Int32) : ∃ L, bd_LS W H p L := by
  refine ⟨fun i => Classical.choose (bd_LP_ex (W := W) (H := H) (p := p) i), ?_, ?_, ?_⟩
  · intro a b e
    exact bd_LP_cn (bd_cn_step bd_cn_refl e) (Classical.choose_spec (bd_LP_ex a)) (Classical.choose_spec (bd_LP_ex b))
  · intro i hi
    have s := Classical.choose_spec (bd_LP_ex (W := W) (H := H) (p := p) i)
    rcases s with ⟨⟨h0, hj⟩, e⟩ | ⟨_, r, e, hr, hm⟩
    · exact Or.inl ⟨h0, e, hj⟩
    · refine Or.inr ⟨r, e, hm i bd_cn_refl, hr, bd_cn_in hr hi, ?_, bd_cn_p hr⟩
      have q := bd_LP_cn hr (Classical.choose_spec (bd_LP_ex i)) (Classical.choose_spec (bd_LP_ex r))
      exact q.symm.trans e
  · intro i hi h0 hr
    have s := Classical.choose_spec (bd_LP_ex (W := W) (H := H) (p := p) i)
    rcases s with ⟨_, e⟩ | ⟨ho, _⟩
    · exact e
    · exact absurd ⟨h0, i, bd_cn_refl, hi, hr⟩ ho
end
