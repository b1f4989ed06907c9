section
/-! counts -/
noncomputable def bd_b (P : Prop) : Nat := @ite Nat P (Classical.propDecidable P) 1 0
theorem bd_b_t {P : Prop} (h : P) : bd_b P = 1 := by unfold bd_b; rw [if_pos h]
theorem bd_b_f {P : Prop} (h : ¬ P) : bd_b P = 0 := by unfold bd_b; rw [if_neg h]
theorem bd_b_le (P : Prop) : bd_b P ≤ 1 := by
  rcases Classical.em P with h | h
  · rw [bd_b_t h]; omega
  · rw [bd_b_f h]; omega
theorem bd_b_mono {P Q : Prop} (h : P → Q) : bd_b P ≤ bd_b Q := by
  rcases Classical.em P with hp | hp
  · rw [bd_b_t hp, bd_b_t (h hp)]; omega
  · rw [bd_b_f hp]; omega
noncomputable def bd_ct (P : Nat → Prop) : Nat → Nat
  | 0 => 0
  | k + 1 => bd_ct P k + bd_b (P k)
theorem bd_ct_0 (P : Nat → Prop) : bd_ct P 0 = 0 := rfl
theorem bd_ct_s (P : Nat → Prop) (k : Nat) : bd_ct P (k + 1) = bd_ct P k + bd_b (P k) := rfl
theorem bd_ct_t {P : Nat → Prop} {k : Nat} (h : P k) : bd_ct P (k + 1) = bd_ct P k + 1 := by rw [bd_ct_s, bd_b_t h]
theorem bd_ct_f {P : Nat → Prop} {k : Nat} (h : ¬ P k) : bd_ct P (k + 1) = bd_ct P k := by rw [bd_ct_s, bd_b_f h]; omega
theorem bd_ct_mono {P Q : Nat → Prop} : ∀ {N : Nat}, (∀ k, k < N → P k → Q k) → bd_ct P N ≤ bd_ct Q N
  | 0, _ => Nat.le_refl _
  | N + 1, h => by
    have a := bd_ct_mono (P := P) (Q := Q) (N := N) (fun k hk => h k (by omega))
    have b := bd_b_mono (h N (by omega))
    rw [bd_ct_s, bd_ct_s]; omega
theorem bd_ct_lt {P Q : Nat → Prop} {a : Nat} (hp : ¬ P a) (hq : Q a) : ∀ {N : Nat}, (∀ k, k < N → P k → Q k) → a < N → bd_ct P N < bd_ct Q N
  | 0, _, h => by omega
  | N + 1, h, ha => by
    rw [bd_ct_s, bd_ct_s]
    rcases Nat.lt_or_ge a N with z | z
    · have x := bd_ct_lt hp hq (N := N) (fun k hk => h k (by omega)) z
      have b := bd_b_mono (h N (by omega))
      omega
    · have e : a = N := by omega
      subst e
      have x := bd_ct_mono (P := P) (Q := Q) (N := a) (fun k hk => h k (by omega))
      rw [bd_b_t hq, bd_b_f hp]; omega
theorem bd_ct_le (P : Nat → Prop) : ∀ N, bd_ct P N ≤ N
  | 0 => Nat.le_refl _
  | N + 1 => by have := bd_ct_le P N; have := bd_b_le (P N); rw [bd_ct_s]; omega
theorem bd_ct_eq {P Q : Nat → Prop} {N : Nat} (h : ∀ k, k < N → (P k ↔ Q k)) : bd_ct P N = bd_ct Q N :=
  Nat.le_antisymm (bd_ct_mono fun k hk => (h k hk).mp) (bd_ct_mono fun k hk => (h k hk).mpr)
theorem bd_ct_z {P : Nat → Prop} : ∀ {N : Nat}, (∀ k, k < N → ¬ P k) → bd_ct P N = 0
  | 0, _ => rfl
  | N + 1, h => by
    rw [bd_ct_f (h N (by omega))]
    exact bd_ct_z (fun k hk => h k (by omega))
theorem bd_ct_or {P Q R : Nat → Prop} : ∀ {N : Nat}, (∀ k, k < N → (R k ↔ P k ∨ Q k)) → (∀ k, k < N → P k → ¬ Q k) → bd_ct R N = bd_ct P N + bd_ct Q N
  | 0, _, _ => rfl
  | N + 1, h, d => by
    have x := bd_ct_or (P := P) (Q := Q) (R := R) (N := N) (fun k hk => h k (by omega)) (fun k hk => d k (by omega))
    rw [bd_ct_s, bd_ct_s, bd_ct_s, x]
    have hN := h N (by omega)
    have dN := d N (by omega)
    rcases Classical.em (P N) with hp | hp
    · rw [bd_b_t hp, bd_b_f (dN hp), bd_b_t (hN.mpr (Or.inl hp))]; omega
    · rcases Classical.em (Q N) with hq | hq
      · rw [bd_b_f hp, bd_b_t hq, bd_b_t (hN.mpr (Or.inr hq))]; omega
      · rw [bd_b_f hp, bd_b_f hq, bd_b_f (fun z => (hN.mp z).elim hp hq)]; omega
theorem bd_ct_ex {P : Nat → Prop} : ∀ {N : Nat}, 0 < bd_ct P N → ∃ k, k < N ∧ P k
  | 0, h => by rw [bd_ct_0] at h; omega
  | N + 1, h => by
    rcases Classical.em (P N) with hp | hp
    · exact ⟨N, by omega, hp⟩
    · rw [bd_ct_f hp] at h
      obtain ⟨k, hk, pk⟩ := bd_ct_ex h
      exact ⟨k, by omega, pk⟩
/-! codes: 0 is -1, k + 1 is k -/
def bd_cd : Nat → Int32
  | 0 => -1
  | k + 1 => nI k
theorem bd_cd_0 : bd_cd 0 = -1 := rfl
theorem bd_cd_s (k : Nat) : bd_cd (k + 1) = nI k := rfl
theorem bd_cd_toInt : ∀ {a : Nat}, a < 2 ^ 31 → (bd_cd a).toInt = (a : Int) - 1
  | 0, _ => by rw [bd_cd_0]; decide
  | k + 1, h => by rw [bd_cd_s, nI_toInt (by omega)]; omega
theorem bd_cd_lt {a b : Nat} (ha : a < 2 ^ 31) (hb : b < 2 ^ 31) : bd_cd a < bd_cd b ↔ a < b := by
  rw [Int32.lt_iff_toInt_lt, bd_cd_toInt ha, bd_cd_toInt hb]; omega
theorem bd_cd_le {a b : Nat} (ha : a < 2 ^ 31) (hb : b < 2 ^ 31) : bd_cd a ≤ bd_cd b ↔ a ≤ b := by
  rw [Int32.le_iff_toInt_le, bd_cd_toInt ha, bd_cd_toInt hb]; omega
theorem bd_cd_eq {a b : Nat} (ha : a < 2 ^ 31) (hb : b < 2 ^ 31) : bd_cd a = bd_cd b ↔ a = b := by
  rw [← Int32.toInt_inj, bd_cd_toInt ha, bd_cd_toInt hb]; omega
theorem bd_cd_nI {a k : Nat} (ha : a < 2 ^ 31) (hk : k + 1 < 2 ^ 31) : bd_cd a = nI k ↔ a = k + 1 := bd_cd_eq (b := k + 1) ha hk
theorem bd_cd_m1 {a : Nat} (ha : a < 2 ^ 31) : bd_cd a = -1 ↔ a = 0 := bd_cd_eq (b := 0) ha (by decide)
theorem bd_cd_neg {a : Nat} (ha : a < 2 ^ 31) : bd_cd a < 0 ↔ a = 0 := by
  rw [Int32.lt_iff_toInt_lt, bd_cd_toInt ha, show (0 : Int32).toInt = 0 from by decide]; omega
theorem bd_cd_nn {a : Nat} (ha : a < 2 ^ 31) : 0 ≤ bd_cd a ↔ 0 < a := by
  rw [Int32.le_iff_toInt_le, bd_cd_toInt ha, show (0 : Int32).toInt = 0 from by decide]; omega
theorem bd_cd_m2 {a : Nat} (ha : a < 2 ^ 31) : ¬ bd_cd a = -2 := by
  rw [← Int32.toInt_inj, bd_cd_toInt ha, show (-2 : Int32).toInt = -2 from by decide]; omega
theorem bd_m1_m2 : ¬ (-1 : Int32) = -2 := by decide
theorem bd_nI_m2 {k : Nat} (h : k < 2 ^ 31) : ¬ nI k = -2 := by
  rw [← Int32.toInt_inj, nI_toInt h, show (-2 : Int32).toInt = -2 from by decide]; omega
theorem bd_nI_m1 {k : Nat} (h : k < 2 ^ 31) : ¬ nI k = -1 := by
  rw [← Int32.toInt_inj, nI_toInt h, show (-1 : Int32).toInt = -1 from by decide]; omega
theorem bd_01 : ¬ (0 : Int32) = 1 := by decide
theorem bd_10 : ¬ (1 : Int32) = 0 := by decide
/-! the raster's cells: i has column i % 16 and row i / 16 -/
abbrev bd_in (W H i : Nat) : Prop := i % 16 < W ∧ i / 16 < H
abbrev bd_rim (W H i : Nat) : Prop := i % 16 = 0 ∨ i / 16 = 0 ∨ i % 16 + 1 = W ∨ i / 16 + 1 = H
abbrev bd_nr (a b : Nat) : Prop := a % 16 ≤ b % 16 + 1 ∧ b % 16 ≤ a % 16 + 1 ∧ a / 16 ≤ b / 16 + 1 ∧ b / 16 ≤ a / 16 + 1
def bd_adj (W H : Nat) (p : Nat → Int32) (a b : Nat) : Prop :=
  bd_in W H a ∧ bd_in W H b ∧ p a = p b ∧ bd_nr a b ∧ (p a = 0 → a % 16 = b % 16 ∨ a / 16 = b / 16)
def bd_cn (W H : Nat) (p : Nat → Int32) (a b : Nat) : Prop := ∀ S : Nat → Prop, S a → (∀ c d, S c → bd_adj W H p c d → S d) → S b
section
variable {W H : Nat} {p : Nat → Int32}
theorem bd_adj_symm {a b : Nat} (h : bd_adj W H p a b) : bd_adj W H p b a := by
  obtain ⟨h1, h2, h3, ⟨h4, h5, h6, h7⟩, h8⟩ := h
  refine ⟨h2, h1, h3.symm, ⟨h5, h4, h7, h6⟩, fun z => ?_⟩
  rcases h8 (h3.trans z) with e | e
  · exact Or.inl e.symm
  · exact Or.inr e.symm
theorem bd_cn_refl {a : Nat} : bd_cn W H p a a := fun _ h _ => h
theorem bd_cn_step {a b c : Nat} (h : bd_cn W H p a b) (e : bd_adj W H p b c) : bd_cn W H p a c := fun S h0 hs => hs b c (h S h0 hs) e
theorem bd_cn_trans {a b c : Nat} (h : bd_cn W H p a b) (g : bd_cn W H p b c) : bd_cn W H p a c := fun S h0 hs => g S (h S h0 hs) hs
theorem bd_cn_symm {a b : Nat} (h : bd_cn W H p a b) : bd_cn W H p b a :=
  h (fun x => bd_cn W H p x a) bd_cn_refl (fun _ _ hc e => bd_cn_trans (bd_cn_step bd_cn_refl (bd_adj_symm e)) hc)
theorem bd_cn_in {a b : Nat} (h : bd_cn W H p a b) (ha : bd_in W H a) : bd_in W H b :=
  h (fun x => bd_in W H x) ha (fun _ _ _ e => e.2.1)
theorem bd_cn_p {a b : Nat} (h : bd_cn W H p a b) : p b = p a :=
  h (fun x => p x = p a) rfl (fun _ _ hc e => e.2.2.1.symm.trans hc)
end
/-! the label of a component, as a code: 0 outside, else its first cell + 1 -/
def bd_LS (W H : Nat) (p : Nat → Int32) (L : Nat → Nat) : Prop :=
  (∀ a b, bd_adj W H p a b → L a = L b) ∧
  (∀ i, bd_in W H i → (p i = 0 ∧ L i = 0 ∧ ∃ j, bd_cn W H p i j ∧ bd_in W H j ∧ bd_rim W H j) ∨
    (∃ r, L i = r + 1 ∧ r ≤ i ∧ bd_cn W H p i r ∧ bd_in W H r ∧ L r = r + 1 ∧ p r = p i)) ∧
  (∀ i, bd_in W H i → p i = 0 → bd_rim W H i → L i = 0)
def bd_out (W H : Nat) (p : Nat → Int32) (i : Nat) : Prop := p i = 0 ∧ ∃ j, bd_cn W H p i j ∧ bd_in W H j ∧ bd_rim W H j
def bd_LP (W H : Nat) (p : Nat → Int32) (i l : Nat) : Prop :=
  (bd_out W H p i ∧ l = 0) ∨ (¬ bd_out W H p i ∧ ∃ r, l = r + 1 ∧ bd_cn W H p i r ∧ ∀ j, bd_cn W H p i j → r ≤ j)
section
variable {W H : Nat} {p : Nat → Int32}
theorem bd_least (P : Nat → Prop) (h : ∃ k, P k) : ∃ k, P k ∧ ∀ j, P j → k ≤ j := by
  obtain ⟨k, hk⟩ := h
  induction k using Nat.strongRecOn with
  | ind k ih =>
    by_cases e : ∃ j, j < k ∧ P j
    · obtain ⟨j, hj, pj⟩ := e
      exact ih j hj pj
    · exact ⟨k, hk, fun j pj => Nat.not_lt.mp fun hj => e ⟨j, hj, pj⟩⟩
theorem bd_LP_ex (i : Nat) : ∃ l, bd_LP W H p i l := by
  by_cases h : bd_out W H p i
  · exact ⟨0, Or.inl ⟨h, rfl⟩⟩
  · obtain ⟨r, hr, hm⟩ := bd_least (fun r => bd_cn W H p i r) ⟨i, bd_cn_refl⟩
    exact ⟨r + 1, Or.inr ⟨h, r, rfl, hr, hm⟩⟩
theorem bd_out_cn {a b : Nat} (h : bd_cn W H p a b) (ho : bd_out W H p a) : bd_out W H p b := by
  obtain ⟨h0, j, h1, h2, h3⟩ := ho
  exact ⟨(bd_cn_p h).trans h0, j, bd_cn_trans (bd_cn_symm h) h1, h2, h3⟩
theorem bd_LP_cn {a b l m : Nat} (h : bd_cn W H p a b) (ha : bd_LP W H p a l) (hb : bd_LP W H p b m) : l = m := by
  rcases ha with ⟨oa, rfl⟩ | ⟨oa, r, rfl, ra, ma⟩
  · rcases hb with ⟨ob, rfl⟩ | ⟨ob, _⟩
    · rfl
    · exact absurd (bd_out_cn h oa) ob
  · rcases hb with ⟨ob, rfl⟩ | ⟨ob, s, rfl, sb, mb⟩
    · exact absurd (bd_out_cn (bd_cn_symm h) ob) oa
    · have h1 := ma s (bd_cn_trans h sb)
      have h2 := mb r (bd_cn_trans (bd_cn_symm h) ra)
      omega
theorem bd_LS_ex (W H : Nat) (p : Nat → Int32) : ∃ L, bd_LS W H p L := by
  refine ⟨fun i => Classical.choose (bd_LP_ex (W := W) (H := H) (p := p) i), ?_, ?_, ?_⟩
  · intro a b e
    exact bd_LP_cn (bd_cn_step bd_cn_refl e) (Classical.choose_spec (bd_LP_ex a)) (Classical.choose_spec (bd_LP_ex b))
  · intro i hi
    have s := Classical.choose_spec (bd_LP_ex (W := W) (H := H) (p := p) i)
    rcases s with ⟨⟨h0, hj⟩, e⟩ | ⟨_, r, e, hr, hm⟩
    · exact Or.inl ⟨h0, e, hj⟩
    · refine Or.inr ⟨r, e, hm i bd_cn_refl, hr, bd_cn_in hr hi, ?_, bd_cn_p hr⟩
      have q := bd_LP_cn hr (Classical.choose_spec (bd_LP_ex i)) (Classical.choose_spec (bd_LP_ex r))
      exact q.symm.trans e
  · intro i hi h0 hr
    have s := Classical.choose_spec (bd_LP_ex (W := W) (H := H) (p := p) i)
    rcases s with ⟨_, e⟩ | ⟨ho, _⟩
    · exact e
    · exact absurd ⟨h0, i, bd_cn_refl, hi, hr⟩ ho
end
end
section
/-! keys, numbers of contours, labels: pure -/
abbrev bd_ok (W H : Nat) (p : Nat → Int32) (L : Nat → Nat) (i : Nat) : Prop := bd_in W H i ∧ p i = 1 ∧ L i = i + 1
abbrev bd_hk (W H : Nat) (p : Nat → Int32) (L : Nat → Nat) (i : Nat) : Prop := bd_in W H i ∧ i % 16 + 1 < W ∧ p (i + 1) = 0 ∧ L (i + 1) = i + 2
abbrev bd_key (W H : Nat) (p : Nat → Int32) (L : Nat → Nat) (i : Nat) : Prop := bd_ok W H p L i ∨ bd_hk W H p L i
def bd_N (W H : Nat) (p : Nat → Int32) (L : Nat → Nat) : Nat → Nat
  | 0 => 0
  | i + 1 => if bd_key W H p L i then bd_N W H p L i + 1 else bd_N W H p L i
def bd_kc (p : Nat → Int32) (L : Nat → Nat) (j : Nat) : Nat := if p j = 0 then L j - 2 else L j - 1
def bd_ow (W H : Nat) (p : Nat → Int32) (L : Nat → Nat) (j : Nat) : Nat := if L j = 0 then 0 else bd_N W H p L (bd_kc p L j) + 1
def bd_lab (W H : Nat) (p : Nat → Int32) (L : Nat → Nat) (c j : Nat) : Int32 :=
  if bd_in W H j ∧ (L j = 0 ∨ bd_kc p L j < c) then bd_cd (bd_ow W H p L j) else -2
def bd_A (W H : Nat) (p : Nat → Int32) (L : Nat → Nat) (val A0 : Nat → Int32) : Nat → Nat → Int32
  | 0 => A0
  | c + 1 => if bd_key W H p L c then upd (bd_A W H p L val A0 c) (bd_N W H p L c) (val c) else bd_A W H p L val A0 c
def bd_pv (W H : Nat) (p : Nat → Int32) (L : Nat → Nat) (c : Nat) : Nat :=
  if bd_ok W H p L c then (if c % 16 = 0 then 0 else bd_ow W H p L (c - 1)) else bd_ow W H p L c
def bd_kd (W H : Nat) (p : Nat → Int32) (L : Nat → Nat) (c : Nat) : Int32 := if bd_ok W H p L c then 1 else 2
def bd_C (W H : Nat) (p : Nat → Int32) (L : Nat → Nat) : Prop :=
  1 ≤ W ∧ W ≤ 16 ∧ 1 ≤ H ∧ H ≤ 16 ∧ (∀ i, p i = 0 ∨ p i = 1) ∧ bd_LS W H p L
section
variable {W H : Nat} {p : Nat → Int32} {L : Nat → Nat}
theorem bd_in_lt (hC : bd_C W H p L) {i : Nat} (h : bd_in W H i) : i < 256 := by
  obtain ⟨_, _, _, hH, _⟩ := hC
  obtain ⟨h1, h2⟩ := h
  omega
theorem bd_L_adj (hC : bd_C W H p L) {a b : Nat} (h : bd_adj W H p a b) : L a = L b := hC.2.2.2.2.2.1 a b h
theorem bd_L_cn (hC : bd_C W H p L) {a b : Nat} (h : bd_cn W H p a b) : L a = L b :=
  h (fun x => L a = L x) rfl (fun _ _ hc e => hc.trans (bd_L_adj hC e))
theorem bd_L_le (hC : bd_C W H p L) {i : Nat} (h : bd_in W H i) : L i ≤ i + 1 := by
  rcases hC.2.2.2.2.2.2.1 i h with ⟨_, e, _⟩ | ⟨r, e, hr, _⟩
  · omega
  · omega
theorem bd_fg (hC : bd_C W H p L) {i : Nat} (h : bd_in W H i) (h1 : p i = 1) : ∃ r, L i = r + 1 ∧ r ≤ i ∧ bd_cn W H p i r ∧ bd_ok W H p L r := by
  rcases hC.2.2.2.2.2.2.1 i h with ⟨e, _⟩ | ⟨r, e, hr, hc, hi, hL, hp⟩
  · exact absurd (e.symm.trans h1) bd_01
  · exact ⟨r, e, hr, hc, hi, hp.trans h1, hL⟩
theorem bd_same (hC : bd_C W H p L) {a b : Nat} (ha : bd_in W H a) (hb : bd_in W H b) (e : L a = L b) (h0 : L a ≠ 0) : bd_cn W H p a b := by
  rcases hC.2.2.2.2.2.2.1 a ha with ⟨_, e1, _⟩ | ⟨r, e1, _, hc, _⟩
  · exact absurd e1 h0
  · rcases hC.2.2.2.2.2.2.1 b hb with ⟨_, e2, _⟩ | ⟨s, e2, _, hd, _⟩
    · exact absurd (e.trans e2) h0
    · have : r = s := by omega
      subst this
      exact bd_cn_trans hc (bd_cn_symm hd)
theorem bd_adj_r (hC : bd_C W H p L) {i : Nat} (h : bd_in W H i) (h1 : i % 16 + 1 < W) (e : p i = p (i + 1)) : bd_adj W H p i (i + 1) := by
  obtain ⟨_, hW, _⟩ := hC
  obtain ⟨h2, h3⟩ := h
  exact ⟨⟨h2, h3⟩, ⟨by omega, by omega⟩, e, ⟨by omega, by omega, by omega, by omega⟩, fun _ => Or.inr (by omega)⟩
theorem bd_hk_p (hC : bd_C W H p L) {i : Nat} (h : bd_hk W H p L i) : p i = 1 := by
  obtain ⟨h1, h2, h3, h4⟩ := h
  rcases hC.2.2.2.2.1 i with e | e
  · have a := bd_L_adj hC (bd_adj_r hC h1 h2 (e.trans h3.symm))
    have b := bd_L_le hC h1
    omega
  · exact e
theorem bd_hk_in (hC : bd_C W H p L) {i : Nat} (h : bd_hk W H p L i) : bd_in W H (i + 1) := by
  obtain ⟨_, hW, _⟩ := hC
  obtain ⟨⟨h1, h3⟩, h2, _⟩ := h
  exact ⟨by omega, by omega⟩
theorem bd_excl (hC : bd_C W H p L) {i : Nat} (h : bd_hk W H p L i) : ¬ bd_ok W H p L i := by
  intro ho
  have hin := bd_hk_in hC h
  obtain ⟨⟨h1, h1'⟩, h2, h3, h4⟩ := h
  obtain ⟨_, hp, hl⟩ := ho
  have hnr : ¬ bd_rim W H (i + 1) := fun hr => by
    have := hC.2.2.2.2.2.2.2 (i + 1) hin h3 hr
    omega
  have hW := hC.2.1
  have hy : 16 ≤ i := by
    rcases Nat.lt_or_ge i 16 with z | z
    · exact absurd (Or.inr (Or.inl (by omega))) hnr
    · exact z
  have hu : bd_in W H (i + 1 - 16) := ⟨by omega, by omega⟩
  have hle := bd_L_le hC hu
  rcases hC.2.2.2.2.1 (i + 1 - 16) with e | e
  · have a := bd_L_adj hC (a := i + 1 - 16) (b := i + 1) ⟨hu, hin, e.trans h3.symm, ⟨by omega, by omega, by omega, by omega⟩, fun _ => Or.inl (by omega)⟩
    omega
  · have a := bd_L_adj hC (a := i + 1 - 16) (b := i) ⟨hu, ⟨h1, h1'⟩, e.trans hp.symm, ⟨by omega, by omega, by omega, by omega⟩, fun z => absurd (z.symm.trans e) bd_01⟩
    omega
theorem bd_bg (hC : bd_C W H p L) {i : Nat} (h : bd_in W H i) (h0 : p i = 0) (hn : L i ≠ 0) : ∃ r, L i = r + 2 ∧ r + 1 ≤ i ∧ bd_cn W H p i (r + 1) ∧ bd_hk W H p L r := by
  rcases hC.2.2.2.2.2.2.1 i h with ⟨_, e, _⟩ | ⟨s, e, hs, hc, hi, hL, hp⟩
  · exact absurd e hn
  · have hnr : ¬ bd_rim W H s := fun hr => by
      have := hC.2.2.2.2.2.2.2 s hi (hp.trans h0) hr
      omega
    have hW := hC.2.1
    obtain ⟨h1, h2⟩ := hi
    have hx : s % 16 ≠ 0 := fun z => hnr (Or.inl z)
    obtain ⟨r, rfl⟩ : ∃ r, s = r + 1 := ⟨s - 1, by omega⟩
    exact ⟨r, e, hs, hc, ⟨by omega, by omega⟩, by omega, hp.trans h0, hL⟩
theorem bd_kc_fg (hC : bd_C W H p L) {j : Nat} (h : bd_in W H j) (h1 : p j = 1) : bd_ok W H p L (bd_kc p L j) ∧ bd_kc p L j ≤ j ∧ L j = bd_kc p L j + 1 := by
  obtain ⟨r, e, hr, _, ho⟩ := bd_fg hC h h1
  have hk : bd_kc p L j = r := by
    unfold bd_kc
    rw [if_neg (by rw [h1]; exact bd_10)]
    omega
  rw [hk]
  exact ⟨ho, hr, e⟩
theorem bd_kc_bg (hC : bd_C W H p L) {j : Nat} (h : bd_in W H j) (h0 : p j = 0) (hn : L j ≠ 0) : bd_hk W H p L (bd_kc p L j) ∧ bd_kc p L j + 1 ≤ j ∧ L j = bd_kc p L j + 2 := by
  obtain ⟨r, e, hr, _, ho⟩ := bd_bg hC h h0 hn
  have hk : bd_kc p L j = r := by
    unfold bd_kc
    rw [if_pos h0]
    omega
  rw [hk]
  exact ⟨ho, hr, e⟩
theorem bd_N_eq (i : Nat) : bd_N W H p L (i + 1) = if bd_key W H p L i then bd_N W H p L i + 1 else bd_N W H p L i := rfl
theorem bd_N_key {i : Nat} (h : bd_key W H p L i) : bd_N W H p L (i + 1) = bd_N W H p L i + 1 := (bd_N_eq i).trans (if_pos h)
theorem bd_N_no {i : Nat} (h : ¬ bd_key W H p L i) : bd_N W H p L (i + 1) = bd_N W H p L i := (bd_N_eq i).trans (if_neg h)
theorem bd_N_s (i : Nat) : bd_N W H p L i ≤ bd_N W H p L (i + 1) := by
  by_cases h : bd_key W H p L i
  · rw [bd_N_key h]; omega
  · rw [bd_N_no h]; omega
theorem bd_N_mono {a : Nat} : ∀ {b : Nat}, a ≤ b → bd_N W H p L a ≤ bd_N W H p L b
  | 0, h => by
    have : a = 0 := by omega
    subst this
    exact Nat.le_refl _
  | b + 1, h => by
    rcases Nat.lt_or_ge b a with z | z
    · have : a = b + 1 := by omega
      subst this
      exact Nat.le_refl _
    · exact Nat.le_trans (bd_N_mono z) (bd_N_s b)
theorem bd_N_lt {a b : Nat} (h : bd_key W H p L a) (hb : a < b) : bd_N W H p L a < bd_N W H p L b := by
  have := bd_N_mono (W := W) (H := H) (p := p) (L := L) (a := a + 1) (b := b) (by omega)
  rw [bd_N_key h] at this
  omega
theorem bd_N_le : ∀ i : Nat, bd_N W H p L i ≤ i
  | 0 => Nat.le_refl _
  | i + 1 => by
    have := bd_N_le i
    by_cases h : bd_key W H p L i
    · rw [bd_N_key h]; omega
    · rw [bd_N_no h]; omega
theorem bd_N_ex {k : Nat} : ∀ {i : Nat}, k < bd_N W H p L i → ∃ c, c < i ∧ bd_key W H p L c ∧ bd_N W H p L c = k
  | 0, h => absurd h (Nat.not_lt_zero k)
  | i + 1, h => by
    by_cases hk : bd_key W H p L i
    · rw [bd_N_key hk] at h
      rcases Nat.lt_or_ge k (bd_N W H p L i) with z | z
      · obtain ⟨c, h1, h2, h3⟩ := bd_N_ex z
        exact ⟨c, by omega, h2, h3⟩
      · exact ⟨i, by omega, hk, by omega⟩
    · rw [bd_N_no hk] at h
      obtain ⟨c, h1, h2, h3⟩ := bd_N_ex h
      exact ⟨c, by omega, h2, h3⟩
theorem bd_N_inj {a b : Nat} (ha : bd_key W H p L a) (hb : bd_key W H p L b) (e : bd_N W H p L a = bd_N W H p L b) : a = b := by
  rcases Nat.lt_or_ge a b with z | z
  · have := bd_N_lt ha z; omega
  · rcases Nat.lt_or_ge b a with y | y
    · have := bd_N_lt hb y; omega
    · omega
theorem bd_A_key {val A0 : Nat → Int32} {c : Nat} (h : bd_key W H p L c) : ∀ {i : Nat}, c < i → bd_A W H p L val A0 i (bd_N W H p L c) = val c
  | 0, hi => absurd hi (Nat.not_lt_zero c)
  | i + 1, hi => by
    show (if bd_key W H p L i then upd (bd_A W H p L val A0 i) (bd_N W H p L i) (val i) else bd_A W H p L val A0 i) (bd_N W H p L c) = val c
    by_cases e : c = i
    · subst e
      rw [if_pos h]
      exact pk_us
    · have r := bd_A_key (val := val) (A0 := A0) h (i := i) (by omega)
      by_cases hk : bd_key W H p L i
      · rw [if_pos hk]
        have hl := bd_N_lt h (b := i) (by omega)
        exact (pk_un (by omega)).trans r
      · rw [if_neg hk]
        exact r
theorem bd_A_ge {val A0 : Nat → Int32} {k : Nat} : ∀ {i : Nat}, bd_N W H p L i ≤ k → bd_A W H p L val A0 i k = A0 k
  | 0, _ => rfl
  | i + 1, h => by
    show (if bd_key W H p L i then upd (bd_A W H p L val A0 i) (bd_N W H p L i) (val i) else bd_A W H p L val A0 i) k = A0 k
    by_cases hk : bd_key W H p L i
    · rw [bd_N_key hk] at h
      rw [if_pos hk]
      exact (pk_un (by omega)).trans (bd_A_ge (by omega))
    · rw [bd_N_no hk] at h
      rw [if_neg hk]
      exact bd_A_ge h
theorem bd_A_k {val A0 : Nat → Int32} {c : Nat} (h : bd_key W H p L c) : bd_A W H p L val A0 (c + 1) = upd (bd_A W H p L val A0 c) (bd_N W H p L c) (val c) := if_pos h
theorem bd_A_n {val A0 : Nat → Int32} {c : Nat} (h : ¬ bd_key W H p L c) : bd_A W H p L val A0 (c + 1) = bd_A W H p L val A0 c := if_neg h
theorem bd_ow_0 {j : Nat} (h : L j = 0) : bd_ow W H p L j = 0 := if_pos h
theorem bd_ow_n {j : Nat} (h : L j ≠ 0) : bd_ow W H p L j = bd_N W H p L (bd_kc p L j) + 1 := if_neg h
theorem bd_kc_key (hC : bd_C W H p L) {j : Nat} (h : bd_in W H j) (hn : L j ≠ 0) : bd_key W H p L (bd_kc p L j) ∧ bd_kc p L j ≤ j := by
  rcases hC.2.2.2.2.1 j with e | e
  · have := bd_kc_bg hC h e hn
    exact ⟨Or.inr this.1, by omega⟩
  · have := bd_kc_fg hC h e
    exact ⟨Or.inl this.1, this.2.1⟩
theorem bd_ow_le (hC : bd_C W H p L) {j : Nat} (h : bd_in W H j) : bd_ow W H p L j ≤ bd_N W H p L 256 := by
  by_cases hn : L j = 0
  · rw [bd_ow_0 hn]; omega
  · rw [bd_ow_n hn]
    have h1 := bd_kc_key hC h hn
    have h2 := bd_in_lt hC h
    have := bd_N_lt h1.1 (b := 256) (by omega)
    omega
theorem bd_ow_ok (hC : bd_C W H p L) {j : Nat} (h : bd_ok W H p L j) : bd_ow W H p L j = bd_N W H p L j + 1 := by
  rw [bd_ow_n (by have := h.2.2; omega)]
  have := (bd_kc_fg hC h.1 h.2.1).2.2
  have e : bd_kc p L j = j := by have := h.2.2; omega
  rw [e]
theorem bd_left (hC : bd_C W H p L) {c : Nat} (h : bd_ok W H p L c) (hx : c % 16 ≠ 0) : bd_in W H (c - 1) ∧ p (c - 1) = 0 := by
  obtain ⟨⟨h1, h2⟩, h3, h4⟩ := h
  have hi : bd_in W H (c - 1) := ⟨by omega, by omega⟩
  refine ⟨hi, ?_⟩
  rcases hC.2.2.2.2.1 (c - 1) with e | e
  · exact e
  · have hW := hC.2.1
    have a := bd_L_adj hC (a := c - 1) (b := c) ⟨hi, ⟨h1, h2⟩, e.trans h3.symm, ⟨by omega, by omega, by omega, by omega⟩, fun z => absurd (z.symm.trans e) bd_01⟩
    have b := bd_L_le hC hi
    omega
theorem bd_pv_le (hC : bd_C W H p L) {c : Nat} (h : bd_key W H p L c) : bd_pv W H p L c ≤ bd_N W H p L c := by
  unfold bd_pv
  by_cases ho : bd_ok W H p L c
  · rw [if_pos ho]
    by_cases hx : c % 16 = 0
    · rw [if_pos hx]; omega
    · rw [if_neg hx]
      obtain ⟨hi, h0⟩ := bd_left hC ho hx
      by_cases hn : L (c - 1) = 0
      · rw [bd_ow_0 hn]; omega
      · rw [bd_ow_n hn]
        obtain ⟨h1, h2, _⟩ := bd_kc_bg hC hi h0 hn
        have := bd_N_lt (Or.inr h1) (b := c) (by omega)
        omega
  · rw [if_neg ho]
    have hh : bd_hk W H p L c := h.resolve_left ho
    have h1 := bd_hk_p hC hh
    obtain ⟨h2, h3, h4⟩ := bd_kc_fg hC hh.1 h1
    have hn : L c ≠ 0 := by omega
    rw [bd_ow_n hn]
    have hne : bd_kc p L c ≠ c := fun z => ho (z ▸ h2)
    have := bd_N_lt (Or.inl h2) (b := c) (by omega)
    omega
/-! labels stage by stage -/
theorem bd_lab_t {c j : Nat} (h : bd_in W H j) (h1 : L j = 0 ∨ bd_kc p L j < c) : bd_lab W H p L c j = bd_cd (bd_ow W H p L j) := if_pos ⟨h, h1⟩
theorem bd_lab_f {c j : Nat} (h : ¬ (bd_in W H j ∧ (L j = 0 ∨ bd_kc p L j < c))) : bd_lab W H p L c j = -2 := if_neg h
theorem bd_ow_lt (hC : bd_C W H p L) {j : Nat} (h : bd_in W H j) : bd_ow W H p L j < 2 ^ 31 := by
  have := bd_ow_le hC h
  have := bd_N_le (W := W) (H := H) (p := p) (L := L) 256
  omega
theorem bd_lab_m2 (hC : bd_C W H p L) {c j : Nat} (h : bd_in W H j) : bd_lab W H p L c j = -2 ↔ (L j ≠ 0 ∧ c ≤ bd_kc p L j) := by
  constructor
  · intro e
    by_cases h1 : L j = 0 ∨ bd_kc p L j < c
    · rw [bd_lab_t h h1] at e
      exact absurd e (bd_cd_m2 (bd_ow_lt hC h))
    · exact ⟨fun z => h1 (Or.inl z), Nat.not_lt.mp fun z => h1 (Or.inr z)⟩
  · intro ⟨h1, h2⟩
    exact bd_lab_f fun z => z.2.elim h1 (fun y => by omega)
theorem bd_lab_ok (hC : bd_C W H p L) {c : Nat} (h : bd_in W H c) (h1 : p c = 1) : bd_lab W H p L c c = -2 ↔ bd_ok W H p L c := by
  rw [bd_lab_m2 hC h]
  obtain ⟨h2, h3, h4⟩ := bd_kc_fg hC h h1
  constructor
  · intro ⟨_, z⟩
    exact ⟨h, h1, by omega⟩
  · intro ⟨_, _, z⟩
    exact ⟨by omega, by omega⟩
theorem bd_lab_hk (hC : bd_C W H p L) {c : Nat} (h : bd_in W H c) (hx : c % 16 + 1 < W) (h0 : p (c + 1) = 0) : bd_lab W H p L c (c + 1) = -2 ↔ bd_hk W H p L c := by
  have hW := hC.2.1
  have hi : bd_in W H (c + 1) := by
    obtain ⟨a, b⟩ := h
    exact ⟨by omega, by omega⟩
  rw [bd_lab_m2 hC hi]
  constructor
  · intro ⟨hn, z⟩
    obtain ⟨h2, h3, h4⟩ := bd_kc_bg hC hi h0 hn
    exact ⟨h, hx, h0, by omega⟩
  · intro z
    have hl := z.2.2.2
    obtain ⟨h2, h3, h4⟩ := bd_kc_bg hC hi h0 (by omega)
    exact ⟨by omega, by omega⟩
theorem bd_lab_hk' (hC : bd_C W H p L) {c : Nat} (h : bd_in W H c) (hx : c % 16 + 1 < W) (h0 : p (c + 1) = 0) : ¬ bd_lab W H p L (c + 1) (c + 1) = -2 := by
  have hW := hC.2.1
  have hi : bd_in W H (c + 1) := by
    obtain ⟨a, b⟩ := h
    exact ⟨by omega, by omega⟩
  rw [bd_lab_m2 hC hi]
  intro ⟨hn, z⟩
  obtain ⟨h2, h3, h4⟩ := bd_kc_bg hC hi h0 hn
  omega
theorem bd_lab_no (hC : bd_C W H p L) {c : Nat} (h : ¬ bd_key W H p L c) : bd_lab W H p L (c + 1) = bd_lab W H p L c := by
  funext j
  by_cases hj : bd_in W H j ∧ (L j = 0 ∨ bd_kc p L j < c)
  · rw [bd_lab_t hj.1 hj.2, bd_lab_t hj.1 (hj.2.imp id (fun z => by omega))]
  · rw [bd_lab_f hj, bd_lab_f]
    intro ⟨h1, h2⟩
    have hn : L j ≠ 0 := fun z => hj ⟨h1, Or.inl z⟩
    have hk : bd_kc p L j = c := by
      have : ¬ bd_kc p L j < c := fun z => hj ⟨h1, Or.inr z⟩
      rcases h2 with z | z
      · exact absurd z hn
      · omega
    exact h (hk ▸ (bd_kc_key hC h1 hn).1)
theorem bd_lab_step (hC : bd_C W H p L) {c f : Nat} (h : (bd_ok W H p L c ∧ f = c) ∨ (bd_hk W H p L c ∧ f = c + 1)) (j : Nat) :
    (bd_cn W H p f j → bd_lab W H p L c j = -2 ∧ bd_lab W H p L (c + 1) j = nI (bd_N W H p L c)) ∧
    (¬ bd_cn W H p f j → bd_lab W H p L (c + 1) j = bd_lab W H p L c j) := by
  have hf : bd_in W H f ∧ L f ≠ 0 ∧ bd_kc p L f = c := by
    rcases h with ⟨ho, rfl⟩ | ⟨hh, rfl⟩
    · have := (bd_kc_fg hC ho.1 ho.2.1).2.2
      exact ⟨ho.1, by have := ho.2.2; omega, by have := ho.2.2; omega⟩
    · have hi := bd_hk_in hC hh
      have hl := hh.2.2.2
      have := (bd_kc_bg hC hi hh.2.2.1 (by omega)).2.2
      exact ⟨hi, by omega, by omega⟩
  obtain ⟨hf1, hf2, hf3⟩ := hf
  constructor
  · intro hc
    have e1 := bd_L_cn hC hc
    have e2 := bd_cn_p hc
    have e3 : bd_kc p L j = c := by
      rw [← hf3]
      unfold bd_kc
      rw [e2, e1]
    have hj := bd_cn_in hc hf1
    refine ⟨(bd_lab_m2 hC hj).mpr ⟨by omega, by omega⟩, ?_⟩
    rw [bd_lab_t hj (Or.inr (by omega)), bd_ow_n (by omega), e3]
    rfl
  · intro hc
    by_cases hj : bd_in W H j ∧ (L j = 0 ∨ bd_kc p L j < c)
    · rw [bd_lab_t hj.1 hj.2, bd_lab_t hj.1 (hj.2.imp id (fun z => by omega))]
    · rw [bd_lab_f hj, bd_lab_f]
      intro ⟨h1, h2⟩
      have hn : L j ≠ 0 := fun z => hj ⟨h1, Or.inl z⟩
      have hk : bd_kc p L j = c := by
        have : ¬ bd_kc p L j < c := fun z => hj ⟨h1, Or.inr z⟩
        rcases h2 with z | z
        · exact absurd z hn
        · omega
      apply hc
      apply bd_same hC hf1 h1 _ hf2
      rcases hC.2.2.2.2.1 j with e | e
      · obtain ⟨a1, a2, a3⟩ := bd_kc_bg hC h1 e hn
        rw [hk] at a1 a3
        rcases h with ⟨ho, rfl⟩ | ⟨hh, rfl⟩
        · exact absurd ho (bd_excl hC a1)
        · rw [a3]; exact hh.2.2.2
      · obtain ⟨a1, a2, a3⟩ := bd_kc_fg hC h1 e
        rw [hk] at a1 a3
        rcases h with ⟨ho, rfl⟩ | ⟨hh, rfl⟩
        · rw [a3]; exact ho.2.2
        · exact absurd a1 (bd_excl hC hh)
theorem bd_lab_left (hC : bd_C W H p L) {c : Nat} (h : bd_ok W H p L c) (hx : c % 16 ≠ 0) : bd_lab W H p L c (c - 1) = bd_cd (bd_ow W H p L (c - 1)) := by
  obtain ⟨hi, h0⟩ := bd_left hC h hx
  refine bd_lab_t hi ?_
  by_cases hn : L (c - 1) = 0
  · exact Or.inl hn
  · have := bd_kc_bg hC hi h0 hn
    exact Or.inr (by omega)
theorem bd_lab_self (hC : bd_C W H p L) {c : Nat} (h : bd_hk W H p L c) : bd_lab W H p L c c = bd_cd (bd_ow W H p L c) := by
  obtain ⟨h1, h2, h3⟩ := bd_kc_fg hC h.1 (bd_hk_p hC h)
  refine bd_lab_t h.1 (Or.inr ?_)
  have hne : bd_kc p L c ≠ c := fun z => bd_excl hC h (z ▸ h1)
  omega
theorem bd_lab_256 (hC : bd_C W H p L) {j : Nat} (h : bd_in W H j) : bd_lab W H p L 256 j = bd_cd (bd_ow W H p L j) := by
  refine bd_lab_t h ?_
  by_cases hn : L j = 0
  · exact Or.inl hn
  · have := bd_kc_key hC h hn
    have := bd_in_lt hC h
    exact Or.inr (by omega)
theorem bd_lab_out {j c : Nat} (h : ¬ bd_in W H j) : bd_lab W H p L c j = -2 := bd_lab_f fun z => h z.1
end
end
section
/-! chains of parents (codes), areas, edges: pure -/
def bd_an (pp : Nat → Nat) (k : Nat) : Nat → Nat → Bool
  | 0, _ => false
  | n + 1, q => if q = 0 then false else if q = k + 1 then true else bd_an pp k n (pp (q - 1))
theorem bd_an_s (pp : Nat → Nat) (k n q : Nat) : bd_an pp k (n + 1) q = if q = 0 then false else if q = k + 1 then true else bd_an pp k n (pp (q - 1)) := rfl
theorem bd_an_0 (pp : Nat → Nat) (k n : Nat) : bd_an pp k n 0 = false := by
  cases n with
  | zero => rfl
  | succ n => rw [bd_an_s]; exact if_pos rfl
theorem bd_an_fuel {pp : Nat → Nat} {k t : Nat} (hp : ∀ j, j < t → pp j ≤ j) : ∀ n m q : Nat, q ≤ t → q ≤ n → q ≤ m → bd_an pp k n q = bd_an pp k m q := by
  intro n
  induction n with
  | zero =>
    intro m q _ h1 _
    have : q = 0 := by omega
    subst this
    rw [bd_an_0, bd_an_0]
  | succ n ih =>
    intro m q h0 h1 h2
    cases m with
    | zero =>
      have : q = 0 := by omega
      subst this
      rw [bd_an_0, bd_an_0]
    | succ m =>
      rw [bd_an_s, bd_an_s]
      by_cases e0 : q = 0
      · rw [if_pos e0, if_pos e0]
      · by_cases e1 : q = k + 1
        · rw [if_neg e0, if_neg e0, if_pos e1, if_pos e1]
        · rw [if_neg e0, if_neg e0, if_neg e1, if_neg e1]
          have := hp (q - 1) (by omega)
          exact ih m (pp (q - 1)) (by omega) (by omega) (by omega)
def bd_a (pp : Nat → Nat) (k q : Nat) : Bool := bd_an pp k q q
section
variable {pp : Nat → Nat} {t : Nat}
theorem bd_a_an (hp : ∀ j, j < t → pp j ≤ j) {k n q : Nat} (h0 : q ≤ t) (h1 : q ≤ n) : bd_an pp k n q = bd_a pp k q :=
  bd_an_fuel hp n q q h0 h1 (Nat.le_refl q)
theorem bd_a_0 (k : Nat) : bd_a pp k 0 = false := rfl
theorem bd_a_s (hp : ∀ j, j < t → pp j ≤ j) {k j : Nat} (hj : j < t) : bd_a pp k (j + 1) = if j = k then true else bd_a pp k (pp j) := by
  show bd_an pp k (j + 1) (j + 1) = _
  rw [bd_an_s, if_neg (by omega)]
  by_cases e : j = k
  · rw [if_pos e, if_pos (show j + 1 = k + 1 by omega)]
  · rw [if_neg e, if_neg (show ¬ j + 1 = k + 1 by omega)]
    have := hp j hj
    exact bd_a_an hp (by show pp j ≤ t; omega) this
theorem bd_a_self (hp : ∀ j, j < t → pp j ≤ j) {k : Nat} (hk : k < t) : bd_a pp k (k + 1) = true := by
  rw [bd_a_s hp hk, if_pos rfl]
theorem bd_a_low (hp : ∀ j, j < t → pp j ≤ j) {k : Nat} : ∀ q : Nat, q ≤ k → q ≤ t → bd_a pp k q = false := by
  intro q
  induction q using Nat.strongRecOn with
  | ind q ih =>
    intro h1 h2
    cases q with
    | zero => rfl
    | succ j =>
      rw [bd_a_s hp (by omega), if_neg (by omega)]
      have := hp j (by omega)
      exact ih (pp j) (by omega) (by omega) (by omega)
end
def bd_g (pp : Nat → Nat) (t : Nat) (own : Nat → Nat) : Nat → Nat → Nat
  | 0, i => own i
  | d + 1, i => if bd_g pp t own d i = t - d then pp (t - 1 - d) else bd_g pp t own d i
theorem bd_g_s (pp : Nat → Nat) (t : Nat) (own : Nat → Nat) (d i : Nat) : bd_g pp t own (d + 1) i = if bd_g pp t own d i = t - d then pp (t - 1 - d) else bd_g pp t own d i := rfl
section
variable {pp : Nat → Nat} {t : Nat} {own : Nat → Nat}
theorem bd_g_le (hp : ∀ j, j < t → pp j ≤ j) {i : Nat} (ho : own i ≤ t) : ∀ {d : Nat}, d ≤ t → bd_g pp t own d i ≤ t - d
  | 0, _ => ho
  | d + 1, hd => by
    have h := bd_g_le hp ho (d := d) (by omega)
    rw [bd_g_s]
    by_cases e : bd_g pp t own d i = t - d
    · rw [if_pos e]
      have := hp (t - 1 - d) (by omega)
      omega
    · rw [if_neg e]
      omega
theorem bd_g_a (hp : ∀ j, j < t → pp j ≤ j) {k i : Nat} : ∀ {d : Nat}, k + 1 + d ≤ t → bd_a pp k (bd_g pp t own d i) = bd_a pp k (own i)
  | 0, _ => rfl
  | d + 1, hd => by
    have h := bd_g_a hp (k := k) (i := i) (d := d) (by omega)
    rw [bd_g_s]
    by_cases e : bd_g pp t own d i = t - d
    · rw [if_pos e, ← h, e, show t - d = (t - 1 - d) + 1 from by omega, bd_a_s hp (by omega), if_neg (by omega)]
    · rw [if_neg e]
      exact h
theorem bd_g_end (hp : ∀ j, j < t → pp j ≤ j) {k i : Nat} (hk : k < t) (ho : own i ≤ t) : bd_a pp k (own i) = true ↔ bd_g pp t own (t - 1 - k) i = k + 1 := by
  rw [← bd_g_a hp (k := k) (i := i) (d := t - 1 - k) (by omega)]
  have h := bd_g_le hp ho (d := t - 1 - k) (by omega)
  constructor
  · intro e
    rcases Nat.lt_or_ge (bd_g pp t own (t - 1 - k) i) (k + 1) with z | z
    · rw [bd_a_low hp _ (by omega) (by omega)] at e
      exact absurd e (by decide)
    · omega
  · intro e
    rw [e]
    exact bd_a_self hp hk
end
noncomputable def bd_gc (I : Nat → Prop) (pp : Nat → Nat) (t : Nat) (own : Nat → Nat) (d k : Nat) : Nat := bd_ct (fun i => I i ∧ bd_g pp t own d i = k + 1) 256
theorem bd_gc_t {I : Nat → Prop} {pp : Nat → Nat} {t : Nat} {own : Nat → Nat} {d m : Nat} (hd : d < t) (hm : m < t - 1 - d) (e : pp (t - 1 - d) = m + 1) :
    bd_gc I pp t own (d + 1) m = bd_gc I pp t own d m + bd_gc I pp t own d (t - 1 - d) := by
  refine bd_ct_or (fun i _ => ?_) (fun i _ h1 h2 => ?_)
  · show (I i ∧ bd_g pp t own (d + 1) i = m + 1) ↔ (I i ∧ bd_g pp t own d i = m + 1) ∨ (I i ∧ bd_g pp t own d i = t - 1 - d + 1)
    rw [bd_g_s]
    by_cases z : bd_g pp t own d i = t - d
    · rw [if_pos z]
      exact ⟨fun h => Or.inr ⟨h.1, by omega⟩, fun h => ⟨h.elim And.left And.left, e⟩⟩
    · rw [if_neg z]
      exact ⟨fun h => Or.inl h, fun h => h.elim id (fun y => absurd y.2 (by omega))⟩
  · have := h1.2
    have := h2.2
    omega
theorem bd_gc_f {I : Nat → Prop} {pp : Nat → Nat} {t : Nat} {own : Nat → Nat} {d m : Nat} (hd : d < t) (hm : m < t - 1 - d) (e : pp (t - 1 - d) ≠ m + 1) :
    bd_gc I pp t own (d + 1) m = bd_gc I pp t own d m := by
  refine bd_ct_eq (fun i _ => ?_)
  show (I i ∧ bd_g pp t own (d + 1) i = m + 1) ↔ (I i ∧ bd_g pp t own d i = m + 1)
  rw [bd_g_s]
  by_cases z : bd_g pp t own d i = t - d
  · rw [if_pos z]
    exact ⟨fun h => absurd h.2 e, fun h => absurd h.2 (by omega)⟩
  · rw [if_neg z]
/-! edges -/
def bd_far (W H : Nat) (ow : Nat → Nat) (i s : Nat) : Nat :=
  if s = 0 then (if i / 16 = 0 then 0 else ow (i - 16)) else
  if s = 1 then (if i % 16 + 1 < W then ow (i + 1) else 0) else
  if s = 2 then (if i / 16 + 1 < H then ow (i + 16) else 0) else
  (if i % 16 = 0 then 0 else ow (i - 1))
def bd_bl (W H : Nat) (p : Nat → Int32) (L : Nat → Nat) (c : Nat) : Nat :=
  if bd_ok W H p L c then (if c % 16 = 0 then 0 else L (c - 1)) else L (c + 1)
def bd_bo (W H : Nat) (p : Nat → Int32) (L : Nat → Nat) (c : Nat) : Nat :=
  if bd_ok W H p L c then (if c % 16 = 0 then 0 else bd_ow W H p L (c - 1)) else bd_ow W H p L (c + 1)
def bd_ed (W H : Nat) (p : Nat → Int32) (L : Nat → Nat) (c e : Nat) : Prop :=
  bd_in W H (e / 4) ∧ bd_ow W H p L (e / 4) = bd_ow W H p L c ∧ bd_far W H (bd_ow W H p L) (e / 4) (e % 4) = bd_bo W H p L c
section
variable {W H : Nat} {p : Nat → Int32} {L : Nat → Nat}
theorem bd_ow_iff (hC : bd_C W H p L) {a b : Nat} (ha : bd_in W H a) (hb : bd_in W H b) : bd_ow W H p L a = bd_ow W H p L b ↔ L a = L b := by
  constructor
  · intro e
    by_cases h1 : L a = 0
    · rw [bd_ow_0 h1] at e
      by_cases h2 : L b = 0
      · omega
      · rw [bd_ow_n h2] at e; omega
    · by_cases h2 : L b = 0
      · rw [bd_ow_0 h2, bd_ow_n h1] at e; omega
      · rw [bd_ow_n h1, bd_ow_n h2] at e
        have k1 := bd_kc_key hC ha h1
        have k2 := bd_kc_key hC hb h2
        have ee := bd_N_inj k1.1 k2.1 (by omega)
        rcases hC.2.2.2.2.1 a with z | z
        · obtain ⟨a1, _, a3⟩ := bd_kc_bg hC ha z h1
          rcases hC.2.2.2.2.1 b with y | y
          · obtain ⟨b1, _, b3⟩ := bd_kc_bg hC hb y h2
            omega
          · obtain ⟨b1, _, b3⟩ := bd_kc_fg hC hb y
            rw [← ee] at b1
            exact absurd b1 (bd_excl hC a1)
        · obtain ⟨a1, _, a3⟩ := bd_kc_fg hC ha z
          rcases hC.2.2.2.2.1 b with y | y
          · obtain ⟨b1, _, b3⟩ := bd_kc_bg hC hb y h2
            rw [← ee] at b1
            exact absurd a1 (bd_excl hC b1)
          · obtain ⟨b1, _, b3⟩ := bd_kc_fg hC hb y
            omega
  · intro e
    by_cases h1 : L a = 0
    · rw [bd_ow_0 h1, bd_ow_0 (show L b = 0 by omega)]
    · have h2 : L b ≠ 0 := e ▸ h1
      have q := bd_cn_p (bd_same hC ha hb e h1)
      rw [bd_ow_n h1, bd_ow_n h2]
      unfold bd_kc
      rw [q, e]
theorem bd_L0 (hC : bd_C W H p L) {x : Nat} (hx : bd_in W H x) (h0 : L x = 0) : p x = 0 := by
  rcases hC.2.2.2.2.1 x with z | z
  · exact z
  · obtain ⟨_, _, a3⟩ := bd_kc_fg hC hx z
    omega
theorem bd_pL (hC : bd_C W H p L) {a b : Nat} (ha : bd_in W H a) (hb : bd_in W H b) (e : L a = L b) : p a = p b := by
  by_cases h : L a = 0
  · rw [bd_L0 hC ha h, bd_L0 hC hb (show L b = 0 by omega)]
  · exact (bd_cn_p (bd_same hC ha hb e h)).symm
theorem bd_ow_hk (hC : bd_C W H p L) {c : Nat} (h : bd_hk W H p L c) : bd_ow W H p L (c + 1) = bd_N W H p L c + 1 := by
  have hl := h.2.2.2
  rw [bd_ow_n (by omega)]
  have := (bd_kc_bg hC (bd_hk_in hC h) h.2.2.1 (by omega)).2.2
  have e : bd_kc p L (c + 1) = c := by omega
  rw [e]
theorem bd_key_p (hC : bd_C W H p L) {c : Nat} (h : bd_key W H p L c) : bd_in W H c ∧ p c = 1 := by
  rcases h with h | h
  · exact ⟨h.1, h.2.1⟩
  · exact ⟨h.1, bd_hk_p hC h⟩
theorem bd_near (hC : bd_C W H p L) {c i : Nat} (h : bd_key W H p L c) (hi : bd_in W H i) : (p i = 1 ∧ L i = L c) ↔ bd_ow W H p L i = bd_ow W H p L c := by
  obtain ⟨h1, h2⟩ := bd_key_p hC h
  rw [bd_ow_iff hC hi h1]
  exact ⟨fun z => z.2, fun z => ⟨(bd_pL hC hi h1 z).trans h2, z⟩⟩
theorem bd_farI (hC : bd_C W H p L) {c i : Nat} (h : bd_key W H p L c) (hi : bd_in W H i) : (p i = 0 ∧ L i = bd_bl W H p L c) ↔ bd_ow W H p L i = bd_bo W H p L c := by
  unfold bd_bl bd_bo
  by_cases ho : bd_ok W H p L c
  · rw [if_pos ho, if_pos ho]
    by_cases hx : c % 16 = 0
    · rw [if_pos hx, if_pos hx]
      constructor
      · intro z
        exact bd_ow_0 z.2
      · intro z
        have : L i = 0 := by
          by_cases h0 : L i = 0
          · exact h0
          · rw [bd_ow_n h0] at z; omega
        exact ⟨bd_L0 hC hi this, this⟩
    · rw [if_neg hx, if_neg hx]
      obtain ⟨h1, h2⟩ := bd_left hC ho hx
      rw [bd_ow_iff hC hi h1]
      exact ⟨fun z => z.2, fun z => ⟨(bd_pL hC hi h1 z).trans h2, z⟩⟩
  · rw [if_neg ho, if_neg ho]
    have hh : bd_hk W H p L c := h.resolve_left ho
    have h1 := bd_hk_in hC hh
    rw [bd_ow_iff hC hi h1]
    exact ⟨fun z => z.2, fun z => ⟨(bd_pL hC hi h1 z).trans hh.2.2.1, z⟩⟩
theorem bd_farO (hC : bd_C W H p L) {c : Nat} (h : bd_key W H p L c) : bd_bl W H p L c = 0 ↔ 0 = bd_bo W H p L c := by
  unfold bd_bl bd_bo
  by_cases ho : bd_ok W H p L c
  · rw [if_pos ho, if_pos ho]
    by_cases hx : c % 16 = 0
    · rw [if_pos hx, if_pos hx]
    · rw [if_neg hx, if_neg hx]
      by_cases h0 : L (c - 1) = 0
      · rw [bd_ow_0 h0]; omega
      · rw [bd_ow_n h0]; omega
  · rw [if_neg ho, if_neg ho]
    have hh : bd_hk W H p L c := h.resolve_left ho
    rw [bd_ow_hk hC hh, hh.2.2.2]
    omega
theorem bd_isb (hC : bd_C W H p L) {c a b : Nat} (h : bd_key W H p L c) :
    (bd_kd W H p L c = 1 → ((a = bd_N W H p L c + 1 ∧ b = bd_pv W H p L c) ↔ (a = bd_ow W H p L c ∧ b = bd_bo W H p L c))) ∧
    (¬ bd_kd W H p L c = 1 → ((a = bd_pv W H p L c ∧ b = bd_N W H p L c + 1) ↔ (a = bd_ow W H p L c ∧ b = bd_bo W H p L c))) := by
  unfold bd_kd bd_pv bd_bo
  by_cases ho : bd_ok W H p L c
  · rw [if_pos ho, if_pos ho, if_pos ho, bd_ow_ok hC ho]
    exact ⟨fun _ => Iff.rfl, fun z => absurd rfl z⟩
  · rw [if_neg ho, if_neg ho, if_neg ho, bd_ow_hk hC (h.resolve_left ho)]
    exact ⟨fun z => absurd z (by decide), fun _ => Iff.rfl⟩
end
def bd_dc (x : Int32) : Nat := (x.toInt + 1).toNat
theorem bd_dc_cd {a : Nat} (h : a < 2 ^ 31) : bd_dc (bd_cd a) = a := by
  unfold bd_dc
  rw [bd_cd_toInt h]
  omega
end
section
/-! the relaxation ends at the labels; the flood fills a component: pure -/
noncomputable def bd_nf (W H : Nat) (L s : Nat → Nat) : Nat := bd_ct (fun i => bd_in W H i ∧ s i ≠ L i) 256
def bd_lo (W H : Nat) (L s : Nat → Nat) : Prop := ∀ i, bd_in W H i → L i ≤ s i
def bd_src (W H : Nat) (p : Nat → Int32) (s : Nat → Nat) : Prop := ∀ i, bd_in W H i → s i ≤ i + 1 ∧ (p i = 0 → bd_rim W H i → s i = 0)
def bd_pass (W H : Nat) (p : Nat → Int32) (L s s' : Nat → Nat) : Prop :=
  (∀ i, bd_in W H i → L i ≤ s' i ∧ s' i ≤ s i) ∧ (∀ i q, bd_adj W H p i q → s' i ≤ s q)
section
variable {W H : Nat} {p : Nat → Int32} {L : Nat → Nat}
theorem bd_nf_0 (hC : bd_C W H p L) {s : Nat → Nat} (h : bd_nf W H L s = 0) {i : Nat} (hi : bd_in W H i) : s i = L i := by
  by_cases e : s i = L i
  · exact e
  · have := bd_ct_lt (P := fun _ => False) (Q := fun i => bd_in W H i ∧ s i ≠ L i) (a := i) (fun z => z) ⟨hi, e⟩ (N := 256) (fun _ _ z => z.elim) (bd_in_lt hC hi)
    unfold bd_nf at h
    omega
theorem bd_prog (hC : bd_C W H p L) {s s' : Nat → Nat} (hl : bd_lo W H L s) (hs : bd_src W H p s) (hp : bd_pass W H p L s s') (h0 : 0 < bd_nf W H L s) : bd_nf W H L s' < bd_nf W H L s := by
  obtain ⟨i, hi, hin, hne⟩ := bd_ct_ex h0
  have key : ∃ a b, bd_adj W H p a b ∧ s a = L a ∧ s b ≠ L b := by
    apply Classical.byContradiction
    intro hno
    have hcl : ∀ c d, s c = L c → bd_adj W H p c d → s d = L d := fun c d hc e =>
      Classical.byContradiction fun z => hno ⟨c, d, e, hc, z⟩
    rcases hC.2.2.2.2.2.2.1 i hin with ⟨e0, e1, j, hj, jin, jr⟩ | ⟨r, e1, hr, hj, rin, rL, _⟩
    · have q0 : s j = 0 := (hs j jin).2 ((bd_cn_p hj).trans e0) jr
      have q1 : L j = 0 := (bd_L_cn hC hj).symm.trans e1
      exact hne (bd_cn_symm hj (fun x => s x = L x) (q0.trans q1.symm) hcl)
    · have q0 := (hs r rin).1
      have q1 := hl r rin
      exact hne (bd_cn_symm hj (fun x => s x = L x) (by show s r = L r; omega) hcl)
  obtain ⟨a, b, hab, ha, hb⟩ := key
  have hbin := hab.2.1
  have e1 := hp.2 b a (bd_adj_symm hab)
  have e2 := (hp.1 b hbin).1
  have e3 := bd_L_adj hC hab
  refine bd_ct_lt (a := b) (fun z => z.2 (by omega)) ⟨hbin, hb⟩ (fun k _ z => ⟨z.1, fun y => z.2 ?_⟩) (bd_in_lt hC hbin)
  have := hp.1 k z.1
  omega
theorem bd_pass_lo {s s' : Nat → Nat} (hp : bd_pass W H p L s s') : bd_lo W H L s' := fun i hi => (hp.1 i hi).1
theorem bd_pass_src {s s' : Nat → Nat} (hp : bd_pass W H p L s s') (hs : bd_src W H p s) : bd_src W H p s' := fun i hi => by
  have h1 := (hp.1 i hi).2
  have h2 := hs i hi
  exact ⟨by omega, fun a b => by have := h2.2 a b; omega⟩
theorem bd_pass_nf (hC : bd_C W H p L) {s s' : Nat → Nat} {t : Nat} (hl : bd_lo W H L s) (hs : bd_src W H p s) (hp : bd_pass W H p L s s') (h : bd_nf W H L s = 0 ∨ t + bd_nf W H L s ≤ 256) : bd_nf W H L s' = 0 ∨ t + 1 + bd_nf W H L s' ≤ 256 := by
  rcases Nat.eq_zero_or_pos (bd_nf W H L s) with z | z
  · left
    refine bd_ct_z fun k hk y => y.2 ?_
    have e := bd_nf_0 hC z y.1
    have := hp.1 k y.1
    omega
  · have := bd_prog hC hl hs hp z
    omega
theorem bd_pass_fix (hC : bd_C W H p L) {s s' : Nat → Nat} (hl : bd_lo W H L s) (hs : bd_src W H p s) (hp : bd_pass W H p L s s') (he : ∀ i, bd_in W H i → s' i = s i) {i : Nat} (hi : bd_in W H i) : s' i = L i := by
  rw [he i hi]
  apply bd_nf_0 hC _ hi
  rcases Nat.eq_zero_or_pos (bd_nf W H L s) with z | z
  · exact z
  · have h1 := bd_prog hC hl hs hp z
    have h2 : bd_nf W H L s' = bd_nf W H L s := bd_ct_eq fun k _ => ⟨fun y => ⟨y.1, by rw [← he k y.1]; exact y.2⟩, fun y => ⟨y.1, by rw [he k y.1]; exact y.2⟩⟩
    omega
end
/-! the flood -/
def bd_FI (W H : Nat) (p lab0 : Nat → Int32) (f : Nat) (lb : Int32) (lab q : Nat → Int32) (n : Nat) : Prop :=
  (∀ j, lab j = lab0 j ∨ (lab j = lb ∧ bd_cn W H p f j)) ∧
  (∀ m, m < n → ∃ c, q m = nI c ∧ bd_cn W H p f c ∧ lab c = lb) ∧
  (∀ j, bd_cn W H p f j → lab j ≠ -2 → ∃ m, m < n ∧ q m = nI j) ∧
  bd_ct (fun j => lab j = -2) 256 + n ≤ 256 ∧ lab f = lb
def bd_FP (W H : Nat) (p lab q : Nat → Int32) (n : Nat) : Prop := ∀ m, m < n → ∀ c, c < 256 → q m = nI c → ∀ d, bd_adj W H p c d → lab d ≠ -2
section
variable {W H : Nat} {p lab0 : Nat → Int32} {f : Nat} {lb : Int32}
theorem bd_FI_0 (hf : f < 256) (h0 : ∀ j, bd_cn W H p f j → lab0 j = -2) (hb : lb ≠ -2) (q : Nat → Int32) : bd_FI W H p lab0 f lb (upd lab0 f lb) (upd q 0 (nI f)) 1 := by
  have hs : upd lab0 f lb f = lb := if_pos rfl
  refine ⟨fun j => ?_, fun m hm => ⟨f, ?_, bd_cn_refl, hs⟩, fun j hj hn => ⟨0, by omega, ?_⟩, ?_, hs⟩
  · by_cases e : j = f
    · subst e
      exact Or.inr ⟨hs, bd_cn_refl⟩
    · exact Or.inl (if_neg e)
  · have : m = 0 := by omega
    subst this
    exact if_pos rfl
  · by_cases e : j = f
    · subst e
      exact if_pos rfl
    · exact absurd ((if_neg e : upd lab0 f lb j = lab0 j).trans (h0 j hj)) hn
  · have := bd_ct_lt (P := fun j => upd lab0 f lb j = -2) (Q := fun _ => True) (a := f) (fun z => hb (hs.symm.trans z)) trivial (N := 256) (fun _ _ _ => trivial) hf
    have := bd_ct_le (fun _ => True) 256
    omega
theorem bd_FI_lt {lab q : Nat → Int32} {n d : Nat} (h : bd_FI W H p lab0 f lb lab q n) (hd : d < 256) (h2 : lab d = -2) : n < 256 := by
  have := bd_ct_lt (P := fun _ => False) (Q := fun j => lab j = -2) (a := d) (fun z => z) h2 (N := 256) (fun _ _ z => z.elim) hd
  have := h.2.2.2.1
  omega
theorem bd_FI_push (hb : lb ≠ -2) {lab q : Nat → Int32} {n d : Nat} (h : bd_FI W H p lab0 f lb lab q n) (hd : d < 256) (hc : bd_cn W H p f d) (h2 : lab d = -2) :
    bd_FI W H p lab0 f lb (upd lab d lb) (upd q n (nI d)) (n + 1) := by
  obtain ⟨f1, f2, f3, f4, f5⟩ := h
  have hs : upd lab d lb d = lb := if_pos rfl
  refine ⟨fun j => ?_, fun m hm => ?_, fun j hj hn => ?_, ?_, ?_⟩
  · by_cases e : j = d
    · subst e
      exact Or.inr ⟨hs, hc⟩
    · have : upd lab d lb j = lab j := if_neg e
      rw [this]
      exact f1 j
  · by_cases e : m = n
    · subst e
      exact ⟨d, if_pos rfl, hc, hs⟩
    · obtain ⟨c, c1, c2, c3⟩ := f2 m (by omega)
      have e1 : upd q n (nI d) m = q m := if_neg e
      refine ⟨c, e1.trans c1, c2, ?_⟩
      by_cases e2 : c = d
      · subst e2; exact hs
      · exact (if_neg e2 : upd lab d lb c = lab c).trans c3
  · by_cases e : j = d
    · subst e
      exact ⟨n, by omega, if_pos rfl⟩
    · have e1 : upd lab d lb j = lab j := if_neg e
      rw [e1] at hn
      obtain ⟨m, m1, m2⟩ := f3 j hj hn
      exact ⟨m, by omega, (if_neg (by omega) : upd q n (nI d) m = q m).trans m2⟩
  · have := bd_ct_lt (P := fun j => upd lab d lb j = -2) (Q := fun j => lab j = -2) (a := d) (fun z => hb (hs.symm.trans z)) h2 (N := 256) (fun k _ z => by
      by_cases e : k = d
      · subst e; exact h2
      · exact (if_neg e : upd lab d lb k = lab k).symm.trans z) hd
    omega
  · by_cases e : f = d
    · subst e; exact hs
    · exact (if_neg e : upd lab d lb f = lab f).trans f5
theorem bd_FP_push (hb : lb ≠ -2) {lab q : Nat → Int32} {n m d : Nat} (hm : m ≤ n) (h : bd_FP W H p lab q m) : bd_FP W H p (upd lab d lb) (upd q n (nI d)) m := by
  intro k hk c hc e x hx
  have e1 : upd q n (nI d) k = q k := if_neg (by omega)
  have := h k hk c hc (e1.symm.trans e) x hx
  by_cases e2 : x = d
  · subst e2
    exact fun z => hb ((if_pos rfl : upd lab x lb x = lb).symm.trans z)
  · exact fun z => this ((if_neg e2 : upd lab d lb x = lab x).symm.trans z)
theorem bd_FI_end (hin : ∀ j, bd_cn W H p f j → j < 256) (h0 : ∀ j, bd_cn W H p f j → lab0 j = -2) (hb : lb ≠ -2) {lab q : Nat → Int32} {n m : Nat} (h : bd_FI W H p lab0 f lb lab q n) (hp : bd_FP W H p lab q m) (hm : n ≤ m) (j : Nat) :
    (bd_cn W H p f j → lab j = lb) ∧ (¬ bd_cn W H p f j → lab j = lab0 j) := by
  obtain ⟨f1, f2, f3, f4, f5⟩ := h
  constructor
  · intro hc
    have := hc (fun x => lab x ≠ -2 ∧ bd_cn W H p f x) ⟨by rw [f5]; exact hb, bd_cn_refl⟩ (fun c d hcd e => by
      obtain ⟨k, k1, k2⟩ := f3 c hcd.2 hcd.1
      exact ⟨hp k (by omega) c (hin c hcd.2) k2 d e, bd_cn_step hcd.2 e⟩)
    rcases f1 j with z | z
    · exact absurd (z.trans (h0 j hc)) this.1
    · exact z.1
  · intro hc
    rcases f1 j with z | z
    · exact z
    · exact absurd z.2 hc
end
/-! directions: 0 .. 7, their steps plus one -/
def bd_sx : Nat → Nat
  | 1 => 2
  | 3 => 0
  | 4 => 0
  | 5 => 2
  | 6 => 0
  | 7 => 2
  | _ => 1
def bd_sy : Nat → Nat
  | 0 => 0
  | 2 => 2
  | 4 => 0
  | 5 => 0
  | 6 => 2
  | 7 => 2
  | _ => 1
theorem bd_dirs {u w : Nat} (hu : u ≤ 2) (hw : w ≤ 2) : (u = 1 ∧ w = 1) ∨ (∃ d, d < 8 ∧ u = bd_sx d ∧ w = bd_sy d) := by
  have h1 : u = 0 ∨ u = 1 ∨ u = 2 := by omega
  have h2 : w = 0 ∨ w = 1 ∨ w = 2 := by omega
  rcases h1 with rfl | rfl | rfl <;> rcases h2 with rfl | rfl | rfl
  · exact Or.inr ⟨4, by omega, rfl, rfl⟩
  · exact Or.inr ⟨3, by omega, rfl, rfl⟩
  · exact Or.inr ⟨6, by omega, rfl, rfl⟩
  · exact Or.inr ⟨0, by omega, rfl, rfl⟩
  · exact Or.inl ⟨rfl, rfl⟩
  · exact Or.inr ⟨2, by omega, rfl, rfl⟩
  · exact Or.inr ⟨5, by omega, rfl, rfl⟩
  · exact Or.inr ⟨1, by omega, rfl, rfl⟩
  · exact Or.inr ⟨7, by omega, rfl, rfl⟩
theorem bd_dirs4 {u w : Nat} (hu : u ≤ 2) (hw : w ≤ 2) (h : u = 1 ∨ w = 1) : (u = 1 ∧ w = 1) ∨ (∃ d, d < 4 ∧ u = bd_sx d ∧ w = bd_sy d) := by
  have h1 : u = 0 ∨ u = 1 ∨ u = 2 := by omega
  have h2 : w = 0 ∨ w = 1 ∨ w = 2 := by omega
  rcases h1 with rfl | rfl | rfl <;> rcases h2 with rfl | rfl | rfl
  · omega
  · exact Or.inr ⟨3, by omega, rfl, rfl⟩
  · omega
  · exact Or.inr ⟨0, by omega, rfl, rfl⟩
  · exact Or.inl ⟨rfl, rfl⟩
  · exact Or.inr ⟨2, by omega, rfl, rfl⟩
  · omega
  · exact Or.inr ⟨1, by omega, rfl, rfl⟩
  · omega
theorem bd_adj_dir {W H : Nat} {p : Nat → Int32} {c d : Nat} (h : bd_adj W H p c d) (h01 : p c = 0 ∨ p c = 1) :
    d = c ∨ ∃ s, s < (if p c = 1 then 8 else 4) ∧ d % 16 + 1 = c % 16 + bd_sx s ∧ d / 16 + 1 = c / 16 + bd_sy s := by
  obtain ⟨_, _, _, ⟨a1, a2, a3, a4⟩, a5⟩ := h
  have hu : d % 16 + 1 - c % 16 ≤ 2 := by omega
  have hw : d / 16 + 1 - c / 16 ≤ 2 := by omega
  rcases h01 with e | e
  · rw [if_neg (by rw [e]; exact bd_01)]
    rcases bd_dirs4 hu hw (by rcases a5 e with z | z <;> omega) with ⟨z1, z2⟩ | ⟨s, s1, s2, s3⟩
    · exact Or.inl (by omega)
    · exact Or.inr ⟨s, s1, by omega, by omega⟩
  · rw [if_pos e]
    rcases bd_dirs hu hw with ⟨z1, z2⟩ | ⟨s, s1, s2, s3⟩
    · exact Or.inl (by omega)
    · exact Or.inr ⟨s, s1, by omega, by omega⟩
end
section
/-! one crack, counted at both regions: pure -/
def bd_inc (P : Prop) (k : Nat) (l l' : Nat → Int32) : Prop := (P → l' = upd l k (l k + 1)) ∧ (¬ P → l' = l)
def bd_E (W H : Nat) (p : Nat → Int32) (L : Nat → Nat) (a b c : Nat) : Prop := a = bd_ow W H p L c ∧ b = bd_bo W H p L c
section
variable {W H : Nat} {p : Nat → Int32} {L : Nat → Nat}
theorem bd_ob (hC : bd_C W H p L) {c : Nat} (h : bd_key W H p L c) :
    (bd_ow W H p L c = bd_N W H p L c + 1 ∧ bd_bo W H p L c ≤ bd_N W H p L c) ∨ (bd_ow W H p L c ≤ bd_N W H p L c ∧ bd_bo W H p L c = bd_N W H p L c + 1) := by
  have hp := bd_pv_le hC h
  unfold bd_pv at hp
  unfold bd_bo
  by_cases ho : bd_ok W H p L c
  · rw [if_pos ho] at hp ⊢
    exact Or.inl ⟨bd_ow_ok hC ho, hp⟩
  · rw [if_neg ho] at hp ⊢
    exact Or.inr ⟨hp, bd_ow_hk hC (h.resolve_left ho)⟩
theorem bd_len (hC : bd_C W H p L) {a b : Nat} {l l1 l2 : Nat → Int32}
    (h1 : bd_inc (∃ c, bd_key W H p L c ∧ a = bd_N W H p L c + 1 ∧ bd_E W H p L a b c) (a - 1) l l1)
    (h2 : bd_inc (∃ c, bd_key W H p L c ∧ b = bd_N W H p L c + 1 ∧ bd_E W H p L a b c) (b - 1) l1 l2)
    {c : Nat} (h : bd_key W H p L c) : (bd_E W H p L a b c → l2 (bd_N W H p L c) = l (bd_N W H p L c) + 1) ∧ (¬ bd_E W H p L a b c → l2 (bd_N W H p L c) = l (bd_N W H p L c)) := by
  have hob := bd_ob hC h
  have n1 : ∀ P : Prop, (P ∨ ¬ P) := Classical.em
  have s1 : (a = bd_N W H p L c + 1 ∧ bd_E W H p L a b c → l1 (bd_N W H p L c) = l (bd_N W H p L c) + 1) ∧ (¬ (a = bd_N W H p L c + 1 ∧ bd_E W H p L a b c) → l1 (bd_N W H p L c) = l (bd_N W H p L c)) := by
    constructor
    · intro ⟨e1, e2⟩
      rw [h1.1 ⟨c, h, e1, e2⟩, show a - 1 = bd_N W H p L c from by omega]
      exact pk_us
    · intro hn
      rcases n1 (∃ c, bd_key W H p L c ∧ a = bd_N W H p L c + 1 ∧ bd_E W H p L a b c) with z | z
      · rw [h1.1 z]
        obtain ⟨d, hd, e1, e2⟩ := z
        refine pk_un fun y => hn ?_
        have : d = c := bd_N_inj hd h (by omega)
        subst this
        exact ⟨e1, e2⟩
      · rw [h1.2 z]
  have s2 : (b = bd_N W H p L c + 1 ∧ bd_E W H p L a b c → l2 (bd_N W H p L c) = l1 (bd_N W H p L c) + 1) ∧ (¬ (b = bd_N W H p L c + 1 ∧ bd_E W H p L a b c) → l2 (bd_N W H p L c) = l1 (bd_N W H p L c)) := by
    constructor
    · intro ⟨e1, e2⟩
      rw [h2.1 ⟨c, h, e1, e2⟩, show b - 1 = bd_N W H p L c from by omega]
      exact pk_us
    · intro hn
      rcases n1 (∃ c, bd_key W H p L c ∧ b = bd_N W H p L c + 1 ∧ bd_E W H p L a b c) with z | z
      · rw [h2.1 z]
        obtain ⟨d, hd, e1, e2⟩ := z
        refine pk_un fun y => hn ?_
        have : d = c := bd_N_inj hd h (by omega)
        subst this
        exact ⟨e1, e2⟩
      · rw [h2.2 z]
  constructor
  · intro he
    have ea := he.1
    have eb := he.2
    rcases hob with ⟨o1, o2⟩ | ⟨o1, o2⟩
    · rw [s2.2 (fun z => by have := z.1; omega)]
      exact s1.1 ⟨by omega, he⟩
    · rw [s2.1 ⟨by omega, he⟩, s1.2 (fun z => by have := z.1; omega)]
  · intro hn
    rw [s2.2 (fun z => hn z.2), s1.2 (fun z => hn z.2)]
end
/-! even-odd: the kinds alternate along the parents, so the toggles of a chain leave the kind's colour -/
def bd_fl (pp : Nat → Nat) (q : Nat) : Nat → Bool
  | 0 => false
  | k + 1 => if bd_a pp k q = true then !(bd_fl pp q k) else bd_fl pp q k
end
section
/-! small walks: pixels, indices, steps, both sides -/
theorem bd_ri (a b : Nat) : nI b * 16 + nI a = nI (b * 16 + a) := by
  rw [show (16 : Int32) = nI 16 from rfl, pk_mul, nI_add]
theorem bd_add (a : Nat) : ∀ u : Nat, nI a + bd_cd u = bd_cd (a + u)
  | 0 => by
    cases a with
    | zero => decide +kernel
    | succ a => exact pk_m1 a
  | u + 1 => by rw [bd_cd_s, nI_add]; rfl
theorem bd_m15 {n : Nat} (h : n < 256) : nI n &&& 15 = nI (n % 16) := pk_andN (by omega) 4 (by decide)
theorem bd_s4 {n : Nat} (h : n < 256) : nI n >>> ((4 : Int32) &&& 31) = nI (n / 16) := pk_shrN (by omega) _ 4 (by decide)
theorem bd_16 : ¬ (16 : Int32) = 0 := by decide
section
variable {W H : Nat} {tr tt : Int32} {px fl lb qu kn pa st ln ar ii fg bg : Nat → Int32}
theorem x_pix {post : Int32 → Prop} {x y : Int32} (hW : W ≤ 16) (hH : H ≤ 16) (h1 : ∀ a b, x = nI a → y = nI b → a < W → b < H → post 1)
    (h0 : (∀ a b, x = nI a → y = nI b → a < W → b < H → False) → post 0) : wpX_isPixel post (nI W, nI H, tr, tt, px, fl, lb, qu, kn, pa, st, ln, ar, ii) x y := by
  rcases pk_ix x (n := W) (by omega) with hx | hx | ⟨a, ha, rfl⟩
  · exact br_t hx (h0 fun a b e _ ha _ => nI_pos (n := a) (by omega) (e ▸ hx))
  · refine br_c (fun _ => h0 ?_) (fun _ => br_t hx (h0 ?_)) <;> exact fun a b e _ ha _ => nI_ge ha (by omega) (e ▸ hx)
  · refine br_f (nI_pos (by omega)) (br_f (nI_ge ha (by omega)) ?_)
    rcases pk_ix y (n := H) (by omega) with hy | hy | ⟨b, hb, rfl⟩
    · exact br_t hy (h0 fun c b _ e _ hb => nI_pos (n := b) (by omega) (e ▸ hy))
    · refine br_c (fun _ => h0 ?_) (fun _ => br_t hy (h0 ?_)) <;> exact fun c b _ e _ hb => nI_ge hb (by omega) (e ▸ hy)
    · exact br_f (nI_pos (by omega)) (br_f (nI_ge hb (by omega)) (h1 a b rfl rfl ha hb))
theorem x_ri {post : Int32 → Prop} {a b : Nat} (h : post (nI (b * 16 + a))) : wpX_rasterIndex post () (nI a) (nI b) := by
  unfold wpX_rasterIndex
  rw [bd_ri]
  exact h
theorem x_unl {post : Int32 → Prop} {x y v : Int32} (hW : W ≤ 16) (hH : H ≤ 16)
    (h1 : ∀ a b, x = nI a → y = nI b → a < W → b < H → px (b * 16 + a) = v → lb (b * 16 + a) = -2 → post 1)
    (h0 : (∀ a b, x = nI a → y = nI b → a < W → b < H → px (b * 16 + a) = v → lb (b * 16 + a) = -2 → False) → post 0) : wpX_isUnlabelled post (nI W, nI H, tr, tt, px, fl, lb, qu, kn, pa, st, ln, ar, ii) x y v := by
  unfold wpX_isUnlabelled
  refine x_pix hW hH (fun a b ex ey ha hb => br_f bd_10 ?_) (fun hn => br_t rfl (h0 fun a b ex ey ha hb _ _ => hn a b ex ey ha hb))
  have hl := fun e => h1 a b ex ey ha hb e
  subst ex ey
  have hv : vp_in (nI (b * 16 + a)) 256 := vp_in_nI (by omega) (by omega)
  refine x_ri ⟨hv, ?_⟩
  rw [nI_clamp (by omega)]
  refine br_c (fun e1 => ⟨hv, br_c (fun e2 => hl e1 e2) (fun e2 => h0 ?_)⟩) (fun e1 => h0 ?_)
  · intro a' b' ea eb ha' hb' _ e4
    rw [nI_eq (by omega) (by omega)] at ea eb
    subst ea eb
    exact e2 e4
  · intro a' b' ea eb ha' hb' e3 _
    rw [nI_eq (by omega) (by omega)] at ea eb
    subst ea eb
    exact e1 e3
theorem x_labAt {post : Int32 → Prop} {x y : Int32} (hW : W ≤ 16) (hH : H ≤ 16)
    (h1 : ∀ a b, x = nI a → y = nI b → a < W → b < H → post (lb (b * 16 + a)))
    (h0 : (∀ a b, x = nI a → y = nI b → a < W → b < H → False) → post (-1)) : wpX_labelAt post (nI W, nI H, tr, tt, px, fl, lb, qu, kn, pa, st, ln, ar, ii) x y := by
  unfold wpX_labelAt
  refine x_pix hW hH (fun a b ex ey ha hb => br_f bd_10 ?_) (fun hn => br_t rfl (h0 hn))
  have hl := h1 a b ex ey ha hb
  subst ex ey
  refine x_ri ⟨vp_in_nI (by omega) (by omega), ?_⟩
  rw [nI_clamp (by omega)]
  exact hl
theorem x_stepX {post : Int32 → Prop} {s : Nat} (hs : s < 8) (h : post (bd_cd (bd_sx s))) : wpX_stepX post () (nI s) := by
  have hc : s = 0 ∨ s = 1 ∨ s = 2 ∨ s = 3 ∨ s = 4 ∨ s = 5 ∨ s = 6 ∨ s = 7 := by omega
  rcases hc with rfl | rfl | rfl | rfl | rfl | rfl | rfl | rfl <;>
    repeat (first | exact h | refine br_t (by decide +kernel) ?_ | refine br_f (by decide +kernel) ?_)
theorem x_stepY {post : Int32 → Prop} {s : Nat} (hs : s < 8) (h : post (bd_cd (bd_sy s))) : wpX_stepY post () (nI s) := by
  have hc : s = 0 ∨ s = 1 ∨ s = 2 ∨ s = 3 ∨ s = 4 ∨ s = 5 ∨ s = 6 ∨ s = 7 := by omega
  rcases hc with rfl | rfl | rfl | rfl | rfl | rfl | rfl | rfl <;>
    repeat (first | exact h | refine br_t (by decide +kernel) ?_ | refine br_f (by decide +kernel) ?_)
theorem x_isC {post : Int32 → Prop} {x : Int32} {t : Nat} (ht : t ≤ 256) (h1 : ∀ k, x = nI k → k < t → post 1) (h0 : (∀ k, x = nI k → k < t → False) → post 0) : wpX_isContour post (nI W, nI H, tr, nI t, px, fl, lb, qu, kn, pa, st, ln, ar, ii) x := by
  rcases pk_ix x (n := t) (by omega) with hx | hx | ⟨a, ha, rfl⟩
  · exact br_t hx (h0 fun a e ha => nI_pos (n := a) (by omega) (e ▸ hx))
  · refine br_c (fun _ => h0 ?_) (fun _ => br_t hx (h0 ?_)) <;> exact fun a e ha => nI_ge ha (by omega) (e ▸ hx)
  · exact br_f (nI_pos (by omega)) (br_f (nI_ge ha (by omega)) (h1 a rfl ha))
/-! clearing -/
theorem x_clr2 {post : St2 → Prop} (h : post (nI W, nI H, tr, tt, px, fun _ => 0, lb, qu, kn, pa, st, ln, ar, ii)) : ∀ d i, i + d = 256 → ∀ n, d < n → ∀ fl : Nat → Int32, (∀ j, j < i → fl j = 0) → (∀ j, 256 ≤ j → fl j = 0) → wX_clearFill_2 post (nI W) (nI H) tr tt n (nI i) px fl lb qu kn pa st ln ar ii := by
  intro d
  induction d with
  | zero =>
    intro i hi n hn fl h0 h1
    obtain ⟨n, rfl⟩ : ∃ m, n = m + 1 := ⟨n - 1, by omega⟩
    have e : fl = fun _ => 0 := by
      funext j
      rcases Nat.lt_or_ge j 256 with z | z
      · exact h0 j (by omega)
      · exact h1 j z
    subst e
    exact br_t (nI_le (a := 256) (by omega) (by omega)) h
  | succ d ih =>
    intro i hi n hn fl h0 h1
    obtain ⟨n, rfl⟩ : ∃ m, n = m + 1 := ⟨n - 1, by omega⟩
    refine br_f (nI_ge (b := 256) (by omega) (by omega)) ⟨vp_in_nI (by omega) (by omega), nm_r (congrArg (fun z => upd fl z 0) (nI_clamp (by omega))) (nm_r (nI_1 i) (ih (i + 1) (by omega) n (by omega) _ ?_ ?_))⟩
    · intro j hj
      by_cases e : j = i
      · subst e; exact pk_us
      · exact (pk_un e).trans (h0 j (by omega))
    · intro j hj
      exact (pk_un (by omega)).trans (h1 j hj)
theorem x_clr {post : St2 → Prop} (h : post (nI W, nI H, tr, tt, px, fun _ => 0, lb, qu, kn, pa, st, ln, ar, ii)) (h1 : ∀ j, 256 ≤ j → fl j = 0) : wpX_clearFill post (nI W, nI H, tr, tt, px, fl, lb, qu, kn, pa, st, ln, ar, ii) :=
  ⟨257, x_clr2 h 256 0 rfl 257 (by omega) fl (fun j hj => absurd hj (Nat.not_lt_zero j)) h1⟩
theorem x_inv {post : St2 → Prop} (h : post (nI W, nI H, 0, 0, px, fun _ => 0, lb, qu, kn, pa, st, ln, ar, ii)) (h1 : ∀ j, 256 ≤ j → fl j = 0) : wpX_invalidate post (nI W, nI H, tr, tt, px, fl, lb, qu, kn, pa, st, ln, ar, ii) := by
  unfold wpX_invalidate
  exact x_clr h h1
end
end
section
/-! labelComponent: the flood -/
theorem bd_d4 {s : Nat} (h : s < 4) : bd_sx s = 1 ∨ bd_sy s = 1 := by
  have hc : s = 0 ∨ s = 1 ∨ s = 2 ∨ s = 3 := by omega
  rcases hc with rfl | rfl | rfl | rfl
  · exact Or.inl rfl
  · exact Or.inr rfl
  · exact Or.inl rfl
  · exact Or.inr rfl
theorem bd_d8 {s : Nat} (h : s < 8) : bd_sx s ≤ 2 ∧ bd_sy s ≤ 2 := by
  have hc : s = 0 ∨ s = 1 ∨ s = 2 ∨ s = 3 ∨ s = 4 ∨ s = 5 ∨ s = 6 ∨ s = 7 := by omega
  rcases hc with rfl | rfl | rfl | rfl | rfl | rfl | rfl | rfl <;> decide
def bd_D (v : Int32) : Nat := if v = 1 then 8 else 4
theorem bd_D8 (v : Int32) : bd_D v ≤ 8 := by
  unfold bd_D
  by_cases h : v = 1
  · rw [if_pos h]; omega
  · rw [if_neg h]; omega
/-- the neighbours of c in the directions below s are labelled -/
def bd_Q (W H : Nat) (p lab : Nat → Int32) (c s : Nat) : Prop :=
  ∀ r, r < s → ∀ d, bd_in W H d → p d = p c → d % 16 + 1 = c % 16 + bd_sx r → d / 16 + 1 = c / 16 + bd_sy r → lab d ≠ -2
section
variable {W H : Nat} {tr tt : Int32} {px fl lb qu kn pa st ln ar ii fg bg : Nat → Int32} {lab0 : Nat → Int32} {f : Nat} {v : Int32}
theorem x_fl70 {post : St2 → Prop} {J : Int32 → Int32 → (Nat → Int32) → (Nat → Int32) → (Nat → Int32) → (Nat → Int32) → (Nat → Int32) → (Nat → Int32) → (Nat → Int32) → (Nat → Int32) → (Nat → Int32) → (Nat → Int32) → Prop}
    (hW : W ≤ 16) (hH : H ≤ 16) (h01 : ∀ i, px i = 0 ∨ px i = 1) (hv : v ≠ -2) {m c : Nat} (hm : m < 256) (hci : bd_in W H c) (hcf : bd_cn W H px f c)
    (hJ : ∀ q lb qu, bd_FI W H px lab0 f v lb qu q → bd_FP W H px lb qu (m + 1) → m + 1 ≤ q → J (nI q) (nI (m + 1)) px fl lb qu kn pa st ln ar ii) :
    ∀ e s, s + e = bd_D (px f) → ∀ n, e < n → ∀ q lb qu, bd_FI W H px lab0 f v lb qu q → bd_FP W H px lb qu m → m < q → qu m = nI c → bd_Q W H px lb c s →
      wX_labelComponent_70 post J v (px f) (nI (bd_D (px f))) (nI m) (nI W) (nI H) tr tt n (nI q) (nI s) px fl lb qu kn pa st ln ar ii := by
  have hD := bd_D8 (px f)
  have hc256 : c < 256 := by
    obtain ⟨a, b⟩ := hci
    omega
  have hpc : px c = px f := bd_cn_p hcf
  intro e
  induction e with
  | zero =>
    intro s hs n hn q lb qu hI hP hq hqm hQ
    obtain ⟨n, rfl⟩ : ∃ m, n = m + 1 := ⟨n - 1, by omega⟩
    refine br_t (nI_le (by omega) (by omega)) (nm_r (nI_1 m) (hJ q lb qu hI ?_ (by omega)))
    intro k hk x hx ex d hd
    by_cases ek : k = m
    · subst ek
      rw [hqm] at ex
      have exc : x = c := by
        rw [nI_eq (by omega) (by omega)] at ex
        exact ex.symm
      subst exc
      rcases bd_adj_dir hd (h01 x) with e1 | ⟨r, r1, r2, r3⟩
      · subst e1
        obtain ⟨y, y1, y2, y3⟩ := hI.2.1 k hq
        rw [hqm] at y1
        have hyi := bd_cn_in hcf
        have : d = y := by
          have hy : y < 256 := by
            have h1 := bd_cn_in (bd_cn_trans (bd_cn_symm hcf) y2) hci
            obtain ⟨a, b⟩ := h1
            omega
          rw [nI_eq (by omega) (by omega)] at y1
          exact y1
        subst this
        rw [y3]
        exact hv
      · refine hQ r ?_ d hd.2.1 hd.2.2.1.symm r2 r3
        rw [hpc] at r1
        unfold bd_D at hs
        omega
    · exact hP k (by omega) x hx ex d hd
  | succ e ih =>
    intro s hs n hn q lb qu hI hP hq hqm hQ
    obtain ⟨n, rfl⟩ : ∃ m, n = m + 1 := ⟨n - 1, by omega⟩
    have hs8 : s < 8 := by omega
    have hsd := bd_d8 hs8
    have hvm : vp_in (nI m) 256 := vp_in_nI hm (by omega)
    have next : ∀ q lb qu, bd_FI W H px lab0 f v lb qu q → bd_FP W H px lb qu m → m < q → qu m = nI c → bd_Q W H px lb c (s + 1) → ∀ z, z = nI s + 1 →
        wX_labelComponent_70 post J v (px f) (nI (bd_D (px f))) (nI m) (nI W) (nI H) tr tt n (nI q) z px fl lb qu kn pa st ln ar ii := by
      intro q lb qu a1 a2 a3 a4 a5 z ez
      rw [ez, nI_1]
      exact ih (s + 1) (by omega) n (by omega) q lb qu a1 a2 a3 a4 a5
    have hx : (qu (nI m).toNatClampNeg - qu (nI m).toNatClampNeg / 16 * 16) + bd_cd (bd_sx s) = bd_cd (c % 16 + bd_sx s) := by
      rw [nI_clamp (by omega), hqm, show (16 : Int32) = nI 16 from rfl, pk_rem (by omega) (by omega) (by omega), bd_add]
    have hy : (qu (nI m).toNatClampNeg / 16) + bd_cd (bd_sy s) = bd_cd (c / 16 + bd_sy s) := by
      rw [nI_clamp (by omega), hqm, show (16 : Int32) = nI 16 from rfl, pk_div (by omega) (by omega) (by omega), bd_add]
    refine br_f (nI_ge (by omega) (by omega)) ⟨hvm, bd_16, x_stepX hs8 (nm_r hx ⟨hvm, bd_16, x_stepY hs8 (nm_r hy ?_)⟩)⟩
    have hQn : ∀ lb, bd_Q W H px lb c s → (∀ d, bd_in W H d → px d = px c → d % 16 + 1 = c % 16 + bd_sx s → d / 16 + 1 = c / 16 + bd_sy s → lb d ≠ -2) → bd_Q W H px lb c (s + 1) := by
      intro lb b1 b2 r hr d d1 d2 d3 d4
      by_cases er : r = s
      · subst er
        exact b2 d d1 d2 d3 d4
      · exact b1 r (by omega) d d1 d2 d3 d4
    by_cases hq2 : q < 256
    · refine br_f (nI_ge (b := 256) hq2 (by omega)) (x_unl hW hH (fun a b ea eb ha hb e1 e2 => br_f bd_10 ?_) (fun hno => br_t rfl (next q lb qu hI hP hq hqm (hQn lb hQ ?_))))
      · rw [bd_cd_nI (by omega) (by omega)] at ea eb
        have d1 : (b * 16 + a) % 16 = a := by omega
        have d2 : (b * 16 + a) / 16 = b := by omega
        have hdi : bd_in W H (b * 16 + a) := ⟨by omega, by omega⟩
        have hadj : bd_adj W H px c (b * 16 + a) := by
          refine ⟨hci, hdi, hpc.trans e1.symm, ⟨by omega, by omega, by omega, by omega⟩, fun z => ?_⟩
          have : s < 4 := by
            rw [hpc] at z
            unfold bd_D at hs
            rw [z, if_neg bd_01] at hs
            omega
          rcases bd_d4 this with y | y
          · exact Or.inl (by omega)
          · exact Or.inr (by omega)
        have hcd := bd_cn_step hcf hadj
        have hd256 : b * 16 + a < 256 := by omega
        have hvq : vp_in (nI q) 256 := vp_in_nI hq2 (by omega)
        have hu : upd qu q (nI (b * 16 + a)) (nI q).toNatClampNeg = nI (b * 16 + a) := by
          rw [nI_clamp (by omega)]
          exact pk_us
        rw [ea, eb, bd_cd_s, bd_cd_s]
        refine x_ri ⟨hvq, nm_r (congrArg (fun z => upd qu z (nI (b * 16 + a))) (nI_clamp (by omega))) ⟨hvq, ?_⟩⟩
        rw [hu]
        refine ⟨vp_in_nI hd256 (by omega), nm_r (congrArg (fun z => upd lb z v) (nI_clamp (by omega))) (nm_r (nI_1 q) ?_)⟩
        refine next (q + 1) _ _ (bd_FI_push hv hI hd256 hcd e2) (bd_FP_push hv (by omega) hP) (by omega) ((pk_un (by omega)).trans hqm) ?_
        have hk : ∀ d, lb d ≠ -2 → upd lb (b * 16 + a) v d ≠ -2 := by
          intro d hd
          by_cases e3 : d = b * 16 + a
          · rw [e3, pk_us]; exact hv
          · rw [pk_un e3]; exact hd
        refine hQn _ (fun r hr d x1 x2 x3 x4 => hk d (hQ r hr d x1 x2 x3 x4)) (fun d x1 x2 x3 x4 => ?_)
        have : d = b * 16 + a := by omega
        rw [this, pk_us]
        exact hv
      · intro d x1 x2 x3 x4 x5
        have x6 : d / 16 * 16 + d % 16 = d := by omega
        refine hno (d % 16) (d / 16) ?_ ?_ x1.1 x1.2 ?_ ?_
        · rw [← x3, bd_cd_s]
        · rw [← x4, bd_cd_s]
        · rw [x6]; exact x2.trans hpc
        · rw [x6]; exact x5
    · refine br_t (nI_le (a := 256) (by omega) (by have := hI.2.2.2.1; omega)) (next q lb qu hI hP hq hqm (hQn lb hQ ?_))
      intro d x1 x2 x3 x4 x5
      have : d < 256 := by
        obtain ⟨a, b⟩ := x1
        omega
      exact hq2 (bd_FI_lt hI this x5)
theorem x_fl52 {post : St2 → Prop} (hW : W ≤ 16) (hH : H ≤ 16) (h01 : ∀ i, px i = 0 ∨ px i = 1) (hv : v ≠ -2) (hf : bd_in W H f)
    (hp : ∀ q m lb qu, bd_FI W H px lab0 f v lb qu q → bd_FP W H px lb qu m → q ≤ m → post (nI W, nI H, tr, tt, px, fl, lb, qu, kn, pa, st, ln, ar, ii)) :
    ∀ e m, m + e = 256 → ∀ n, e < n → ∀ q lb qu, bd_FI W H px lab0 f v lb qu q → bd_FP W H px lb qu m → m ≤ q →
      wX_labelComponent_52 post v (px f) (nI (bd_D (px f))) (nI W) (nI H) tr tt n (nI q) (nI m) px fl lb qu kn pa st ln ar ii := by
  intro e
  induction e with
  | zero =>
    intro m hm n hn q lb qu hI hP hq
    obtain ⟨n, rfl⟩ : ∃ m, n = m + 1 := ⟨n - 1, by omega⟩
    exact br_t (nI_le (a := 256) (by omega) (by omega)) (hp q m lb qu hI hP (by have := hI.2.2.2.1; omega))
  | succ e ih =>
    intro m hm n hn q lb qu hI hP hq
    obtain ⟨n, rfl⟩ : ∃ m, n = m + 1 := ⟨n - 1, by omega⟩
    refine br_f (nI_ge (b := 256) (by omega) (by omega)) ?_
    have hq256 : q ≤ 256 := by have := hI.2.2.2.1; omega
    by_cases hqm : q ≤ m
    · exact br_t (nI_le hqm (by omega)) (hp q m lb qu hI hP hqm)
    · obtain ⟨c, c1, c2, c3⟩ := hI.2.1 m (by omega)
      refine br_f (nI_ge (by omega) (by omega)) ⟨9, ?_⟩
      have hD := bd_D8 (px f)
      refine x_fl70 (lab0 := lab0) hW hH h01 hv (by omega) (bd_cn_in c2 hf) c2 (fun q lb qu a1 a2 a3 => ?_) (bd_D (px f)) 0 (by omega) 9 (by omega) q lb qu hI hP (by omega) c1 (fun r hr => absurd hr (Nat.not_lt_zero r))
      exact ih (m + 1) (by omega) n (by omega) q lb qu a1 a2 a3
theorem x_flood {post : St2 → Prop} {a b : Nat} (hW : W ≤ 16) (hH : H ≤ 16) (h01 : ∀ i, px i = 0 ∨ px i = 1) (hv : v ≠ -2) (ha : a < W) (hb : b < H)
    (h0 : ∀ j, bd_cn W H px (b * 16 + a) j → lb j = -2)
    (hp : ∀ lb' qu', (∀ j, (bd_cn W H px (b * 16 + a) j → lb' j = v) ∧ (¬ bd_cn W H px (b * 16 + a) j → lb' j = lb j)) → post (nI W, nI H, tr, tt, px, fl, lb', qu', kn, pa, st, ln, ar, ii)) :
    wpX_labelComponent post (nI W, nI H, tr, tt, px, fl, lb, qu, kn, pa, st, ln, ar, ii) (nI a) (nI b) v := by
  have hf : bd_in W H (b * 16 + a) := ⟨by omega, by omega⟩
  have hin : ∀ j, bd_cn W H px (b * 16 + a) j → j < 256 := fun j hj => by
    obtain ⟨x, y⟩ := bd_cn_in hj hf
    omega
  have hvi : vp_in (nI (b * 16 + a)) 256 := vp_in_nI (by omega) (by omega)
  have main : wX_labelComponent_28 post v (nI (b * 16 + a)) (px (b * 16 + a)) (nI (bd_D (px (b * 16 + a)))) (nI W) (nI H) tr tt px fl lb qu kn pa st ln ar ii := by
    refine ⟨hvi, nm_r (congrArg (fun z => upd lb z v) (nI_clamp (by omega))) (nm_e ⟨257, ?_⟩)⟩
    exact x_fl52 (lab0 := lb) (f := b * 16 + a) hW hH h01 hv hf (fun q m lb' qu' hI hP hq => hp lb' qu' (bd_FI_end hin h0 hv hI hP hq)) 256 0 rfl 257 (by omega) 1 _ _ (bd_FI_0 (hin _ bd_cn_refl) h0 hv qu) (fun k hk => absurd hk (Nat.not_lt_zero k)) (by omega)
  unfold wpX_labelComponent
  refine x_ri ⟨hvi, nm_r (congrArg px (nI_clamp (by omega))) ?_⟩
  unfold bd_D at main
  rcases h01 (b * 16 + a) with e | e
  · refine br_f (by rw [e]; exact bd_01) ?_
    rw [if_neg (by rw [e]; exact bd_01)] at main
    exact main
  · refine br_t e ?_
    rw [if_pos e] at main
    exact main
end
end
section
/-! labelOutside -/
def bd_O (W H : Nat) (p : Nat → Int32) (L : Nat → Nat) (c : Nat) (lb : Nat → Int32) : Prop :=
  (∀ j, j < 256 → lb j = -2 ∨ (lb j = -1 ∧ bd_in W H j ∧ p j = 0 ∧ L j = 0)) ∧
  (∀ a b, bd_adj W H p a b → lb a = -1 → lb b = -1) ∧
  (∀ r, r < c → bd_in W H r → bd_rim W H r → p r = 0 → lb r = -1)
section
variable {W H : Nat} {px : Nat → Int32} {L : Nat → Nat}
theorem bd_O_end (hC : bd_C W H px L) {lb : Nat → Int32} (h : bd_O W H px L 256 lb) {j : Nat} (hj : j < 256) : lb j = bd_lab W H px L 0 j := by
  obtain ⟨o1, o2, o3⟩ := h
  by_cases hi : bd_in W H j ∧ L j = 0
  · rw [bd_lab_t hi.1 (Or.inl hi.2), bd_ow_0 hi.2, bd_cd_0]
    rcases hC.2.2.2.2.2.2.1 j hi.1 with ⟨e0, _, r, hr, rin, rr⟩ | ⟨r, e1, _⟩
    · have h1 := o3 r (bd_in_lt hC rin) rin rr ((bd_cn_p hr).trans e0)
      exact bd_cn_symm hr (fun x => lb x = -1) h1 (fun c d hc e => o2 c d e hc)
    · omega
  · rw [bd_lab_f (fun z => z.2.elim (fun y => hi ⟨z.1, y⟩) (Nat.not_lt_zero _))]
    rcases o1 j hj with z | z
    · exact z
    · exact absurd ⟨z.2.1, z.2.2.2⟩ hi
theorem bd_O_no {c : Nat} {lb : Nat → Int32} (h : bd_O W H px L c lb) (hn : bd_in W H c → bd_rim W H c → px c = 0 → lb c = -1) : bd_O W H px L (c + 1) lb := by
  obtain ⟨o1, o2, o3⟩ := h
  refine ⟨o1, o2, fun r hr a b d => ?_⟩
  by_cases e : r = c
  · subst e; exact hn a b d
  · exact o3 r (by omega) a b d
theorem bd_O_skip {lb : Nat → Int32} {y : Nat} : ∀ d x, W ≤ x → x + d = 16 → bd_O W H px L (y * 16 + x) lb → bd_O W H px L ((y + 1) * 16) lb := by
  intro d
  induction d with
  | zero =>
    intro x _ hx h
    rw [show (y + 1) * 16 = y * 16 + x from by omega]
    exact h
  | succ d ih =>
    intro x hw hx h
    exact ih (x + 1) (by omega) (by omega) (bd_O_no (c := y * 16 + x) h (fun z => absurd z.1 (by omega)))
theorem bd_O_rows {lb : Nat → Int32} {y : Nat} : ∀ d, bd_O W H px L (H * 16) lb → bd_O W H px L (H * 16 + d) lb := by
  intro d h
  induction d with
  | zero => exact h
  | succ d ih => exact bd_O_no (c := H * 16 + d) ih (fun z => absurd z.2 (by omega))
theorem bd_O_fl (hC : bd_C W H px L) {c : Nat} {lb lb' : Nat → Int32} (h : bd_O W H px L c lb) (hi : bd_in W H c) (hr : bd_rim W H c) (h0 : px c = 0)
    (hf : ∀ j, (bd_cn W H px c j → lb' j = -1) ∧ (¬ bd_cn W H px c j → lb' j = lb j)) : bd_O W H px L (c + 1) lb' := by
  obtain ⟨o1, o2, o3⟩ := h
  have hL : L c = 0 := hC.2.2.2.2.2.2.2 c hi h0 hr
  refine ⟨fun j hj => ?_, fun a b e ha => ?_, fun r hr' a b d => ?_⟩
  · by_cases hc : bd_cn W H px c j
    · exact Or.inr ⟨(hf j).1 hc, bd_cn_in hc hi, (bd_cn_p hc).trans h0, (bd_L_cn hC hc).symm.trans hL⟩
    · rw [(hf j).2 hc]; exact o1 j hj
  · by_cases hb : bd_cn W H px c b
    · exact (hf b).1 hb
    · rw [(hf b).2 hb]
      refine o2 a b e ?_
      rw [← (hf a).2 (fun z => hb (bd_cn_step z e))]
      exact ha
  · by_cases hc : bd_cn W H px c r
    · exact (hf r).1 hc
    · rw [(hf r).2 hc]
      by_cases e : r = c
      · subst e; exact absurd bd_cn_refl hc
      · exact o3 r (by omega) a b d
theorem bd_O_un (hC : bd_C W H px L) {c : Nat} {lb : Nat → Int32} (h : bd_O W H px L c lb) (hi : bd_in W H c) (h2 : lb c = -2) : ∀ j, bd_cn W H px c j → lb j = -2 := by
  intro j hj
  rcases h.1 j (bd_in_lt hC (bd_cn_in hj hi)) with z | z
  · exact z
  · have := bd_cn_symm hj (fun x => lb x = -1) z.1 (fun a b ha e => h.2.1 a b e ha)
    exact absurd (this.symm.trans h2) bd_m1_m2
end
section
variable {W H : Nat} {tr tt : Int32} {px fl lb qu kn pa st ln ar ii fg bg : Nat → Int32} {L : Nat → Nat}
theorem x_rim {post : Int32 → Prop} {x y : Nat} (hx : x < W) (hy : y < H) (hW : W ≤ 16) (hH : H ≤ 16) (h1 : bd_rim W H (y * 16 + x) → post 1) (h0 : ¬ bd_rim W H (y * 16 + x) → post 0) : wpX_isOnRim post (nI W, nI H, tr, tt, px, fl, lb, qu, kn, pa, st, ln, ar, ii) (nI x) (nI y) := by
  have e1 : nI W - 1 = nI (W - 1) := by
    rw [show (1 : Int32) = nI 1 from rfl, pk_sub (by omega)]
  have e2 : nI H - 1 = nI (H - 1) := by
    rw [show (1 : Int32) = nI 1 from rfl, pk_sub (by omega)]
  unfold wpX_isOnRim
  dsimp only
  rw [e1, e2]
  refine pk_eq x 0 (fun z => h1 (by omega)) (fun z1 => pk_eq x (W - 1) (fun z => h1 (by omega)) (fun z2 => pk_eq y 0 (fun z => h1 (by omega)) (fun z3 => pk_eq y (H - 1) (fun z => h1 (by omega)) (fun z4 => h0 (by omega)))))
theorem x_out12 {post : St2 → Prop} {J : Int32 → Int32 → Int32 → Int32 → Int32 → (Nat → Int32) → (Nat → Int32) → (Nat → Int32) → (Nat → Int32) → (Nat → Int32) → (Nat → Int32) → (Nat → Int32) → (Nat → Int32) → (Nat → Int32) → (Nat → Int32) → Prop}
    (hC : bd_C W H px L) {y : Nat} (hy : y < H) (hJ : ∀ lb qu, bd_O W H px L ((y + 1) * 16) lb → J (nI (y + 1)) (nI W) (nI H) tr tt px fl lb qu kn pa st ln ar ii) :
    ∀ e x, x + e = W → ∀ n, e < n → ∀ lb qu, bd_O W H px L (y * 16 + x) lb → wX_labelOutside_12 post J (nI y) n (nI x) (nI W) (nI H) tr tt px fl lb qu kn pa st ln ar ii := by
  have hW := hC.2.1
  have hH := hC.2.2.2.1
  intro e
  induction e with
  | zero =>
    intro x hx n hn lb qu hO
    obtain ⟨n, rfl⟩ : ∃ m, n = m + 1 := ⟨n - 1, by omega⟩
    exact br_t (nI_le (by omega) (by omega)) (nm_r (nI_1 y) (hJ lb qu (bd_O_skip (16 - x) x (by omega) (by omega) hO)))
  | succ e ih =>
    intro x hx n hn lb qu hO
    obtain ⟨n, rfl⟩ : ∃ m, n = m + 1 := ⟨n - 1, by omega⟩
    have next : ∀ lb qu, bd_O W H px L (y * 16 + x + 1) lb → ∀ z, z = nI x + 1 → wX_labelOutside_12 post J (nI y) n z (nI W) (nI H) tr tt px fl lb qu kn pa st ln ar ii := by
      intro lb qu h z ez
      rw [ez, nI_1]
      exact ih (x + 1) (by omega) n (by omega) lb qu h
    have hi : bd_in W H (y * 16 + x) := ⟨by omega, by omega⟩
    refine br_f (nI_ge (by omega) (by omega)) (x_rim (by omega) hy hW hH (fun hr => br_f bd_10 ?_) (fun hr => br_t rfl (next lb qu (bd_O_no hO (fun _ z => absurd z hr)))))
    refine x_unl hW hH (fun a b ea eb ha hb e1 e2 => br_f bd_10 ?_) (fun hno => br_t rfl (next lb qu (bd_O_no hO (fun _ _ z => ?_))))
    · rw [nI_eq (by omega) (by omega)] at ea eb
      subst ea eb
      exact x_flood hW hH hC.2.2.2.2.1 bd_m1_m2 ha hb (bd_O_un hC hO hi e2) (fun lb' qu' hf => next lb' qu' (bd_O_fl hC hO hi hr e1 hf))
    · rcases hO.1 (y * 16 + x) (bd_in_lt hC hi) with w | w
      · exact (hno x y rfl rfl (by omega) hy z w).elim
      · exact w.1
theorem x_out2 {post : St2 → Prop} (hC : bd_C W H px L) (hp : ∀ lb qu, (∀ j, j < 256 → lb j = bd_lab W H px L 0 j) → post (nI W, nI H, tr, tt, px, fl, lb, qu, kn, pa, st, ln, ar, ii)) :
    ∀ e y, y + e = H → ∀ n, e < n → ∀ lb qu, bd_O W H px L (y * 16) lb → wX_labelOutside_2 post n (nI y) (nI W) (nI H) tr tt px fl lb qu kn pa st ln ar ii := by
  have hW := hC.2.1
  have hH := hC.2.2.2.1
  intro e
  induction e with
  | zero =>
    intro y hy n hn lb qu hO
    obtain ⟨n, rfl⟩ : ∃ m, n = m + 1 := ⟨n - 1, by omega⟩
    have hy' : y = H := by omega
    subst hy'
    have hO' := bd_O_rows (y := 0) (256 - y * 16) hO
    rw [show y * 16 + (256 - y * 16) = 256 from by omega] at hO'
    exact br_t (nI_le (by omega) (by omega)) (hp lb qu (fun j hj => bd_O_end hC hO' hj))
  | succ e ih =>
    intro y hy n hn lb qu hO
    obtain ⟨n, rfl⟩ : ∃ m, n = m + 1 := ⟨n - 1, by omega⟩
    exact br_f (nI_ge (by omega) (by omega)) ⟨W + 1, x_out12 hC (by omega) (fun lb qu h => ih (y + 1) (by omega) n (by omega) lb qu h) W 0 (by omega) (W + 1) (by omega) lb qu hO⟩
theorem x_out {post : St2 → Prop} (hC : bd_C W H px L) (h2 : ∀ j, j < 256 → lb j = -2) (hp : ∀ lb qu, (∀ j, j < 256 → lb j = bd_lab W H px L 0 j) → post (nI W, nI H, tr, tt, px, fl, lb, qu, kn, pa, st, ln, ar, ii)) : wpX_labelOutside post (nI W, nI H, tr, tt, px, fl, lb, qu, kn, pa, st, ln, ar, ii) := by
  refine ⟨H + 1, x_out2 hC hp H 0 (by omega) (H + 1) (by omega) lb qu ⟨fun j hj => Or.inl (h2 j hj), fun a b e ha => ?_, fun r hr => absurd hr (by omega)⟩⟩
  rw [h2 a (bd_in_lt hC e.1)] at ha
  exact absurd ha.symm bd_m1_m2
theorem x_cll2 {post : St2 → Prop} (h : ∀ lb, (∀ j, j < 256 → lb j = -2) → post (nI W, nI H, tr, tt, px, fl, lb, qu, kn, pa, st, ln, ar, ii)) : ∀ d i, i + d = 256 → ∀ n, d < n → ∀ lb : Nat → Int32, (∀ j, j < i → lb j = -2) → wX_clearLabels_2 post (nI W) (nI H) tr tt n (nI i) px fl lb qu kn pa st ln ar ii := by
  intro d
  induction d with
  | zero =>
    intro i hi n hn lb h0
    obtain ⟨n, rfl⟩ : ∃ m, n = m + 1 := ⟨n - 1, by omega⟩
    exact br_t (nI_le (a := 256) (by omega) (by omega)) (h lb (fun j hj => h0 j (by omega)))
  | succ d ih =>
    intro i hi n hn lb h0
    obtain ⟨n, rfl⟩ : ∃ m, n = m + 1 := ⟨n - 1, by omega⟩
    refine br_f (nI_ge (b := 256) (by omega) (by omega)) ⟨vp_in_nI (by omega) (by omega), nm_r (congrArg (fun z => upd lb z (-2)) (nI_clamp (by omega))) (nm_r (nI_1 i) (ih (i + 1) (by omega) n (by omega) _ ?_))⟩
    intro j hj
    by_cases e : j = i
    · subst e; exact pk_us
    · exact (pk_un e).trans (h0 j (by omega))
theorem x_cll {post : St2 → Prop} (h : ∀ lb, (∀ j, j < 256 → lb j = -2) → post (nI W, nI H, tr, tt, px, fl, lb, qu, kn, pa, st, ln, ar, ii)) : wpX_clearLabels post (nI W, nI H, tr, tt, px, fl, lb, qu, kn, pa, st, ln, ar, ii) :=
  ⟨257, x_cll2 h 256 0 rfl 257 (by omega) lb (fun j hj => absurd hj (Nat.not_lt_zero j))⟩
end
/-! formContoursWithKey -/
def bd_T (W H : Nat) (p : Nat → Int32) (L : Nat → Nat) (kn0 pa0 st0 ln0 ar0 : Nat → Int32) (c : Nat) (tt : Int32) (lb kn pa st ln ar : Nat → Int32) : Prop :=
  tt = nI (bd_N W H p L c) ∧ (∀ j, j < 256 → lb j = bd_lab W H p L c j) ∧ kn = bd_A W H p L (bd_kd W H p L) kn0 c ∧
  pa = bd_A W H p L (fun i => bd_cd (bd_pv W H p L i)) pa0 c ∧ st = bd_A W H p L nI st0 c ∧ ln = bd_A W H p L (fun _ => 0) ln0 c ∧ ar = bd_A W H p L (fun _ => 0) ar0 c
section
variable {W H : Nat} {tr tt : Int32} {px fl lb qu kn pa st ln ar ii fg bg : Nat → Int32} {L : Nat → Nat} {kn0 pa0 st0 ln0 ar0 : Nat → Int32}
theorem bd_T_no (hC : bd_C W H px L) {c : Nat} (h : bd_T W H px L kn0 pa0 st0 ln0 ar0 c tt lb kn pa st ln ar) (hn : ¬ bd_key W H px L c) : bd_T W H px L kn0 pa0 st0 ln0 ar0 (c + 1) tt lb kn pa st ln ar := by
  obtain ⟨h1, h2, h3, h4, h5, h6, h7⟩ := h
  refine ⟨?_, fun j hj => ?_, ?_, ?_, ?_, ?_, ?_⟩
  · rw [bd_N_no hn]; exact h1
  · rw [bd_lab_no hC hn]; exact h2 j hj
  · rw [bd_A_n hn]; exact h3
  · rw [bd_A_n hn]; exact h4
  · rw [bd_A_n hn]; exact h5
  · rw [bd_A_n hn]; exact h6
  · rw [bd_A_n hn]; exact h7
theorem bd_T_skip (hC : bd_C W H px L) {y : Nat} : ∀ d x, W ≤ x → x + d = 16 → bd_T W H px L kn0 pa0 st0 ln0 ar0 (y * 16 + x) tt lb kn pa st ln ar → bd_T W H px L kn0 pa0 st0 ln0 ar0 ((y + 1) * 16) tt lb kn pa st ln ar := by
  intro d
  induction d with
  | zero =>
    intro x _ hx h
    rw [show (y + 1) * 16 = y * 16 + x from by omega]
    exact h
  | succ d ih =>
    intro x hw hx h
    refine ih (x + 1) (by omega) (by omega) (bd_T_no hC (c := y * 16 + x) h (fun z => ?_))
    have := (bd_key_p hC z).1.1
    omega
theorem bd_T_rows (hC : bd_C W H px L) (d : Nat) (h : bd_T W H px L kn0 pa0 st0 ln0 ar0 (H * 16) tt lb kn pa st ln ar) : bd_T W H px L kn0 pa0 st0 ln0 ar0 (H * 16 + d) tt lb kn pa st ln ar := by
  induction d with
  | zero => exact h
  | succ d ih =>
    refine bd_T_no hC (c := H * 16 + d) ih (fun z => ?_)
    have := (bd_key_p hC z).1.2
    omega
theorem bd_T_fl (hC : bd_C W H px L) {c f : Nat} {lb' : Nat → Int32} (h : bd_T W H px L kn0 pa0 st0 ln0 ar0 c tt lb kn pa st ln ar) (hk : (bd_ok W H px L c ∧ f = c) ∨ (bd_hk W H px L c ∧ f = c + 1))
    (hf : ∀ j, (bd_cn W H px f j → lb' j = nI (bd_N W H px L c)) ∧ (¬ bd_cn W H px f j → lb' j = lb j)) :
    bd_T W H px L kn0 pa0 st0 ln0 ar0 (c + 1) (nI (bd_N W H px L c + 1)) lb' (upd kn (bd_N W H px L c) (bd_kd W H px L c)) (upd pa (bd_N W H px L c) (bd_cd (bd_pv W H px L c))) (upd st (bd_N W H px L c) (nI c)) (upd ln (bd_N W H px L c) 0) (upd ar (bd_N W H px L c) 0) := by
  obtain ⟨h1, h2, h3, h4, h5, h6, h7⟩ := h
  have key : bd_key W H px L c := hk.imp And.left And.left
  refine ⟨?_, fun j hj => ?_, ?_, ?_, ?_, ?_, ?_⟩
  · rw [bd_N_key key]
  · have hs := bd_lab_step hC hk j
    by_cases hc : bd_cn W H px f j
    · rw [(hf j).1 hc, (hs.1 hc).2]
    · rw [(hf j).2 hc, hs.2 hc, h2 j hj]
  · rw [bd_A_k key, h3]
  · rw [bd_A_k key, h4]
  · rw [bd_A_k key, h5]
  · rw [bd_A_k key, h6]
  · rw [bd_A_k key, h7]
theorem bd_T_un (hC : bd_C W H px L) {c f : Nat} (h : bd_T W H px L kn0 pa0 st0 ln0 ar0 c tt lb kn pa st ln ar) (hk : (bd_ok W H px L c ∧ f = c) ∨ (bd_hk W H px L c ∧ f = c + 1)) (hf : bd_in W H f) : ∀ j, bd_cn W H px f j → lb j = -2 := by
  intro j hj
  rw [h.2.1 j (bd_in_lt hC (bd_cn_in hj hf))]
  exact ((bd_lab_step hC hk j).1 hj).1
theorem x_add {post : Int32 → St2 → Prop} {k a b : Nat} {kd : Int32} (hk : k < 256)
    (hp : post (nI k) (nI W, nI H, tr, nI (k + 1), px, fl, lb, qu, upd kn k kd, pa, upd st k (nI (b * 16 + a)), upd ln k 0, upd ar k 0, ii)) : wpX_addContour post (nI W, nI H, tr, nI k, px, fl, lb, qu, kn, pa, st, ln, ar, ii) kd (nI a) (nI b) := by
  have hv : vp_in (nI k) 256 := vp_in_nI hk (by omega)
  have hc : (nI k).toNatClampNeg = k := nI_clamp (by omega)
  refine br_f (nI_ge (b := 256) hk (by omega)) ⟨hv, nm_r (congrArg (fun z => upd kn z kd) hc) (x_ri ⟨hv, nm_r (congrArg (fun z => upd st z (nI (b * 16 + a))) hc) ⟨hv, nm_r (congrArg (fun z => upd ln z 0) hc) ⟨hv, nm_r (congrArg (fun z => upd ar z 0) hc) (nm_r (nI_1 k) hp)⟩⟩⟩)⟩
end
end
section
/-! formContoursWithKey and the loops of trace over it -/
theorem bd_sub1 : ∀ x : Nat, nI x - 1 = bd_cd x
  | 0 => by decide +kernel
  | x + 1 => nI_pred x
section
variable {W H : Nat} {tr tt : Int32} {px fl lb qu kn pa st ln ar ii fg bg : Nat → Int32} {L : Nat → Nat} {kn0 pa0 st0 ln0 ar0 : Nat → Int32}
theorem x_labL {post : Int32 → Prop} (hC : bd_C W H px L) {x y : Nat} (hx : x < W) (hy : y < H) (hl : ∀ j, j < 256 → lb j = bd_lab W H px L (y * 16 + x) j) (ho : bd_ok W H px L (y * 16 + x))
    (hp : post (bd_cd (bd_pv W H px L (y * 16 + x)))) : wpX_labelAt post (nI W, nI H, tr, tt, px, fl, lb, qu, kn, pa, st, ln, ar, ii) (nI x - 1) (nI y) := by
  have hW := hC.2.1
  have hH := hC.2.2.2.1
  unfold bd_pv at hp
  rw [if_pos ho] at hp
  rw [bd_sub1]
  refine x_labAt hW hH (fun a b ea eb ha hb => ?_) (fun hno => ?_)
  · rw [bd_cd_nI (by omega) (by omega)] at ea
    rw [nI_eq (by omega) (by omega)] at eb
    subst eb
    rw [if_neg (show ¬ (y * 16 + x) % 16 = 0 by omega), ← bd_lab_left hC ho (by omega), ← hl _ (by omega), show y * 16 + x - 1 = y * 16 + a from by omega] at hp
    exact hp
  · have hx0 : x = 0 := by
      rcases Nat.eq_zero_or_pos x with z | z
      · exact z
      · refine (hno (x - 1) y ?_ rfl (by omega) hy).elim
        rw [bd_cd_nI (by omega) (by omega)]
        omega
    rw [if_pos (show (y * 16 + x) % 16 = 0 by omega), bd_cd_0] at hp
    exact hp
theorem x_labS {post : Int32 → Prop} (hC : bd_C W H px L) {x y : Nat} (hx : x < W) (hy : y < H) (hl : ∀ j, j < 256 → lb j = bd_lab W H px L (y * 16 + x) j) (hh : bd_hk W H px L (y * 16 + x))
    (hp : post (bd_cd (bd_pv W H px L (y * 16 + x)))) : wpX_labelAt post (nI W, nI H, tr, tt, px, fl, lb, qu, kn, pa, st, ln, ar, ii) (nI x) (nI y) := by
  have hW := hC.2.1
  have hH := hC.2.2.2.1
  unfold bd_pv at hp
  rw [if_neg (bd_excl hC hh), ← bd_lab_self hC hh, ← hl _ (by omega)] at hp
  refine x_labAt hW hH (fun a b ea eb ha hb => ?_) (fun hno => (hno x y rfl rfl hx hy).elim)
  rw [nI_eq (by omega) (by omega)] at ea eb
  subst ea eb
  exact hp
theorem x_f53a {post : St2 → Prop} (hC : bd_C W H px L) {x y : Nat} (hx : x < W) (hy : y < H) (hl : ∀ j, j < 256 → lb j = bd_lab W H px L (y * 16 + x + 1) j) (hp : post (nI W, nI H, tr, tt, px, fl, lb, qu, kn, pa, st, ln, ar, ii)) :
    wX_formContoursWithKey_53 post (nI x) (nI y) (nI W) (nI H) tr tt px fl lb qu kn pa st ln ar ii := by
  have hW := hC.2.1
  have hH := hC.2.2.2.1
  unfold wX_formContoursWithKey_53
  rw [nI_1 x]
  refine x_unl hW hH (fun a b ea eb ha hb e1 e2 => ?_) (fun _ => br_t rfl hp)
  rw [nI_eq (by omega) (by omega)] at ea eb
  subst ea eb
  rw [hl _ (by omega)] at e2
  exact absurd e2 (bd_lab_hk' hC (c := y * 16 + x) ⟨by omega, by omega⟩ (by omega) e1)
theorem x_f53b {post : St2 → Prop} (hC : bd_C W H px L) {x y : Nat} (hx : x < W) (hy : y < H) (hT : bd_T W H px L kn0 pa0 st0 ln0 ar0 (y * 16 + x) tt lb kn pa st ln ar) (hno : ¬ bd_ok W H px L (y * 16 + x))
    (hp : ∀ tt lb qu kn pa st ln ar, bd_T W H px L kn0 pa0 st0 ln0 ar0 (y * 16 + x + 1) tt lb kn pa st ln ar → post (nI W, nI H, tr, tt, px, fl, lb, qu, kn, pa, st, ln, ar, ii)) :
    wX_formContoursWithKey_53 post (nI x) (nI y) (nI W) (nI H) tr tt px fl lb qu kn pa st ln ar ii := by
  have hW := hC.2.1
  have hH := hC.2.2.2.1
  have hi : bd_in W H (y * 16 + x) := ⟨by omega, by omega⟩
  have hN := bd_N_le (W := W) (H := H) (p := px) (L := L) (y * 16 + x)
  have htt := hT.1
  subst htt
  unfold wX_formContoursWithKey_53
  rw [nI_1 x]
  refine x_unl hW hH (fun a b ea eb ha hb e1 e2 => br_f bd_10 ?_) (fun hn => br_t rfl (hp _ _ _ _ _ _ _ _ (bd_T_no hC hT ?_)))
  · rw [nI_eq (by omega) (by omega)] at ea eb
    subst ea eb
    rw [hT.2.1 _ (by omega)] at e2
    have hh : bd_hk W H px L (y * 16 + x) := (bd_lab_hk hC hi (by omega) e1).mp e2
    refine x_add (by omega) ?_
    dsimp only
    refine x_labS hC hx hy hT.2.1 hh ⟨vp_in_nI (by omega) (by omega), nm_r (congrArg (fun z => upd pa z _) (nI_clamp (by omega))) ?_⟩
    refine x_flood hW hH hC.2.2.2.2.1 (bd_nI_m2 (by omega)) (by omega) hy (bd_T_un hC hT (Or.inr ⟨hh, rfl⟩) (bd_hk_in hC hh)) (fun lb' qu' hf => ?_)
    have hT' := bd_T_fl hC hT (Or.inr ⟨hh, rfl⟩) hf
    rw [show bd_kd W H px L (y * 16 + x) = 2 from if_neg hno] at hT'
    exact hp _ _ _ _ _ _ _ _ hT'
  · intro hk
    have hh : bd_hk W H px L (y * 16 + x) := hk.resolve_left hno
    refine hn (x + 1) y rfl rfl ?_ hy hh.2.2.1 ?_
    · have := hh.2.1
      omega
    · have h2 := (bd_lab_hk hC hi hh.2.1 hh.2.2.1).mpr hh
      rw [← hT.2.1 _ (by omega)] at h2
      exact h2
theorem x_form {post : St2 → Prop} (hC : bd_C W H px L) {x y : Nat} (hx : x < W) (hy : y < H) (hT : bd_T W H px L kn0 pa0 st0 ln0 ar0 (y * 16 + x) tt lb kn pa st ln ar)
    (hp : ∀ tt lb qu kn pa st ln ar, bd_T W H px L kn0 pa0 st0 ln0 ar0 (y * 16 + x + 1) tt lb kn pa st ln ar → post (nI W, nI H, tr, tt, px, fl, lb, qu, kn, pa, st, ln, ar, ii)) :
    wpX_formContoursWithKey post (nI W, nI H, tr, tt, px, fl, lb, qu, kn, pa, st, ln, ar, ii) (nI x) (nI y) := by
  have hW := hC.2.1
  have hH := hC.2.2.2.1
  have hi : bd_in W H (y * 16 + x) := ⟨by omega, by omega⟩
  have hN := bd_N_le (W := W) (H := H) (p := px) (L := L) (y * 16 + x)
  unfold wpX_formContoursWithKey
  dsimp only
  refine x_ri ⟨vp_in_nI (by omega) (by omega), ?_⟩
  rw [nI_clamp (by omega)]
  refine br_c (fun e0 => hp _ _ _ _ _ _ _ _ (bd_T_no hC hT ?_)) (fun e0 => ?_)
  · intro z
    have := (bd_key_p hC z).2
    rw [e0] at this
    exact bd_01 this
  · have e1 : px (y * 16 + x) = 1 := (hC.2.2.2.2.1 (y * 16 + x)).resolve_left e0
    refine x_unl hW hH (fun a b ea eb ha hb _ e2 => br_f bd_10 ?_) (fun hn => br_t rfl (x_f53b hC hx hy hT (fun ho => ?_) hp))
    · rw [nI_eq (by omega) (by omega)] at ea eb
      subst ea eb
      rw [hT.2.1 _ (by omega)] at e2
      have ho : bd_ok W H px L (y * 16 + x) := (bd_lab_ok hC hi e1).mp e2
      have htt := hT.1
      subst htt
      refine x_add (by omega) ?_
      dsimp only
      refine x_labL hC hx hy hT.2.1 ho ⟨vp_in_nI (by omega) (by omega), nm_r (congrArg (fun z => upd pa z _) (nI_clamp (by omega))) ?_⟩
      refine x_flood hW hH hC.2.2.2.2.1 (bd_nI_m2 (by omega)) hx hy (bd_T_un hC hT (Or.inl ⟨ho, rfl⟩) hi) (fun lb' qu' hf => ?_)
      have hT' := bd_T_fl hC hT (Or.inl ⟨ho, rfl⟩) hf
      rw [show bd_kd W H px L (y * 16 + x) = 1 from if_pos ho] at hT'
      exact x_f53a hC hx hy hT'.2.1 (hp _ _ _ _ _ _ _ _ hT')
    · have h2 := (bd_lab_ok hC hi e1).mpr ho
      rw [← hT.2.1 _ (by omega)] at h2
      exact hn x y rfl rfl hx hy e1 h2
theorem x_tr29 {post : Int32 → St2 → Prop} {J : Int32 → Int32 → Int32 → Int32 → Int32 → (Nat → Int32) → (Nat → Int32) → (Nat → Int32) → (Nat → Int32) → (Nat → Int32) → (Nat → Int32) → (Nat → Int32) → (Nat → Int32) → (Nat → Int32) → (Nat → Int32) → Prop}
    (hC : bd_C W H px L) {y : Nat} (hy : y < H) (hJ : ∀ tt lb qu kn pa st ln ar, bd_T W H px L kn0 pa0 st0 ln0 ar0 ((y + 1) * 16) tt lb kn pa st ln ar → J (nI (y + 1)) (nI W) (nI H) tr tt px fl lb qu kn pa st ln ar ii) :
    ∀ e x, x + e = W → ∀ n, e < n → ∀ tt lb qu kn pa st ln ar, bd_T W H px L kn0 pa0 st0 ln0 ar0 (y * 16 + x) tt lb kn pa st ln ar → wX_trace_29 post J (nI y) n (nI x) (nI W) (nI H) tr tt px fl lb qu kn pa st ln ar ii := by
  have hW := hC.2.1
  have hH := hC.2.2.2.1
  intro e
  induction e with
  | zero =>
    intro x hx n hn tt lb qu kn pa st ln ar hT
    obtain ⟨n, rfl⟩ : ∃ m, n = m + 1 := ⟨n - 1, by omega⟩
    exact br_t (nI_le (by omega) (by omega)) (nm_r (nI_1 y) (hJ _ _ _ _ _ _ _ _ (bd_T_skip hC (16 - x) x (by omega) (by omega) hT)))
  | succ e ih =>
    intro x hx n hn tt lb qu kn pa st ln ar hT
    obtain ⟨n, rfl⟩ : ∃ m, n = m + 1 := ⟨n - 1, by omega⟩
    refine br_f (nI_ge (by omega) (by omega)) (x_form hC (by omega) hy hT (fun tt lb qu kn pa st ln ar hT' => nm_r (nI_1 x) ?_))
    exact ih (x + 1) (by omega) n (by omega) _ _ _ _ _ _ _ _ hT'
theorem x_tr19 {post : Int32 → St2 → Prop} (hC : bd_C W H px L)
    (hp : ∀ tt lb qu kn pa st ln ar, bd_T W H px L kn0 pa0 st0 ln0 ar0 256 tt lb kn pa st ln ar → wpX_countEdges (fun u => match u with | (a1, a2, a3, a4, a5, a6, a7, a8, a9, a10, a11, a12, a13, a14) => wpX_sumAreas (fun u => match u with | (b1, b2, b3, b4, b5, b6, b7, b8, b9, b10, b11, b12, b13, b14) => post b4 (b1, b2, 1, b4, b5, b6, b7, b8, b9, b10, b11, b12, b13, b14)) (a1, a2, a3, a4, a5, a6, a7, a8, a9, a10, a11, a12, a13, a14)) (nI W, nI H, tr, tt, px, fl, lb, qu, kn, pa, st, ln, ar, ii)) :
    ∀ e y, y + e = H → ∀ n, e < n → ∀ tt lb qu kn pa st ln ar, bd_T W H px L kn0 pa0 st0 ln0 ar0 (y * 16) tt lb kn pa st ln ar → wX_trace_19 post n (nI y) (nI W) (nI H) tr tt px fl lb qu kn pa st ln ar ii := by
  have hW := hC.2.1
  have hH := hC.2.2.2.1
  intro e
  induction e with
  | zero =>
    intro y hy n hn tt lb qu kn pa st ln ar hT
    obtain ⟨n, rfl⟩ : ∃ m, n = m + 1 := ⟨n - 1, by omega⟩
    have hy' : y = H := by omega
    subst hy'
    have hT' := bd_T_rows hC (256 - y * 16) hT
    rw [show y * 16 + (256 - y * 16) = 256 from by omega] at hT'
    exact br_t (nI_le (by omega) (by omega)) (hp _ _ _ _ _ _ _ _ hT')
  | succ e ih =>
    intro y hy n hn tt lb qu kn pa st ln ar hT
    obtain ⟨n, rfl⟩ : ∃ m, n = m + 1 := ⟨n - 1, by omega⟩
    exact br_f (nI_ge (by omega) (by omega)) ⟨W + 1, x_tr29 hC (by omega) (fun tt lb qu kn pa st ln ar h => ih (y + 1) (by omega) n (by omega) tt lb qu kn pa st ln ar h) W 0 (by omega) (W + 1) (by omega) _ _ _ _ _ _ _ _ hT⟩
end
end
section
/-! labelBeyond, isBorder, countEdges -/
theorem bd_far_in {W H : Nat} {ow : Nat → Nat} {x y s a b : Nat} (hx : x < W) (hy : y < H) (hW : W ≤ 16) (hs : s < 4) (ha : a < W) (hb : b < H) (ea : x + bd_sx s = a + 1) (eb : y + bd_sy s = b + 1) :
    bd_far W H ow (y * 16 + x) s = ow (b * 16 + a) := by
  have h1 : (y * 16 + x) % 16 = x := by omega
  have h2 : (y * 16 + x) / 16 = y := by omega
  unfold bd_far
  rw [h1, h2]
  have hc : s = 0 ∨ s = 1 ∨ s = 2 ∨ s = 3 := by omega
  rcases hc with rfl | rfl | rfl | rfl
  · have z1 : x + 1 = a + 1 := ea
    have z2 : y + 0 = b + 1 := eb
    rw [if_pos rfl, if_neg (by omega)]
    exact congrArg ow (by omega)
  · have z1 : x + 2 = a + 1 := ea
    have z2 : y + 1 = b + 1 := eb
    rw [if_neg (by omega), if_pos rfl, if_pos (by omega)]
    exact congrArg ow (by omega)
  · have z1 : x + 1 = a + 1 := ea
    have z2 : y + 2 = b + 1 := eb
    rw [if_neg (by omega), if_neg (by omega), if_pos rfl, if_pos (by omega)]
    exact congrArg ow (by omega)
  · have z1 : x + 0 = a + 1 := ea
    have z2 : y + 1 = b + 1 := eb
    rw [if_neg (by omega), if_neg (by omega), if_neg (by omega), if_neg (by omega)]
    exact congrArg ow (by omega)
theorem bd_far_out {W H : Nat} {ow : Nat → Nat} {x y s : Nat} (hx : x < W) (hy : y < H) (hW : W ≤ 16) (hs : s < 4) (hno : ∀ a b, x + bd_sx s = a + 1 → y + bd_sy s = b + 1 → a < W → b < H → False) :
    bd_far W H ow (y * 16 + x) s = 0 := by
  have h1 : (y * 16 + x) % 16 = x := by omega
  have h2 : (y * 16 + x) / 16 = y := by omega
  unfold bd_far
  rw [h1, h2]
  have hc : s = 0 ∨ s = 1 ∨ s = 2 ∨ s = 3 := by omega
  rcases hc with rfl | rfl | rfl | rfl
  · have z : y = 0 := by
      rcases Nat.eq_zero_or_pos y with z | z
      · exact z
      · exact (hno x (y - 1) rfl (by show y + 0 = y - 1 + 1; omega) hx (by omega)).elim
    rw [if_pos rfl, if_pos z]
  · have z : ¬ x + 1 < W := fun z => hno (x + 1) y rfl rfl z hy
    rw [if_neg (by omega), if_pos rfl, if_neg z]
  · have z : ¬ y + 1 < H := fun z => hno x (y + 1) rfl rfl hx z
    rw [if_neg (by omega), if_neg (by omega), if_pos rfl, if_neg z]
  · have z : x = 0 := by
      rcases Nat.eq_zero_or_pos x with z | z
      · exact z
      · exact (hno (x - 1) y (by show x + 0 = x - 1 + 1; omega) rfl (by omega) hy).elim
    rw [if_neg (by omega), if_neg (by omega), if_neg (by omega), if_pos z]
/-- what the component's tables hold when the contours are formed -/
def bd_F (W H : Nat) (p : Nat → Int32) (L : Nat → Nat) (t : Nat) (lb kn pa st : Nat → Int32) : Prop :=
  bd_C W H p L ∧ t = bd_N W H p L 256 ∧ (∀ j, j < 256 → lb j = bd_lab W H p L 256 j) ∧
  (∀ c, bd_key W H p L c → kn (bd_N W H p L c) = bd_kd W H p L c ∧ st (bd_N W H p L c) = nI c ∧ pa (bd_N W H p L c) = bd_cd (bd_pv W H p L c))
section
variable {W H : Nat} {tr tt : Int32} {px fl lb qu kn pa st ln ar ii fg bg : Nat → Int32} {L : Nat → Nat} {t : Nat}
theorem bd_F_t (hF : bd_F W H px L t lb kn pa st) : t ≤ 256 := by
  rw [hF.2.1]
  exact bd_N_le 256
theorem bd_key_lt (hC : bd_C W H px L) {c : Nat} (h : bd_key W H px L c) : c < 256 := bd_in_lt hC (bd_key_p hC h).1
theorem bd_F_k (hF : bd_F W H px L t lb kn pa st) {c : Nat} (h : bd_key W H px L c) : bd_N W H px L c < t := by
  rw [hF.2.1]
  exact bd_N_lt h (bd_key_lt hF.1 h)
theorem bd_F_c (hF : bd_F W H px L t lb kn pa st) {k : Nat} (h : k < t) : ∃ c, bd_key W H px L c ∧ k = bd_N W H px L c := by
  rw [hF.2.1] at h
  obtain ⟨c, _, h2, h3⟩ := bd_N_ex h
  exact ⟨c, h2, h3.symm⟩
theorem bd_F_lb (hF : bd_F W H px L t lb kn pa st) {i : Nat} (h : bd_in W H i) : lb i = bd_cd (bd_ow W H px L i) := by
  rw [hF.2.2.1 i (bd_in_lt hF.1 h)]
  exact bd_lab_256 hF.1 h
theorem bd_F_ow (hF : bd_F W H px L t lb kn pa st) {i : Nat} (h : bd_in W H i) : bd_ow W H px L i ≤ t := by
  rw [hF.2.1]
  exact bd_ow_le hF.1 h
theorem bd_far_le (hF : bd_F W H px L t lb kn pa st) {x y s : Nat} (hx : x < W) (hy : y < H) (hs : s < 4) : bd_far W H (bd_ow W H px L) (y * 16 + x) s ≤ t := by
  have hW := hF.1.2.1
  by_cases h : ∃ a b, x + bd_sx s = a + 1 ∧ y + bd_sy s = b + 1 ∧ a < W ∧ b < H
  · obtain ⟨a, b, h1, h2, h3, h4⟩ := h
    rw [bd_far_in hx hy hW hs h3 h4 h1 h2]
    exact bd_F_ow hF ⟨by omega, by omega⟩
  · rw [bd_far_out hx hy hW hs (fun a b h1 h2 h3 h4 => h ⟨a, b, h1, h2, h3, h4⟩)]
    omega
theorem x_bey {post : Int32 → Prop} (hF : bd_F W H px L t lb kn pa st) {x y s : Nat} (hx : x < W) (hy : y < H) (hs : s < 4)
    (hp : post (bd_cd (bd_far W H (bd_ow W H px L) (y * 16 + x) s))) : wpX_labelBeyond post (nI W, nI H, tr, tt, px, fl, lb, qu, kn, pa, st, ln, ar, ii) (nI x) (nI y) (nI s) := by
  have hW := hF.1.2.1
  have hH := hF.1.2.2.2.1
  have hd := bd_d8 (s := s) (by omega)
  unfold wpX_labelBeyond
  dsimp only
  refine x_stepX (s := s) (by omega) (nm_r (bd_add x (bd_sx s)) (x_stepY (s := s) (by omega) (nm_r (bd_add y (bd_sy s)) (x_labAt hW hH (fun a b ea eb ha hb => ?_) (fun hno => ?_)))))
  · rw [bd_cd_nI (by omega) (by omega)] at ea eb
    rw [bd_far_in hx hy hW hs ha hb ea eb, ← bd_F_lb hF ⟨by omega, by omega⟩] at hp
    exact hp
  · rw [bd_far_out hx hy hW hs (fun a b h1 h2 h3 h4 => hno a b (by rw [h1]; rfl) (by rw [h2]; rfl) h3 h4)] at hp
    exact hp
theorem x_isB {post : Int32 → Prop} (hF : bd_F W H px L t lb kn pa st) {c a b : Nat} (h : bd_key W H px L c) (ha : a ≤ t) (hb : b ≤ t) (h1 : bd_E W H px L a b c → post 1) (h0 : ¬ bd_E W H px L a b c → post 0) :
    wpX_isBorder post (nI W, nI H, tr, tt, px, fl, lb, qu, kn, pa, st, ln, ar, ii) (nI (bd_N W H px L c)) (bd_cd a) (bd_cd b) := by
  have ht := bd_F_t hF
  have hk := bd_F_k hF h
  have hq := bd_pv_le hF.1 h
  have hv : vp_in (nI (bd_N W H px L c)) 256 := vp_in_nI (by omega) (by omega)
  refine ⟨hv, ?_⟩
  rw [nI_clamp (by omega), (hF.2.2.2 c h).1, (hF.2.2.2 c h).2.2]
  have hi := bd_isb (a := a) (b := b) hF.1 h
  by_cases hd : bd_kd W H px L c = 1
  · have hi := hi.1 hd
    refine br_t hd (br_c (fun e1 => ⟨hv, br_c (fun e2 => h1 (hi.mp ?_)) (fun e2 => h0 fun z => e2 ?_)⟩) (fun e1 => h0 fun z => e1 ?_))
    · rw [bd_cd_nI (by omega) (by omega)] at e1
      rw [bd_cd_eq (by omega) (by omega)] at e2
      exact ⟨e1, e2⟩
    · rw [bd_cd_eq (by omega) (by omega)]
      exact (hi.mpr z).2
    · rw [bd_cd_nI (by omega) (by omega)]
      exact (hi.mpr z).1
  · have hi := hi.2 hd
    refine br_f hd ⟨hv, br_c (fun e1 => br_c (fun e2 => h1 (hi.mp ?_)) (fun e2 => h0 fun z => e2 ?_)) (fun e1 => h0 fun z => e1 ?_)⟩
    · rw [bd_cd_nI (by omega) (by omega)] at e2
      rw [bd_cd_eq (by omega) (by omega)] at e1
      exact ⟨e1, e2⟩
    · rw [bd_cd_nI (by omega) (by omega)]
      exact (hi.mpr z).2
    · rw [bd_cd_eq (by omega) (by omega)]
      exact (hi.mpr z).1
theorem x_cE28 {post : St2 → Prop} (hF : bd_F W H px L t lb kn pa st) {a b : Nat} (ha : a ≤ t) (hb : b ≤ t) {l1 : Nat → Int32}
    (h1 : bd_inc (∃ c, bd_key W H px L c ∧ a = bd_N W H px L c + 1 ∧ bd_E W H px L a b c) (a - 1) ln l1)
    (hp : ∀ l2, (∀ c, bd_key W H px L c → (bd_E W H px L a b c → l2 (bd_N W H px L c) = ln (bd_N W H px L c) + 1) ∧ (¬ bd_E W H px L a b c → l2 (bd_N W H px L c) = ln (bd_N W H px L c))) → post (nI W, nI H, tr, nI t, px, fl, lb, qu, kn, pa, st, l2, ar, ii)) :
    wX_countEdge_28 post (bd_cd a) (bd_cd b) (nI W) (nI H) tr (nI t) px fl lb qu kn pa st l1 ar ii := by
  have ht := bd_F_t hF
  have hC := hF.1
  have fin : ∀ l2, bd_inc (∃ c, bd_key W H px L c ∧ b = bd_N W H px L c + 1 ∧ bd_E W H px L a b c) (b - 1) l1 l2 → post (nI W, nI H, tr, nI t, px, fl, lb, qu, kn, pa, st, l2, ar, ii) := fun l2 h2 => hp l2 (fun c hc => bd_len hC h1 h2 hc)
  refine x_isC ht (fun k ek hk => br_f bd_10 ?_) (fun hno => br_t rfl (fin l1 ⟨fun z => ?_, fun _ => rfl⟩))
  · rw [bd_cd_nI (by omega) (by omega)] at ek
    obtain ⟨c, hc, rfl⟩ := bd_F_c hF hk
    subst ek
    have hv : vp_in (bd_cd (bd_N W H px L c + 1)) 256 := vp_in_nI (by omega) (by omega)
    refine x_isB (c := c) hF hc ha hb (fun he => br_f bd_10 ⟨hv, hv, nm_r (congrArg (fun z => upd l1 z (l1 z + 1)) (nI_clamp (n := bd_N W H px L c) (by omega))) (fin _ ⟨fun _ => rfl, fun z => absurd ⟨c, hc, rfl, he⟩ z⟩)⟩) (fun he => br_t rfl (fin l1 ⟨fun z => ?_, fun _ => rfl⟩))
    obtain ⟨d, hd, e1, e2⟩ := z
    have : c = d := bd_N_inj hc hd (by omega)
    subst this
    exact absurd e2 he
  · obtain ⟨c, hc, e1, e2⟩ := z
    exact (hno (bd_N W H px L c) (by rw [e1]; rfl) (bd_F_k hF hc)).elim
theorem x_cE {post : St2 → Prop} (hF : bd_F W H px L t lb kn pa st) {a b : Nat} (ha : a ≤ t) (hb : b ≤ t)
    (hp : ∀ l2, (∀ c, bd_key W H px L c → (bd_E W H px L a b c → l2 (bd_N W H px L c) = ln (bd_N W H px L c) + 1) ∧ (¬ bd_E W H px L a b c → l2 (bd_N W H px L c) = ln (bd_N W H px L c))) → post (nI W, nI H, tr, nI t, px, fl, lb, qu, kn, pa, st, l2, ar, ii)) :
    wpX_countEdge post (nI W, nI H, tr, nI t, px, fl, lb, qu, kn, pa, st, ln, ar, ii) (bd_cd a) (bd_cd b) := by
  have ht := bd_F_t hF
  have fin : ∀ l1, bd_inc (∃ c, bd_key W H px L c ∧ a = bd_N W H px L c + 1 ∧ bd_E W H px L a b c) (a - 1) ln l1 → wX_countEdge_28 post (bd_cd a) (bd_cd b) (nI W) (nI H) tr (nI t) px fl lb qu kn pa st l1 ar ii := fun l1 h1 => x_cE28 hF ha hb h1 hp
  unfold wpX_countEdge
  dsimp only
  refine x_isC ht (fun k ek hk => br_f bd_10 ?_) (fun hno => br_t rfl (fin ln ⟨fun z => ?_, fun _ => rfl⟩))
  · rw [bd_cd_nI (by omega) (by omega)] at ek
    obtain ⟨c, hc, rfl⟩ := bd_F_c hF hk
    subst ek
    have hv : vp_in (bd_cd (bd_N W H px L c + 1)) 256 := vp_in_nI (by omega) (by omega)
    refine x_isB (c := c) hF hc ha hb (fun he => br_f bd_10 ⟨hv, hv, nm_r (congrArg (fun z => upd ln z (ln z + 1)) (nI_clamp (n := bd_N W H px L c) (by omega))) (fin _ ⟨fun _ => rfl, fun z => absurd ⟨c, hc, rfl, he⟩ z⟩)⟩) (fun he => br_t rfl (fin ln ⟨fun z => ?_, fun _ => rfl⟩))
    obtain ⟨d, hd, e1, e2⟩ := z
    have : c = d := bd_N_inj hc hd (by omega)
    subst this
    exact absurd e2 he
  · obtain ⟨c, hc, e1, e2⟩ := z
    exact (hno (bd_N W H px L c) (by rw [e1]; rfl) (bd_F_k hF hc)).elim
theorem x_ce34 {post : St2 → Prop} {J2 J12 : Int32 → Int32 → Int32 → Int32 → Int32 → (Nat → Int32) → (Nat → Int32) → (Nat → Int32) → (Nat → Int32) → (Nat → Int32) → (Nat → Int32) → (Nat → Int32) → (Nat → Int32) → (Nat → Int32) → (Nat → Int32) → Prop}
    (hF : bd_F W H px L t lb kn pa st) {x y : Nat} (hx : x < W) (hy : y < H)
    (hJ : ∀ ln, (∀ c, bd_key W H px L c → ln (bd_N W H px L c) = nI (bd_ct (bd_ed W H px L c) (4 * (y * 16 + x) + 4))) → J12 (nI (x + 1)) (nI W) (nI H) tr (nI t) px fl lb qu kn pa st ln ar ii) :
    ∀ e s, s + e = 4 → ∀ n, e < n → ∀ ln, (∀ c, bd_key W H px L c → ln (bd_N W H px L c) = nI (bd_ct (bd_ed W H px L c) (4 * (y * 16 + x) + s))) →
      wX_countEdges_34 post J2 J12 (nI y) (nI x) (bd_cd (bd_ow W H px L (y * 16 + x))) n (nI s) (nI W) (nI H) tr (nI t) px fl lb qu kn pa st ln ar ii := by
  have hW := hF.1.2.1
  have hin : bd_in W H (y * 16 + x) := ⟨by omega, by omega⟩
  intro e
  induction e with
  | zero =>
    intro s hs n hn ln h
    obtain ⟨n, rfl⟩ : ∃ m, n = m + 1 := ⟨n - 1, by omega⟩
    have : s = 4 := by omega
    subst this
    exact br_t (nI_le (a := 4) (by omega) (by omega)) (nm_r (nI_1 x) (hJ ln h))
  | succ e ih =>
    intro s hs n hn ln h
    obtain ⟨n, rfl⟩ : ∃ m, n = m + 1 := ⟨n - 1, by omega⟩
    refine br_f (nI_ge (b := 4) (by omega) (by omega)) (x_bey hF hx hy (by omega) (x_cE hF (bd_F_ow hF hin) (bd_far_le hF hx hy (by omega)) (fun l2 h2 => nm_r (nI_1 s) (ih (s + 1) (by omega) n (by omega) l2 (fun c hc => ?_)))))
    have q1 : (4 * (y * 16 + x) + s) / 4 = y * 16 + x := by omega
    have q2 : (4 * (y * 16 + x) + s) % 4 = s := by omega
    have hed : bd_ed W H px L c (4 * (y * 16 + x) + s) ↔ bd_E W H px L (bd_ow W H px L (y * 16 + x)) (bd_far W H (bd_ow W H px L) (y * 16 + x) s) c := by
      unfold bd_ed bd_E
      rw [q1, q2]
      exact ⟨fun z => z.2, fun z => ⟨hin, z⟩⟩
    rw [← Nat.add_assoc]
    by_cases he : bd_ed W H px L c (4 * (y * 16 + x) + s)
    · rw [bd_ct_t he, (h2 c hc).1 (hed.mp he), h c hc, nI_1]
    · rw [bd_ct_f he, (h2 c hc).2 (fun z => he (hed.mpr z)), h c hc]
theorem bd_ed_no {c i : Nat} (hi : ¬ bd_in W H i) : bd_ct (bd_ed W H px L c) (4 * (i + 1)) = bd_ct (bd_ed W H px L c) (4 * i) := by
  have h : ∀ s, s < 4 → ¬ bd_ed W H px L c (4 * i + s) := fun s hs z => hi (by
    have := z.1
    rw [show (4 * i + s) / 4 = i from by omega] at this
    exact this)
  rw [show 4 * (i + 1) = 4 * i + 0 + 1 + 1 + 1 + 1 from by omega, bd_ct_f (h 3 (by omega)), bd_ct_f (h 2 (by omega)), bd_ct_f (h 1 (by omega)), bd_ct_f (h 0 (by omega))]
  rfl
theorem bd_ed_skip {c y : Nat} : ∀ d x, W ≤ x → x + d = 16 → bd_ct (bd_ed W H px L c) (4 * ((y + 1) * 16)) = bd_ct (bd_ed W H px L c) (4 * (y * 16 + x)) := by
  intro d
  induction d with
  | zero =>
    intro x _ hx
    rw [show (y + 1) * 16 = y * 16 + x from by omega]
  | succ d ih =>
    intro x hw hx
    rw [ih (x + 1) (by omega) (by omega)]
    exact bd_ed_no (i := y * 16 + x) (fun z => absurd z.1 (by omega))
theorem bd_ed_rows {c : Nat} (d : Nat) : bd_ct (bd_ed W H px L c) (4 * (H * 16 + d)) = bd_ct (bd_ed W H px L c) (4 * (H * 16)) := by
  induction d with
  | zero => rfl
  | succ d ih =>
    rw [← ih]
    exact bd_ed_no (i := H * 16 + d) (fun z => absurd z.2 (by omega))
theorem x_ce12 {post : St2 → Prop} {J2 : Int32 → Int32 → Int32 → Int32 → Int32 → (Nat → Int32) → (Nat → Int32) → (Nat → Int32) → (Nat → Int32) → (Nat → Int32) → (Nat → Int32) → (Nat → Int32) → (Nat → Int32) → (Nat → Int32) → (Nat → Int32) → Prop}
    (hF : bd_F W H px L t lb kn pa st) {y : Nat} (hy : y < H)
    (hJ : ∀ ln, (∀ c, bd_key W H px L c → ln (bd_N W H px L c) = nI (bd_ct (bd_ed W H px L c) (4 * ((y + 1) * 16)))) → J2 (nI (y + 1)) (nI W) (nI H) tr (nI t) px fl lb qu kn pa st ln ar ii) :
    ∀ e x, x + e = W → ∀ n, e < n → ∀ ln, (∀ c, bd_key W H px L c → ln (bd_N W H px L c) = nI (bd_ct (bd_ed W H px L c) (4 * (y * 16 + x)))) →
      wX_countEdges_12 post J2 (nI y) n (nI x) (nI W) (nI H) tr (nI t) px fl lb qu kn pa st ln ar ii := by
  have hW := hF.1.2.1
  have hH := hF.1.2.2.2.1
  intro e
  induction e with
  | zero =>
    intro x hx n hn ln h
    obtain ⟨n, rfl⟩ : ∃ m, n = m + 1 := ⟨n - 1, by omega⟩
    refine br_t (nI_le (by omega) (by omega)) (nm_r (nI_1 y) (hJ ln (fun c hc => ?_)))
    rw [bd_ed_skip (16 - x) x (by omega) (by omega)]
    exact h c hc
  | succ e ih =>
    intro x hx n hn ln h
    obtain ⟨n, rfl⟩ : ∃ m, n = m + 1 := ⟨n - 1, by omega⟩
    have hin : bd_in W H (y * 16 + x) := ⟨by omega, by omega⟩
    refine br_f (nI_ge (by omega) (by omega)) (x_ri ⟨vp_in_nI (by omega) (by omega), nm_r ((congrArg lb (nI_clamp (by omega))).trans (bd_F_lb hF hin)) ⟨5, ?_⟩⟩)
    refine x_ce34 hF (by omega) hy (fun ln h => ?_) 4 0 rfl 5 (by omega) ln h
    exact ih (x + 1) (by omega) n (by omega) ln h
theorem x_ce2 {post : St2 → Prop} (hF : bd_F W H px L t lb kn pa st)
    (hp : ∀ ln, (∀ c, bd_key W H px L c → ln (bd_N W H px L c) = nI (bd_ct (bd_ed W H px L c) 1024)) → post (nI W, nI H, tr, nI t, px, fl, lb, qu, kn, pa, st, ln, ar, ii)) :
    ∀ e y, y + e = H → ∀ n, e < n → ∀ ln, (∀ c, bd_key W H px L c → ln (bd_N W H px L c) = nI (bd_ct (bd_ed W H px L c) (4 * (y * 16)))) →
      wX_countEdges_2 post n (nI y) (nI W) (nI H) tr (nI t) px fl lb qu kn pa st ln ar ii := by
  have hW := hF.1.2.1
  have hH := hF.1.2.2.2.1
  intro e
  induction e with
  | zero =>
    intro y hy n hn ln h
    obtain ⟨n, rfl⟩ : ∃ m, n = m + 1 := ⟨n - 1, by omega⟩
    have hy' : y = H := by omega
    subst hy'
    refine br_t (nI_le (by omega) (by omega)) (hp ln (fun c hc => ?_))
    rw [h c hc, ← bd_ed_rows (256 - y * 16), show 4 * (y * 16 + (256 - y * 16)) = 1024 from by omega]
  | succ e ih =>
    intro y hy n hn ln h
    obtain ⟨n, rfl⟩ : ∃ m, n = m + 1 := ⟨n - 1, by omega⟩
    exact br_f (nI_ge (by omega) (by omega)) ⟨W + 1, x_ce12 hF (by omega) (fun ln h => ih (y + 1) (by omega) n (by omega) ln h) W 0 (by omega) (W + 1) (by omega) ln h⟩
theorem x_edges {post : St2 → Prop} (hF : bd_F W H px L t lb kn pa st) (h0 : ∀ c, bd_key W H px L c → ln (bd_N W H px L c) = 0)
    (hp : ∀ ln, (∀ c, bd_key W H px L c → ln (bd_N W H px L c) = nI (bd_ct (bd_ed W H px L c) 1024)) → post (nI W, nI H, tr, nI t, px, fl, lb, qu, kn, pa, st, ln, ar, ii)) : wpX_countEdges post (nI W, nI H, tr, nI t, px, fl, lb, qu, kn, pa, st, ln, ar, ii) :=
  ⟨H + 1, x_ce2 hF hp H 0 (by omega) (H + 1) (by omega) ln (fun c hc => h0 c hc)⟩
end
end
section
/-! sumAreas, and trace of the component whole -/
noncomputable def bd_arN (W H : Nat) (p : Nat → Int32) (L : Nat → Nat) (pa : Nat → Int32) (k : Nat) : Nat :=
  bd_ct (fun i => bd_in W H i ∧ bd_a (fun j => bd_dc (pa j)) k (bd_ow W H p L i) = true) 256
noncomputable def bd_fin (W H : Nat) (p : Nat → Int32) (L : Nat → Nat) (kn pa : Nat → Int32) (k : Nat) : Int32 :=
  if kn k = 2 then -nI (bd_arN W H p L pa k) else nI (bd_arN W H p L pa k)
section
variable {W H : Nat} {tr tt : Int32} {px fl lb qu kn pa st ln ar ii fg bg : Nat → Int32} {L : Nat → Nat} {t : Nat}
theorem bd_pp (hF : bd_F W H px L t lb kn pa st) {k : Nat} (hk : k < t) : pa k = bd_cd (bd_dc (pa k)) ∧ bd_dc (pa k) ≤ k := by
  obtain ⟨c, hc, rfl⟩ := bd_F_c hF hk
  have hp := bd_pv_le hF.1 hc
  have ht := bd_F_t hF
  rw [(hF.2.2.2 c hc).2.2, bd_dc_cd (by omega)]
  exact ⟨rfl, hp⟩
theorem bd_ppl (hF : bd_F W H px L t lb kn pa st) : ∀ j, j < t → (fun j => bd_dc (pa j)) j ≤ j := fun _ hj => (bd_pp hF hj).2
theorem bd_gc_ar (hF : bd_F W H px L t lb kn pa st) {k : Nat} (hk : k < t) : bd_gc (fun i => bd_in W H i) (fun j => bd_dc (pa j)) t (bd_ow W H px L) (t - 1 - k) k = bd_arN W H px L pa k :=
  bd_ct_eq fun i _ => ⟨fun z => ⟨z.1, (bd_g_end (bd_ppl hF) hk (bd_F_ow hF z.1)).mpr z.2⟩, fun z => ⟨z.1, (bd_g_end (bd_ppl hF) hk (bd_F_ow hF z.1)).mp z.2⟩⟩
theorem bd_lb_C (hF : bd_F W H px L t lb kn pa st) {i k : Nat} (hi : i < 256) (hk : k < t) (e : lb i = nI k) : bd_in W H i ∧ bd_ow W H px L i = k + 1 := by
  have ht := bd_F_t hF
  by_cases h : bd_in W H i
  · rw [bd_F_lb hF h, bd_cd_nI (bd_ow_lt hF.1 h) (by omega)] at e
    exact ⟨h, e⟩
  · rw [hF.2.2.1 i hi, bd_lab_out h] at e
    exact absurd e.symm (bd_nI_m2 (by omega))
def bd_S2 (W H : Nat) (p : Nat → Int32) (L : Nat → Nat) (kn pa : Nat → Int32) (t q : Nat) (ar : Nat → Int32) : Prop :=
  (∀ k, k < q → ar k = nI (bd_gc (fun i => bd_in W H i) (fun j => bd_dc (pa j)) t (bd_ow W H p L) (t - q) k)) ∧
  (∀ k, q ≤ k → k < t → ar k = bd_fin W H p L kn pa k)
theorem x_sa87 {post : St2 → Prop} {J : Int32 → (Nat → Int32) → (Nat → Int32) → (Nat → Int32) → (Nat → Int32) → (Nat → Int32) → (Nat → Int32) → (Nat → Int32) → (Nat → Int32) → (Nat → Int32) → (Nat → Int32) → Prop}
    {q : Nat} (hq : q < 256) (h2 : kn q = 2 → J (bd_cd q) px fl lb qu kn pa st ln (upd ar q (-(ar q))) ii) (h1 : ¬ kn q = 2 → J (bd_cd q) px fl lb qu kn pa st ln ar ii) : wX_sumAreas_87 post J (nI q) (nI W) (nI H) tr tt px fl lb qu kn pa st ln ar ii := by
  have hv : vp_in (nI q) 256 := vp_in_nI hq (by omega)
  have hc : (nI q).toNatClampNeg = q := nI_clamp (by omega)
  refine ⟨hv, ?_⟩
  rw [hc]
  exact br_c (fun e => ⟨hv, hv, nm_e (nm_r (bd_add q 0) (h2 e))⟩) (fun e => nm_r (bd_add q 0) (h1 e))
theorem x_sa50 {post : St2 → Prop} (hF : bd_F W H px L t lb kn pa st) (hp : ∀ ar, (∀ k, k < t → ar k = bd_fin W H px L kn pa k) → post (nI W, nI H, tr, nI t, px, fl, lb, qu, kn, pa, st, ln, ar, ii)) :
    ∀ q, q ≤ t → ∀ n, q < n → ∀ ar, bd_S2 W H px L kn pa t q ar → wX_sumAreas_50 post (nI W) (nI H) tr (nI t) n (bd_cd q) px fl lb qu kn pa st ln ar ii := by
  have ht := bd_F_t hF
  intro q
  induction q with
  | zero =>
    intro _ n hn ar h
    obtain ⟨n, rfl⟩ : ∃ m, n = m + 1 := ⟨n - 1, by omega⟩
    exact br_t (by decide) (hp ar (fun k hk => h.2 k (by omega) hk))
  | succ q ih =>
    intro hq n hn ar h
    obtain ⟨n, rfl⟩ : ∃ m, n = m + 1 := ⟨n - 1, by omega⟩
    obtain ⟨s1, s2⟩ := h
    have hv : vp_in (nI q) 256 := vp_in_nI (by omega) (by omega)
    obtain ⟨hpa, hpl⟩ := bd_pp hF (k := q) (by omega)
    have hd1 : t - (q + 1) < t := by omega
    have hd2 : t - 1 - (t - (q + 1)) = q := by omega
    have hd3 : t - (q + 1) + 1 = t - q := by omega
    have fin : ∀ ar1 : Nat → Int32, (∀ k, k < q → ar1 k = nI (bd_gc (fun i => bd_in W H i) (fun j => bd_dc (pa j)) t (bd_ow W H px L) (t - q) k)) →
        ar1 q = nI (bd_gc (fun i => bd_in W H i) (fun j => bd_dc (pa j)) t (bd_ow W H px L) (t - (q + 1)) q) → (∀ k, q + 1 ≤ k → k < t → ar1 k = bd_fin W H px L kn pa k) →
        wX_sumAreas_87 post (wX_sumAreas_50 post (nI W) (nI H) tr (nI t) n) (nI q) (nI W) (nI H) tr (nI t) px fl lb qu kn pa st ln ar1 ii := by
      intro ar1 a1 a2 a3
      have hq' := bd_gc_ar hF (k := q) (by omega)
      rw [show t - 1 - q = t - (q + 1) from by omega] at hq'
      rw [hq'] at a2
      refine x_sa87 (by omega) (fun e => ih (by omega) n (by omega) _ ⟨fun k hk => ?_, fun k hk1 hk2 => ?_⟩) (fun e => ih (by omega) n (by omega) _ ⟨a1, fun k hk1 hk2 => ?_⟩)
      · rw [pk_un (by omega)]; exact a1 k hk
      · by_cases ek : k = q
        · subst ek
          rw [pk_us, a2]
          unfold bd_fin
          rw [if_pos e]
        · rw [pk_un ek]; exact a3 k (by omega) hk2
      · by_cases ek : k = q
        · subst ek
          rw [a2]
          unfold bd_fin
          rw [if_neg e]
        · exact a3 k (by omega) hk2
    have hc : (nI q).toNatClampNeg = q := nI_clamp (by omega)
    rw [bd_cd_s]
    refine br_f (nI_pos (by omega)) ⟨hv, ?_⟩
    rw [hc]
    refine x_isC ht (fun m em hm => br_f bd_10 ?_) (fun hno => br_t rfl (fin ar (fun k hk => ?_) (s1 q (by omega)) s2))
    · have em' := em
      rw [hpa, bd_cd_nI (by omega) (by omega)] at em'
      have hvm : vp_in (nI m) 256 := vp_in_nI (by omega) (by omega)
      rw [em]
      refine ⟨hv, hvm, hv, hvm, nm_r (congrArg (fun z => upd ar z (ar z + ar q)) (nI_clamp (n := m) (by omega))) (fin _ (fun k hk => ?_) ?_ (fun k hk1 hk2 => ?_))⟩
      · by_cases ek : k = m
        · subst ek
          rw [pk_us, s1 k (by omega), s1 q (by omega), nI_add, ← hd3]
          have := bd_gc_t (I := fun i => bd_in W H i) (pp := fun j => bd_dc (pa j)) (own := bd_ow W H px L) (m := k) hd1 (by omega) (by rw [hd2]; exact em')
          rw [this, hd2]
        · rw [pk_un ek, s1 k (by omega), ← hd3]
          have := bd_gc_f (I := fun i => bd_in W H i) (pp := fun j => bd_dc (pa j)) (own := bd_ow W H px L) (m := k) hd1 (by omega) (by rw [hd2]; show bd_dc (pa q) ≠ k + 1; omega)
          rw [this]
      · rw [pk_un (by omega)]; exact s1 q (by omega)
      · rw [pk_un (by omega)]; exact s2 k hk1 hk2
    · have h0 : bd_dc (pa q) = 0 := by
        rcases Nat.eq_zero_or_pos (bd_dc (pa q)) with z | z
        · exact z
        · refine (hno (bd_dc (pa q) - 1) ?_ (by omega)).elim
          have := (bd_cd_nI (a := bd_dc (pa q)) (k := bd_dc (pa q) - 1) (by omega) (by omega)).mpr (by omega)
          exact hpa.trans this
      rw [s1 k (by omega), ← hd3]
      have := bd_gc_f (I := fun i => bd_in W H i) (pp := fun j => bd_dc (pa j)) (own := bd_ow W H px L) (m := k) hd1 (by omega) (by rw [hd2]; show bd_dc (pa q) ≠ k + 1; omega)
      rw [this]
theorem x_sa2 {post : St2 → Prop} (hF : bd_F W H px L t lb kn pa st) (hp : ∀ ar, (∀ k, k < t → ar k = bd_fin W H px L kn pa k) → post (nI W, nI H, tr, nI t, px, fl, lb, qu, kn, pa, st, ln, ar, ii)) :
    ∀ d i, i + d = 256 → ∀ n, d < n → ∀ ar, (∀ k, k < t → ar k = nI (bd_ct (fun j => bd_in W H j ∧ bd_ow W H px L j = k + 1) i)) → wX_sumAreas_2 post (nI W) (nI H) tr (nI t) n (nI i) px fl lb qu kn pa st ln ar ii := by
  have ht := bd_F_t hF
  intro d
  induction d with
  | zero =>
    intro i hi n hn ar h
    obtain ⟨n, rfl⟩ : ∃ m, n = m + 1 := ⟨n - 1, by omega⟩
    have : i = 256 := by omega
    subst this
    refine br_t (nI_le (a := 256) (by omega) (by omega)) (nm_r (bd_sub1 t) ⟨t + 1, x_sa50 hF hp t (Nat.le_refl t) (t + 1) (by omega) ar ⟨fun k hk => ?_, fun k h1 h2 => absurd h2 (by omega)⟩⟩)
    rw [Nat.sub_self]
    exact h k hk
  | succ d ih =>
    intro i hi n hn ar h
    obtain ⟨n, rfl⟩ : ∃ m, n = m + 1 := ⟨n - 1, by omega⟩
    have hv : vp_in (nI i) 256 := vp_in_nI (by omega) (by omega)
    refine br_f (nI_ge (b := 256) (by omega) (by omega)) ⟨hv, ?_⟩
    rw [nI_clamp (n := i) (by omega)]
    refine x_isC ht (fun k ek hk => br_f bd_10 ?_) (fun hno => br_t rfl (nm_r (nI_1 i) (ih (i + 1) (by omega) n (by omega) ar (fun k hk => ?_))))
    · obtain ⟨b1, b2⟩ := bd_lb_C hF (by omega) hk ek
      have hvk : vp_in (nI k) 256 := vp_in_nI (by omega) (by omega)
      rw [ek]
      refine ⟨hv, hvk, hvk, nm_r (congrArg (fun z => upd ar z (ar z + 1)) (nI_clamp (n := k) (by omega))) (nm_r (nI_1 i) (ih (i + 1) (by omega) n (by omega) _ (fun m hm => ?_)))⟩
      by_cases em : m = k
      · subst em
        rw [pk_us, h m hm, bd_ct_t (P := fun j => bd_in W H j ∧ bd_ow W H px L j = m + 1) ⟨b1, b2⟩, nI_1]
      · rw [pk_un em, h m hm, bd_ct_f (P := fun j => bd_in W H j ∧ bd_ow W H px L j = m + 1) (fun z => em (by have := z.2; omega))]
    · rw [h k hk, bd_ct_f (P := fun j => bd_in W H j ∧ bd_ow W H px L j = k + 1) (fun z => hno k (by rw [bd_F_lb hF z.1, z.2]; rfl) hk)]
theorem x_areas {post : St2 → Prop} (hF : bd_F W H px L t lb kn pa st) (h0 : ∀ k, k < t → ar k = 0) (hp : ∀ ar, (∀ k, k < t → ar k = bd_fin W H px L kn pa k) → post (nI W, nI H, tr, nI t, px, fl, lb, qu, kn, pa, st, ln, ar, ii)) : wpX_sumAreas post (nI W, nI H, tr, nI t, px, fl, lb, qu, kn, pa, st, ln, ar, ii) :=
  ⟨257, x_sa2 hF hp 256 0 rfl 257 (by omega) ar (fun k hk => h0 k hk)⟩
theorem x_trace {post : Int32 → St2 → Prop} (hC : bd_C W H px L) (hfl : ∀ j, 256 ≤ j → fl j = 0)
    (hp : ∀ lb qu ln ar, bd_F W H px L (bd_N W H px L 256) lb (bd_A W H px L (bd_kd W H px L) kn 256) (bd_A W H px L (fun i => bd_cd (bd_pv W H px L i)) pa 256) (bd_A W H px L nI st 256) →
      (∀ c, bd_key W H px L c → ln (bd_N W H px L c) = nI (bd_ct (bd_ed W H px L c) 1024)) →
      (∀ k, k < bd_N W H px L 256 → ar k = bd_fin W H px L (bd_A W H px L (bd_kd W H px L) kn 256) (bd_A W H px L (fun i => bd_cd (bd_pv W H px L i)) pa 256) k) →
      post (nI (bd_N W H px L 256)) (nI W, nI H, 1, nI (bd_N W H px L 256), px, fun _ => 0, lb, qu, bd_A W H px L (bd_kd W H px L) kn 256, bd_A W H px L (fun i => bd_cd (bd_pv W H px L i)) pa 256, bd_A W H px L nI st 256, ln, ar, ii)) :
    wpX_trace post (nI W, nI H, tr, tt, px, fl, lb, qu, kn, pa, st, ln, ar, ii) := by
  unfold wpX_trace
  dsimp only
  refine x_clr ?_ hfl
  dsimp only
  refine x_cll (fun lb h2 => ?_)
  dsimp only
  refine x_out hC h2 (fun lb qu hl => ?_)
  dsimp only
  refine ⟨H + 1, x_tr19 (kn0 := kn) (pa0 := pa) (st0 := st) (ln0 := ln) (ar0 := ar) hC (fun tt lb qu kn' pa' st' ln' ar' hT => ?_) H 0 (by omega) (H + 1) (by omega) _ _ _ _ _ _ _ _ ⟨rfl, fun j hj => hl j hj, rfl, rfl, rfl, rfl, rfl⟩⟩
  obtain ⟨rfl, t2, rfl, rfl, rfl, rfl, rfl⟩ := hT
  have hF : bd_F W H px L (bd_N W H px L 256) lb (bd_A W H px L (bd_kd W H px L) kn 256) (bd_A W H px L (fun i => bd_cd (bd_pv W H px L i)) pa 256) (bd_A W H px L nI st 256) := by
    refine ⟨hC, rfl, t2, fun c hc => ?_⟩
    have h := bd_key_lt hC hc
    exact ⟨bd_A_key hc h, bd_A_key hc h, bd_A_key hc h⟩
  refine x_edges hF (fun c hc => bd_A_key hc (bd_key_lt hC hc)) (fun ln hln => ?_)
  dsimp only
  refine x_areas hF (fun k hk => ?_) (fun ar har => ?_)
  · obtain ⟨c, hc, rfl⟩ := bd_F_c hF hk
    exact bd_A_key hc (bd_key_lt hC hc)
  · exact hp _ _ _ _ hF hln har
end
end
section
/-! toggles and fills: pure pictures, and the component's walks -/
def bd_tg (Q : Nat → Bool) (fl : Nat → Int32) (n : Nat) : Nat → Int32 := fun j => if j < n ∧ Q j = true then 1 - fl j else fl j
theorem bd_tg_0 (Q : Nat → Bool) (fl : Nat → Int32) : bd_tg Q fl 0 = fl := by
  funext j
  exact if_neg (fun z => absurd z.1 (Nat.not_lt_zero j))
theorem bd_tg_ge {Q : Nat → Bool} {fl : Nat → Int32} {n j : Nat} (h : n ≤ j) : bd_tg Q fl n j = fl j := if_neg (fun z => absurd z.1 (by omega))
theorem bd_tg_f {Q : Nat → Bool} {fl : Nat → Int32} {n : Nat} (h : Q n = false) : bd_tg Q fl (n + 1) = bd_tg Q fl n := by
  funext j
  unfold bd_tg
  by_cases e : j = n
  · subst e
    rw [if_neg (fun z => absurd (h.symm.trans z.2) (by decide)), if_neg (fun z => absurd z.1 (by omega))]
  · by_cases z : j < n ∧ Q j = true
    · rw [if_pos z, if_pos ⟨by omega, z.2⟩]
    · rw [if_neg z, if_neg (fun y => z ⟨by omega, y.2⟩)]
theorem bd_tg_t {Q : Nat → Bool} {fl : Nat → Int32} {n : Nat} (h : Q n = true) : upd (bd_tg Q fl n) n (1 - bd_tg Q fl n n) = bd_tg Q fl (n + 1) := by
  funext j
  by_cases e : j = n
  · subst e
    rw [pk_us, bd_tg_ge (Nat.le_refl j)]
    exact (if_pos ⟨by omega, h⟩).symm
  · rw [pk_un e]
    unfold bd_tg
    by_cases z : j < n ∧ Q j = true
    · rw [if_pos z, if_pos ⟨by omega, z.2⟩]
    · rw [if_neg z, if_neg (fun y => z ⟨by omega, y.2⟩)]
/-- is cell j inside contour k -/
def bd_Qk (W H : Nat) (p : Nat → Int32) (L : Nat → Nat) (pa : Nat → Int32) (k j : Nat) : Bool := decide (bd_in W H j) && bd_a (fun i => bd_dc (pa i)) k (bd_ow W H p L j)
def bd_fa (Q : Nat → Nat → Bool) : Nat → Nat → Int32
  | 0 => fun _ => 0
  | k + 1 => bd_tg (Q k) (bd_fa Q k) 256
def bd_sm (fl : Nat → Int32) : Nat → Int32
  | 0 => 0
  | n + 1 => bd_sm fl n + fl n
theorem bd_nb1 : vp_nar .boolean 1 = 1 := rfl
theorem bd_nb0 : vp_nar .boolean 0 = 0 := rfl
section
variable {W H : Nat} {tr tt : Int32} {px fl lb qu kn pa st ln ar ii fg bg : Nat → Int32} {L : Nat → Nat} {t : Nat}
theorem bd_Q_in {k j : Nat} (h : bd_in W H j) : bd_Qk W H px L pa k j = bd_a (fun i => bd_dc (pa i)) k (bd_ow W H px L j) := by
  unfold bd_Qk
  rw [decide_eq_true h, Bool.true_and]
theorem bd_Q_out {k j : Nat} (h : ¬ bd_in W H j) : bd_Qk W H px L pa k j = false := by
  unfold bd_Qk
  rw [decide_eq_false h, Bool.false_and]
theorem x_mk2 {post : St2 → Prop} (hF : bd_F W H px L t lb kn pa st) {k : Nat} (hk : k < t) (hp : ∀ ii, (∀ j, j < t → (ii j = 0 ↔ bd_a (fun i => bd_dc (pa i)) k (j + 1) = false)) → post (nI W, nI H, tr, nI t, px, fl, lb, qu, kn, pa, st, ln, ar, ii)) :
    ∀ d i, i + d = t → ∀ n, d < n → ∀ ii, (∀ j, j < i → (ii j = 0 ↔ bd_a (fun i => bd_dc (pa i)) k (j + 1) = false)) → wX_markInterior_2 post (nI k) (nI W) (nI H) tr (nI t) n (nI i) px fl lb qu kn pa st ln ar ii := by
  have ht := bd_F_t hF
  intro d
  induction d with
  | zero =>
    intro i hi n hn ii h
    obtain ⟨n, rfl⟩ : ∃ m, n = m + 1 := ⟨n - 1, by omega⟩
    exact br_t (nI_le (by omega) (by omega)) (hp ii (fun j hj => h j (by omega)))
  | succ d ih =>
    intro i hi n hn ii h
    obtain ⟨n, rfl⟩ : ∃ m, n = m + 1 := ⟨n - 1, by omega⟩
    have hv : vp_in (nI i) 256 := vp_in_nI (by omega) (by omega)
    have hc : (nI i).toNatClampNeg = i := nI_clamp (by omega)
    have next : ∀ x : Int32, (x = 0 ↔ bd_a (fun i => bd_dc (pa i)) k (i + 1) = false) → ∀ a, a = upd ii i x → ∀ z, z = nI i + 1 → wX_markInterior_2 post (nI k) (nI W) (nI H) tr (nI t) n z px fl lb qu kn pa st ln ar a := by
      intro x hx a ea z ez
      rw [ea, ez, nI_1]
      refine ih (i + 1) (by omega) n (by omega) _ (fun j hj => ?_)
      by_cases e : j = i
      · subst e; rw [pk_us]; exact hx
      · rw [pk_un e]; exact h j (by omega)
    have ha := bd_a_s (bd_ppl hF) (k := k) (j := i) (by omega)
    obtain ⟨hpa, hpl⟩ := bd_pp hF (k := i) (by omega)
    refine br_f (nI_ge (by omega) (by omega)) ?_
    rw [hc]
    refine br_c (fun e => ⟨hv, next _ ?_⟩) (fun e => ⟨hv, ?_⟩)
    · rw [nI_eq (by omega) (by omega)] at e
      rw [if_pos e] at ha
      rw [ha]
      exact ⟨fun z => absurd z (by decide), fun z => absurd z (by decide)⟩
    · rw [nI_eq (by omega) (by omega)] at e
      rw [if_neg e] at ha
      refine x_isC ht (fun m em hm => br_f bd_10 ?_) (fun hno => br_t rfl ⟨hv, next _ ?_⟩)
      · have em' := em
        rw [hpa, bd_cd_nI (by omega) (by omega)] at em'
        have hvm : vp_in (nI m) 256 := vp_in_nI (by omega) (by omega)
        have hm' := h m (by omega)
        have ha' : bd_a (fun i => bd_dc (pa i)) k (i + 1) = bd_a (fun i => bd_dc (pa i)) k (m + 1) := by
          rw [ha]
          show bd_a (fun i => bd_dc (pa i)) k (bd_dc (pa i)) = _
          rw [em']
        rw [em, nI_clamp (n := m) (by omega)]
        refine ⟨hv, hvm, br_c (fun z => ⟨hv, next _ ?_⟩) (fun z => ⟨hv, next _ ?_⟩)⟩
        · rw [ha']
          exact ⟨fun _ => hm'.mp z, fun _ => rfl⟩
        · rw [ha']
          exact ⟨fun y => absurd y (by decide), fun y => absurd (hm'.mpr y) z⟩
      · have h0 : bd_dc (pa i) = 0 := by
          rcases Nat.eq_zero_or_pos (bd_dc (pa i)) with z | z
          · exact z
          · refine (hno (bd_dc (pa i) - 1) ?_ (by omega)).elim
            have := (bd_cd_nI (a := bd_dc (pa i)) (k := bd_dc (pa i) - 1) (by omega) (by omega)).mpr (by omega)
            exact hpa.trans this
        have ha' : bd_a (fun i => bd_dc (pa i)) k (i + 1) = false := by
          rw [ha]
          show bd_a (fun i => bd_dc (pa i)) k (bd_dc (pa i)) = _
          rw [h0]
          rfl
        exact ⟨fun _ => ha', fun _ => rfl⟩
theorem x_tg7 {post : St2 → Prop} (hF : bd_F W H px L t lb kn pa st) {k : Nat} (hii : ∀ j, j < t → (ii j = 0 ↔ bd_a (fun i => bd_dc (pa i)) k (j + 1) = false)) (hp : post (nI W, nI H, tr, nI t, px, bd_tg (bd_Qk W H px L pa k) fl 256, lb, qu, kn, pa, st, ln, ar, ii)) :
    ∀ d i, i + d = 256 → ∀ n, d < n → wX_toggleInterior_7 post (nI W) (nI H) tr (nI t) n (nI i) px (bd_tg (bd_Qk W H px L pa k) fl i) lb qu kn pa st ln ar ii := by
  have ht := bd_F_t hF
  intro d
  induction d with
  | zero =>
    intro i hi n hn
    obtain ⟨n, rfl⟩ : ∃ m, n = m + 1 := ⟨n - 1, by omega⟩
    have : i = 256 := by omega
    subst this
    exact br_t (nI_le (a := 256) (by omega) (by omega)) hp
  | succ d ih =>
    intro i hi n hn
    obtain ⟨n, rfl⟩ : ∃ m, n = m + 1 := ⟨n - 1, by omega⟩
    have hv : vp_in (nI i) 256 := vp_in_nI (by omega) (by omega)
    have next := ih (i + 1) (by omega) n (by omega)
    refine br_f (nI_ge (b := 256) (by omega) (by omega)) ⟨hv, ?_⟩
    rw [nI_clamp (n := i) (by omega)]
    refine x_isC ht (fun m em hm => br_f bd_10 ?_) (fun hno => br_t rfl (nm_r (nI_1 i) ?_))
    · obtain ⟨b1, b2⟩ := bd_lb_C hF (by omega) hm em
      have hvm : vp_in (nI m) 256 := vp_in_nI (by omega) (by omega)
      have hQ : bd_Qk W H px L pa k i = bd_a (fun i => bd_dc (pa i)) k (m + 1) := by rw [bd_Q_in b1, b2]
      rw [em, nI_clamp (n := m) (by omega)]
      refine ⟨hv, hvm, br_c (fun z => nm_r (nI_1 i) ?_) (fun z => ⟨hv, hv, nm_r (bd_tg_t (hQ.trans ?_)) (nm_r (nI_1 i) next)⟩)⟩
      · rw [bd_tg_f (hQ.trans ((hii m hm).mp z))] at next
        exact next
      · exact eq_true_of_ne_false (fun y => z ((hii m hm).mpr y))
    · have hQ : bd_Qk W H px L pa k i = false := by
        by_cases hin : bd_in W H i
        · have h0 : bd_ow W H px L i = 0 := by
            have hle := bd_F_ow hF hin
            rcases Nat.eq_zero_or_pos (bd_ow W H px L i) with z | z
            · exact z
            · refine (hno (bd_ow W H px L i - 1) ?_ (by omega)).elim
              have := (bd_cd_nI (a := bd_ow W H px L i) (k := bd_ow W H px L i - 1) (by omega) (by omega)).mpr (by omega)
              exact (bd_F_lb hF hin).trans this
          rw [bd_Q_in hin, h0]
          rfl
        · exact bd_Q_out hin
      rw [bd_tg_f hQ] at next
      exact next
theorem x_tog {post : St2 → Prop} (hF : bd_F W H px L t lb kn pa st) {k : Nat} (hk : k < t) (hp : ∀ ii, post (nI W, nI H, tr, nI t, px, bd_tg (bd_Qk W H px L pa k) fl 256, lb, qu, kn, pa, st, ln, ar, ii)) : wpX_toggleInterior post (nI W, nI H, tr, nI t, px, fl, lb, qu, kn, pa, st, ln, ar, ii) (nI k) := by
  unfold wpX_toggleInterior
  dsimp only
  refine ⟨t + 1, x_mk2 hF hk (fun ii hii => ⟨257, ?_⟩) t 0 (by omega) (t + 1) (by omega) ii (fun j hj => absurd hj (Nat.not_lt_zero j))⟩
  have := x_tg7 (qu := qu) (ln := ln) (ar := ar) (tr := tr) (fl := fl) (post := post) hF hii (hp ii) 256 0 rfl 257 (by omega)
  rw [bd_tg_0] at this
  exact this
theorem x_cf4 {post : Int32 → Prop} (hp : post (bd_sm fl 256)) : ∀ d i, i + d = 256 → ∀ n, d < n → wX_countFilled_4 post (nI W) (nI H) tr tt px fl lb qu kn pa st ln ar ii n (bd_sm fl i) (nI i) := by
  intro d
  induction d with
  | zero =>
    intro i hi n hn
    obtain ⟨n, rfl⟩ : ∃ m, n = m + 1 := ⟨n - 1, by omega⟩
    have : i = 256 := by omega
    subst this
    exact br_t (nI_le (a := 256) (by omega) (by omega)) hp
  | succ d ih =>
    intro i hi n hn
    obtain ⟨n, rfl⟩ : ∃ m, n = m + 1 := ⟨n - 1, by omega⟩
    refine br_f (nI_ge (b := 256) (by omega) (by omega)) ⟨vp_in_nI (by omega) (by omega), nm_r (congrArg (fun z => bd_sm fl i + fl z) (nI_clamp (n := i) (by omega))) (nm_r (nI_1 i) (ih (i + 1) (by omega) n (by omega)))⟩
theorem x_cf {post : Int32 → Prop} (hp : post (bd_sm fl 256)) : wpX_countFilled post (nI W, nI H, tr, tt, px, fl, lb, qu, kn, pa, st, ln, ar, ii) := ⟨257, x_cf4 hp 256 0 rfl 257 (by omega)⟩
theorem x_fa15 {post : Int32 → St2 → Prop} (hF : bd_F W H px L t lb kn pa st) (hp : ∀ ii, post (bd_sm (bd_fa (bd_Qk W H px L pa) t) 256) (nI W, nI H, tr, nI t, px, bd_fa (bd_Qk W H px L pa) t, lb, qu, kn, pa, st, ln, ar, ii)) :
    ∀ d k, k + d = t → ∀ n, d < n → ∀ ii, wX_fillAll_15 post n (nI k) (nI W) (nI H) tr (nI t) px (bd_fa (bd_Qk W H px L pa) k) lb qu kn pa st ln ar ii := by
  have ht := bd_F_t hF
  intro d
  induction d with
  | zero =>
    intro k hk n hn ii
    obtain ⟨n, rfl⟩ : ∃ m, n = m + 1 := ⟨n - 1, by omega⟩
    have : k = t := by omega
    subst this
    exact br_t (nI_le (by omega) (by omega)) (x_cf (hp ii))
  | succ d ih =>
    intro k hk n hn ii
    obtain ⟨n, rfl⟩ : ∃ m, n = m + 1 := ⟨n - 1, by omega⟩
    exact br_f (nI_ge (by omega) (by omega)) (x_tog hF (by omega) (fun ii => nm_r (nI_1 k) (ih (k + 1) (by omega) n (by omega) ii)))
theorem x_fill {post : Int32 → St2 → Prop} (hF : bd_F W H px L t lb kn pa st) (htr : ¬ tr = 0) (hfl : ∀ j, 256 ≤ j → fl j = 0) (hp : ∀ ii, post (bd_sm (bd_fa (bd_Qk W H px L pa) t) 256) (nI W, nI H, tr, nI t, px, bd_fa (bd_Qk W H px L pa) t, lb, qu, kn, pa, st, ln, ar, ii)) :
    wpX_fillAll post (nI W, nI H, tr, nI t, px, fl, lb, qu, kn, pa, st, ln, ar, ii) :=
  br_f htr (x_clr ⟨t + 1, x_fa15 hF hp t 0 (by omega) (t + 1) (by omega) ii⟩ hfl)
end
end
section
/-! the relation -/
def bd_B (W H : Nat) (p fl : Nat → Int32) : Prop :=
  1 ≤ W ∧ W ≤ 16 ∧ 1 ≤ H ∧ H ≤ 16 ∧ (∀ i, p i = 0 ∨ p i = 1) ∧ (∀ i, ¬ bd_in W H i → p i = 0 ∧ fl i = 0)
section
variable {W H t : Nat} {tr : Int32} {px fl lb qu kn pa st ln ar ii fg bg : Nat → Int32}
theorem bd_B_256 (h : bd_B W H px fl) : ∀ j, 256 ≤ j → fl j = 0 := fun j hj => (h.2.2.2.2.2 j (fun z => by
  have := h.2.2.2.1
  obtain ⟨_, b⟩ := z
  omega)).2
end
theorem bd_cl (x : Int32) : ∃ q : Nat, 1 ≤ q ∧ q ≤ 16 ∧ ((¬ 1 ≤ x ∧ q = 1) ∨ (1 ≤ x ∧ ¬ x ≤ 16 ∧ q = 16) ∨ (1 ≤ x ∧ x ≤ 16 ∧ x = nI q)) := by
  by_cases h1 : 1 ≤ x
  · by_cases h2 : x ≤ 16
    · have hn : ¬ x < 0 := fun z => by
        rw [Int32.lt_iff_toInt_lt, show (0 : Int32).toInt = 0 from by decide] at z
        rw [Int32.le_iff_toInt_le, show (1 : Int32).toInt = 1 from by decide] at h1
        omega
      obtain ⟨q, hq, e⟩ := nI_of2 (x := x) (M := 16) (n := 16) (by decide) hn h2
      refine ⟨q, ?_, hq, Or.inr (Or.inr ⟨h1, h2, e⟩)⟩
      rw [e, show (1 : Int32) = nI 1 from rfl, nI_leI (by omega) (by omega)] at h1
      exact h1
    · exact ⟨16, by omega, by omega, Or.inr (Or.inl ⟨h1, h2, rfl⟩)⟩
  · exact ⟨1, by omega, by omega, Or.inl ⟨h1, rfl⟩⟩
theorem x_cl {post : Int32 → Prop} {x : Int32} {q : Nat} (h : (¬ 1 ≤ x ∧ q = 1) ∨ (1 ≤ x ∧ ¬ x ≤ 16 ∧ q = 16) ∨ (1 ≤ x ∧ x ≤ 16 ∧ x = nI q)) (hp : post (nI q)) : wpX_clampSide post () x := by
  rcases h with ⟨h1, rfl⟩ | ⟨h1, h2, rfl⟩ | ⟨h1, h2, rfl⟩
  · exact br_f h1 hp
  · exact br_t h1 (br_f h2 hp)
  · exact br_t h1 (br_t h2 hp)
/-! the methods -/
theorem bd_shr1 (x : Int32) (s : Int32) : (((x.toUInt32 >>> (s.toUInt32 &&& Int32.toUInt32 31)).toInt32) &&& 1) = 0 ∨ (((x.toUInt32 >>> (s.toUInt32 &&& Int32.toUInt32 31)).toInt32) &&& 1) = 1 := by
  obtain ⟨j, hj, e⟩ := pk_andE ((x.toUInt32 >>> (s.toUInt32 &&& Int32.toUInt32 31)).toInt32) (m := 1) 1 (by decide)
  rw [e]
  have : j = 0 ∨ j = 1 := by omega
  rcases this with rfl | rfl
  · exact Or.inl rfl
  · exact Or.inr rfl
theorem bd_B_put {W H : Nat} {px fl : Nat → Int32} (h : bd_B W H px fl) {a b : Nat} (ha : a < W) (hb : b < H) {v : Int32} (hv : v = 0 ∨ v = 1) : bd_B W H (upd px (b * 16 + a) v) fl := by
  obtain ⟨h1, h2, h3, h4, h5, h6⟩ := h
  refine ⟨h1, h2, h3, h4, fun i => ?_, fun i hi => ?_⟩
  · by_cases e : i = b * 16 + a
    · rw [e, pk_us]; exact hv
    · rw [pk_un e]; exact h5 i
  · rw [pk_un]
    · exact h6 i hi
    · intro e
      exact hi ⟨by omega, by omega⟩
theorem bd_B_fl {W H : Nat} {px fl : Nat → Int32} (h : bd_B W H px fl) {fl' : Nat → Int32} (hf : ∀ i, ¬ bd_in W H i → fl' i = 0) : bd_B W H px fl' := by
  obtain ⟨h1, h2, h3, h4, h5, h6⟩ := h
  exact ⟨h1, h2, h3, h4, h5, fun i hi => ⟨(h6 i hi).1, hf i hi⟩⟩
section
variable {W H t : Nat} {tr tt : Int32} {px fl lb qu kn pa st ln ar ii fg bg : Nat → Int32}
/-- a row's bits, cell by cell -/
def bd_row (px : Nat → Int32) (b : Nat) (x : Int32) : Nat → Nat → Int32
  | 0 => px
  | a + 1 => upd (bd_row px b x a) (b * 16 + a) (((x.toUInt32 >>> ((nI a).toUInt32 &&& Int32.toUInt32 31)).toInt32) &&& 1)
theorem bd_B_row (h : bd_B W H px fl) {b : Nat} (hb : b < H) (x : Int32) : ∀ {a : Nat}, a ≤ W → bd_B W H (bd_row px b x a) fl
  | 0, _ => h
  | a + 1, ha => bd_B_put (bd_B_row h hb x (by omega)) (by omega) hb (bd_shr1 _ _)
theorem x_row {post : Int32 → St2 → Prop} {b : Nat} {x : Int32} (hW : W ≤ 16) (hH : H ≤ 16) (hb : b < H) (h256 : ∀ j, 256 ≤ j → fl j = 0) (hp : post 1 (nI W, nI H, 0, 0, bd_row px b x W, fun _ => 0, lb, qu, kn, pa, st, ln, ar, ii)) :
    ∀ e a, a + e = W → ∀ n, e < n → wX_setRow_16 post (nI b) x (nI W) (nI H) tr tt n (nI a) (bd_row px b x a) fl lb qu kn pa st ln ar ii := by
  intro e
  induction e with
  | zero =>
    intro a ha n hn
    obtain ⟨n, rfl⟩ : ∃ m, n = m + 1 := ⟨n - 1, by omega⟩
    have : a = W := by omega
    subst this
    exact br_t (nI_le (by omega) (by omega)) (x_inv hp h256)
  | succ e ih =>
    intro a ha n hn
    obtain ⟨n, rfl⟩ : ∃ m, n = m + 1 := ⟨n - 1, by omega⟩
    exact br_f (nI_ge (by omega) (by omega)) (x_ri ⟨vp_in_nI (by omega) (by omega), nm_r (congrArg (fun z => upd (bd_row px b x a) z (((x.toUInt32 >>> ((nI a).toUInt32 &&& Int32.toUInt32 31)).toInt32) &&& 1)) (nI_clamp (by omega))) (nm_r (nI_1 a) (ih (a + 1) (by omega) n (by omega)))⟩)
end
theorem bd_tg_out {W H : Nat} {px : Nat → Int32} {L : Nat → Nat} {pa fl : Nat → Int32} {k n i : Nat} (hi : ¬ bd_in W H i) : bd_tg (bd_Qk W H px L pa k) fl n i = fl i :=
  if_neg (fun z => absurd ((bd_Q_out hi).symm.trans z.2) (by decide))
theorem bd_fa_out {W H : Nat} {px : Nat → Int32} {L : Nat → Nat} {pa : Nat → Int32} {i : Nat} (hi : ¬ bd_in W H i) : ∀ k, bd_fa (bd_Qk W H px L pa) k i = 0
  | 0 => rfl
  | k + 1 => (bd_tg_out hi).trans (bd_fa_out hi k)
section
variable {W H t : Nat} {tr tt : Int32} {px fl lb qu kn pa st ln ar ii fg bg : Nat → Int32}
end
end
section
/-! children and even-odd: pure -/
section
variable {pp : Nat → Nat} {t : Nat}
theorem bd_c1 (hp : ∀ j, j < t → pp j ≤ j) {k : Nat} : ∀ q, q ≤ t → bd_a pp k q = true → q ≠ k + 1 → ∃ j, j < t ∧ pp j = k + 1 ∧ bd_a pp j q = true := by
  intro q
  induction q using Nat.strongRecOn with
  | ind q ih =>
    intro hq ha hn
    cases q with
    | zero =>
      rw [bd_a_0] at ha
      exact absurd ha (by decide)
    | succ m =>
      rw [bd_a_s hp (by omega), if_neg (by omega)] at ha
      have hm := hp m (by omega)
      by_cases e : pp m = k + 1
      · exact ⟨m, by omega, e, bd_a_self hp (by omega)⟩
      · obtain ⟨j, j1, j2, j3⟩ := ih (pp m) (by omega) (by omega) ha e
        refine ⟨j, j1, j2, ?_⟩
        rw [bd_a_s hp (by omega)]
        by_cases z : m = j
        · rw [if_pos z]
        · rw [if_neg z]; exact j3
theorem bd_c2 (hp : ∀ j, j < t → pp j ≤ j) {k j : Nat} (hj : j < t) (e : pp j = k + 1) : ∀ q, q ≤ t → bd_a pp j q = true → bd_a pp k q = true ∧ q ≠ k + 1 := by
  have hk : k < j := by
    have := hp j hj
    omega
  intro q
  induction q using Nat.strongRecOn with
  | ind q ih =>
    intro hq ha
    cases q with
    | zero =>
      rw [bd_a_0] at ha
      exact absurd ha (by decide)
    | succ m =>
      rw [bd_a_s hp (by omega)] at ha
      have hm := hp m (by omega)
      by_cases z : m = j
      · subst z
        rw [bd_a_s hp (by omega), if_neg (by omega), e]
        exact ⟨bd_a_self hp (by omega), by omega⟩
      · rw [if_neg z] at ha
        obtain ⟨a1, a2⟩ := ih (pp m) (by omega) (by omega) ha
        refine ⟨?_, fun y => ?_⟩
        · rw [bd_a_s hp (by omega)]
          by_cases y : m = k
          · rw [if_pos y]
          · rw [if_neg y]; exact a1
        · rw [bd_a_low hp (pp m) (by omega) (by omega)] at ha
          exact absurd ha (by decide)
theorem bd_c3 (hp : ∀ j, j < t → pp j ≤ j) {k j i : Nat} (hj : j < t) (hi : i < t) (e : pp j = k + 1) (f : pp i = k + 1) : ∀ q, q ≤ t → bd_a pp j q = true → bd_a pp i q = true → j = i := by
  have hj' := hp j hj
  have hi' := hp i hi
  intro q
  induction q using Nat.strongRecOn with
  | ind q ih =>
    intro hq ha hb
    cases q with
    | zero =>
      rw [bd_a_0] at ha
      exact absurd ha (by decide)
    | succ m =>
      rw [bd_a_s hp (by omega)] at ha hb
      have hm := hp m (by omega)
      by_cases z : m = j
      · by_cases y : m = i
        · omega
        · subst z
          rw [if_neg y, bd_a_low hp (pp m) (by omega) (by omega)] at hb
          exact absurd hb (by decide)
      · rw [if_neg z] at ha
        by_cases y : m = i
        · subst y
          rw [bd_a_low hp (pp m) (by omega) (by omega)] at ha
          exact absurd ha (by decide)
        · rw [if_neg y] at hb
          exact ih (pp m) (by omega) (by omega) ha hb
theorem bd_fl_s (q k : Nat) : bd_fl pp q (k + 1) = if bd_a pp k q = true then !(bd_fl pp q k) else bd_fl pp q k := rfl
theorem bd_fl_0 : ∀ n, bd_fl pp 0 n = false
  | 0 => rfl
  | n + 1 => by
    rw [bd_fl_s, bd_a_0, if_neg (by decide)]
    exact bd_fl_0 n
theorem bd_fl_lo (hp : ∀ j, j < t → pp j ≤ j) {j : Nat} (hj : j < t) : ∀ n, n ≤ j → bd_fl pp (j + 1) n = bd_fl pp (pp j) n
  | 0, _ => rfl
  | n + 1, h => by
    rw [bd_fl_s, bd_fl_s, bd_fl_lo hp hj n (by omega), bd_a_s hp hj, if_neg (show ¬ j = n by omega)]
theorem bd_fl_hi (hp : ∀ j, j < t → pp j ≤ j) {j : Nat} (hj : j < t) : ∀ d, bd_fl pp (j + 1) (j + 1 + d) = !(bd_fl pp (pp j) (j + 1 + d))
  | 0 => by
    have hm := hp j hj
    show bd_fl pp (j + 1) (j + 1) = !(bd_fl pp (pp j) (j + 1))
    rw [bd_fl_s, bd_fl_s, bd_a_self hp hj, if_pos rfl, bd_a_low hp (pp j) hm (by omega), if_neg (by decide), bd_fl_lo hp hj j (Nat.le_refl j)]
  | d + 1 => by
    have ih := bd_fl_hi hp hj d
    show bd_fl pp (j + 1) ((j + 1 + d) + 1) = !(bd_fl pp (pp j) ((j + 1 + d) + 1))
    rw [bd_fl_s, bd_fl_s, ih, bd_a_s hp hj, if_neg (show ¬ j = j + 1 + d by omega)]
    by_cases z : bd_a pp (j + 1 + d) (pp j) = true
    · rw [if_pos z, if_pos z]
    · rw [if_neg z, if_neg z]
theorem bd_fl_col (hp : ∀ j, j < t → pp j ≤ j) {col : Nat → Bool} (h0 : col 0 = false) (hc : ∀ j, j < t → col (j + 1) = !(col (pp j))) : ∀ q, q ≤ t → bd_fl pp q t = col q := by
  intro q
  induction q using Nat.strongRecOn with
  | ind q ih =>
    intro hq
    cases q with
    | zero => rw [bd_fl_0, h0]
    | succ j =>
      have hm := hp j (by omega)
      have e := bd_fl_hi hp (j := j) (by omega) (t - (j + 1))
      rw [show j + 1 + (t - (j + 1)) = t from by omega] at e
      rw [e, hc j (by omega), ih (pp j) (by omega) (by omega)]
end
/-- the areas of the children of k among the first j contours, together -/
noncomputable def bd_ch (W H : Nat) (p : Nat → Int32) (L : Nat → Nat) (pa : Nat → Int32) (k : Nat) : Nat → Nat
  | 0 => 0
  | j + 1 => if bd_dc (pa j) = k + 1 then bd_ch W H p L pa k j + bd_arN W H p L pa j else bd_ch W H p L pa k j
def bd_col (kn : Nat → Int32) : Nat → Bool
  | 0 => false
  | j + 1 => decide (kn j = 1)
section
variable {W H t : Nat} {px fl lb kn pa st : Nat → Int32} {L : Nat → Nat}
theorem bd_ch_s (k j : Nat) : bd_ch W H px L pa k (j + 1) = if bd_dc (pa j) = k + 1 then bd_ch W H px L pa k j + bd_arN W H px L pa j else bd_ch W H px L pa k j := rfl
theorem bd_ch_ct (hF : bd_F W H px L t lb kn pa st) (k : Nat) : ∀ j, j ≤ t → bd_ct (fun i => bd_in W H i ∧ ∃ m, m < j ∧ bd_dc (pa m) = k + 1 ∧ bd_a (fun j => bd_dc (pa j)) m (bd_ow W H px L i) = true) 256 = bd_ch W H px L pa k j
  | 0, _ => bd_ct_z (fun i _ z => by
    obtain ⟨_, m, hm, _⟩ := z
    omega)
  | j + 1, hj => by
    have ih := bd_ch_ct hF k j (by omega)
    rw [bd_ch_s, ← ih]
    by_cases e : bd_dc (pa j) = k + 1
    · rw [if_pos e]
      refine bd_ct_or (fun i _ => ⟨fun z => ?_, fun z => ?_⟩) (fun i _ h1 h2 => ?_)
      · obtain ⟨z1, m, m1, m2, m3⟩ := z
        by_cases em : m = j
        · subst em
          exact Or.inr ⟨z1, m3⟩
        · exact Or.inl ⟨z1, m, by omega, m2, m3⟩
      · rcases z with ⟨z1, m, m1, m2, m3⟩ | ⟨z1, z2⟩
        · exact ⟨z1, m, by omega, m2, m3⟩
        · exact ⟨z1, j, by omega, e, z2⟩
      · obtain ⟨z1, m, m1, m2, m3⟩ := h1
        have := bd_c3 (bd_ppl hF) (k := k) (j := m) (i := j) (by omega) (by omega) m2 e _ (bd_F_ow hF z1) m3 h2.2
        omega
    · rw [if_neg e]
      refine bd_ct_eq (fun i _ => ⟨fun z => ?_, fun z => ?_⟩)
      · obtain ⟨z1, m, m1, m2, m3⟩ := z
        have : m ≠ j := fun y => e (y ▸ m2)
        exact ⟨z1, m, by omega, m2, m3⟩
      · obtain ⟨z1, m, m1, m2, m3⟩ := z
        exact ⟨z1, m, by omega, m2, m3⟩
theorem bd_area (hF : bd_F W H px L t lb kn pa st) {k : Nat} (hk : k < t) : bd_arN W H px L pa k = bd_ct (fun i => bd_in W H i ∧ bd_ow W H px L i = k + 1) 256 + bd_ch W H px L pa k t := by
  rw [← bd_ch_ct hF k t (Nat.le_refl t)]
  refine bd_ct_or (fun i _ => ⟨fun z => ?_, fun z => ?_⟩) (fun i _ h1 h2 => ?_)
  · by_cases e : bd_ow W H px L i = k + 1
    · exact Or.inl ⟨z.1, e⟩
    · obtain ⟨j, j1, j2, j3⟩ := bd_c1 (bd_ppl hF) (k := k) _ (bd_F_ow hF z.1) z.2 e
      exact Or.inr ⟨z.1, j, j1, j2, j3⟩
  · rcases z with ⟨z1, z2⟩ | ⟨z1, m, m1, m2, m3⟩
    · refine ⟨z1, ?_⟩
      rw [z2]
      exact bd_a_self (bd_ppl hF) hk
    · exact ⟨z1, (bd_c2 (bd_ppl hF) (k := k) m1 m2 _ (bd_F_ow hF z1) m3).1⟩
  · obtain ⟨z1, m, m1, m2, m3⟩ := h2
    exact (bd_c2 (bd_ppl hF) (k := k) m1 m2 _ (bd_F_ow hF z1) m3).2 h1.2
theorem bd_col_in (hF : bd_F W H px L t lb kn pa st) {i : Nat} (hi : bd_in W H i) : bd_col kn (bd_ow W H px L i) = decide (px i = 1) := by
  rcases hF.1.2.2.2.2.1 i with e | e
  · rw [decide_eq_false (by rw [e]; exact bd_01)]
    by_cases hn : L i = 0
    · rw [bd_ow_0 hn]
      rfl
    · obtain ⟨a1, _, _⟩ := bd_kc_bg hF.1 hi e hn
      rw [bd_ow_n hn]
      show decide (kn (bd_N W H px L (bd_kc px L i)) = 1) = false
      rw [(hF.2.2.2 _ (Or.inr a1)).1, show bd_kd W H px L (bd_kc px L i) = 2 from if_neg (bd_excl hF.1 a1)]
      decide
  · rw [decide_eq_true e]
    obtain ⟨a1, _, a3⟩ := bd_kc_fg hF.1 hi e
    rw [bd_ow_n (by omega)]
    show decide (kn (bd_N W H px L (bd_kc px L i)) = 1) = true
    rw [(hF.2.2.2 _ (Or.inl a1)).1, show bd_kd W H px L (bd_kc px L i) = 1 from if_pos a1]
    decide
theorem bd_col_alt (hF : bd_F W H px L t lb kn pa st) {j : Nat} (hj : j < t) : bd_col kn (j + 1) = !(bd_col kn (bd_dc (pa j))) := by
  obtain ⟨c, hc, rfl⟩ := bd_F_c hF hj
  have hN := bd_N_le (W := W) (H := H) (p := px) (L := L) c
  have hp := bd_pv_le hF.1 hc
  have hc256 := bd_key_lt hF.1 hc
  obtain ⟨f1, f2, f3⟩ := hF.2.2.2 c hc
  rw [f3, bd_dc_cd (by omega)]
  show decide (kn (bd_N W H px L c) = 1) = _
  rw [f1]
  unfold bd_pv
  by_cases ho : bd_ok W H px L c
  · rw [show bd_kd W H px L c = 1 from if_pos ho, if_pos ho]
    by_cases hx : c % 16 = 0
    · rw [if_pos hx]
      show decide ((1 : Int32) = 1) = !false
      decide
    · obtain ⟨l1, l2⟩ := bd_left hF.1 ho hx
      rw [if_neg hx, bd_col_in hF l1, l2]
      decide
  · obtain ⟨p1, p2⟩ := bd_key_p hF.1 hc
    rw [show bd_kd W H px L c = 2 from if_neg ho, if_neg ho, bd_col_in hF p1, p2]
    decide
theorem bd_fa_fl (hF : bd_F W H px L t lb kn pa st) {i : Nat} (hi : bd_in W H i) : ∀ k, bd_fa (bd_Qk W H px L pa) k i = if bd_fl (fun j => bd_dc (pa j)) (bd_ow W H px L i) k = true then 1 else 0
  | 0 => (if_neg (fun z => absurd z (by decide : ¬ (false = true)))).symm
  | k + 1 => by
    have ih := bd_fa_fl hF hi k
    have h256 := bd_in_lt hF.1 hi
    show bd_tg (bd_Qk W H px L pa k) (bd_fa (bd_Qk W H px L pa) k) 256 i = _
    unfold bd_tg
    rw [bd_Q_in hi, ih, bd_fl_s]
    by_cases z : bd_a (fun j => bd_dc (pa j)) k (bd_ow W H px L i) = true
    · rw [if_pos ⟨h256, z⟩, if_pos z]
      cases bd_fl (fun j => bd_dc (pa j)) (bd_ow W H px L i) k <;> decide
    · rw [if_neg (fun y => z y.2), if_neg z]
theorem bd_fa_px (hF : bd_F W H px L t lb kn pa st) (h0 : ∀ i, ¬ bd_in W H i → px i = 0) : bd_fa (bd_Qk W H px L pa) t = px := by
  funext i
  by_cases hi : bd_in W H i
  · rw [bd_fa_fl hF hi t, bd_fl_col (bd_ppl hF) (col := bd_col kn) rfl (fun j hj => bd_col_alt hF hj) _ (bd_F_ow hF hi), bd_col_in hF hi]
    rcases hF.1.2.2.2.2.1 i with e | e
    · rw [e]; decide
    · rw [e]; decide
  · rw [bd_fa_out hi t, h0 i hi]
theorem bd_sm_ct (h01 : ∀ i, px i = 0 ∨ px i = 1) : ∀ n, bd_sm px n = nI (bd_ct (fun i => px i = 1) n)
  | 0 => rfl
  | n + 1 => by
    show bd_sm px n + px n = _
    rw [bd_sm_ct h01 n]
    rcases h01 n with e | e
    · rw [bd_ct_f (P := fun i => px i = 1) (by rw [e]; exact bd_01), e, Int32.add_zero]
    · rw [bd_ct_t (P := fun i => px i = 1) e, e, nI_1]
end
end
section
/-! the law's two checks -/
def bd_RX (W H : Nat) (p : Nat → Int32) (t : Nat) (lb kn pa st ar : Nat → Int32) : Prop :=
  ∃ L, bd_F W H p L t lb kn pa st ∧ (∀ k, k < t → ar k = bd_fin W H p L kn pa k)
def bd_Iv (u : St2) : Prop :=
  ∃ (W H t : Nat) (tr : Int32) (px fl lb qu kn pa st ln ar ii : Nat → Int32), u = (nI W, nI H, tr, nI t, px, fl, lb, qu, kn, pa, st, ln, ar, ii) ∧ bd_B W H px fl ∧ ((tr = 0 ∧ t = 0) ∨ (tr = 1 ∧ bd_RX W H px t lb kn pa st ar))
section
variable {W H t : Nat} {tr tt : Int32} {px fl lb qu kn pa st ln ar ii : Nat → Int32} {L : Nat → Nat}
theorem bd_iv0 (h : bd_B W H px fl) : bd_Iv (nI W, nI H, 0, 0, px, fl, lb, qu, kn, pa, st, ln, ar, ii) := ⟨W, H, 0, 0, px, fl, lb, qu, kn, pa, st, ln, ar, ii, rfl, h, Or.inl ⟨rfl, rfl⟩⟩
theorem bd_iv (h : bd_B W H px fl) (h2 : (tr = 0 ∧ t = 0) ∨ (tr = 1 ∧ bd_RX W H px t lb kn pa st ar)) : bd_Iv (nI W, nI H, tr, nI t, px, fl, lb, qu, kn, pa, st, ln, ar, ii) := ⟨W, H, t, tr, px, fl, lb, qu, kn, pa, st, ln, ar, ii, rfl, h, h2⟩
theorem l_setPixel {post : Int32 → St2 → Prop} {u : St2} (I : bd_Iv u) (hp : ∀ r u', bd_Iv u' → post r u') (v1 v2 v3 : Int32) : wpX_setPixel post u v1 v2 v3 := by
  have I0 := I
  obtain ⟨W, H, t, tr, px, fl, lb, qu, kn, pa, st, ln, ar, ii, rfl, hB, hR⟩ := I
  have hW := hB.2.1
  have hH := hB.2.2.2.1
  have h256 := bd_B_256 hB
  unfold wpX_setPixel
  dsimp only
  refine x_pix hW hH (fun a b ea eb ha hb => br_f bd_10 ?_) (fun _ => br_t rfl (hp _ _ I0))
  subst ea eb
  have hv : vp_in (nI (b * 16 + a)) 256 := vp_in_nI (by omega) (by omega)
  have hc : (nI (b * 16 + a)).toNatClampNeg = b * 16 + a := nI_clamp (by omega)
  refine x_ri (br_c (fun _ => ⟨hv, nm_r (congrArg (fun z => upd px z 0) hc) (x_inv (hp _ _ (bd_iv0 (bd_B_fl (bd_B_put hB ha hb (Or.inl rfl)) (fun _ _ => rfl)))) h256)⟩) (fun _ => ⟨hv, nm_r (congrArg (fun z => upd px z 1) hc) (x_inv (hp _ _ (bd_iv0 (bd_B_fl (bd_B_put hB ha hb (Or.inr rfl)) (fun _ _ => rfl)))) h256)⟩))
theorem l_setRow {post : Int32 → St2 → Prop} {u : St2} (I : bd_Iv u) (hp : ∀ r u', bd_Iv u' → post r u') (v1 v2 : Int32) : wpX_setRow post u v1 v2 := by
  have I0 := I
  obtain ⟨W, H, t, tr, px, fl, lb, qu, kn, pa, st, ln, ar, ii, rfl, hB, hR⟩ := I
  have hW := hB.2.1
  have hH := hB.2.2.2.1
  have h256 := bd_B_256 hB
  by_cases h0 : v1 < 0
  · exact br_t h0 (hp _ _ I0)
  · obtain ⟨b, hb, rfl⟩ := nI_of h0
    by_cases h1 : nI b < nI H
    · have hbH : b < H := by
        rw [nI_ltI hb (by omega)] at h1
        exact h1
      exact br_f h0 (br_t h1 ⟨W + 1, x_row hW hH hbH h256 (hp _ _ (bd_iv0 (bd_B_fl (bd_B_row hB hbH v2 (Nat.le_refl W)) (fun _ _ => rfl)))) W 0 (by omega) (W + 1) (by omega)⟩)
    · exact br_f h0 (br_f h1 (hp _ _ I0))
theorem l_trace {post : Int32 → St2 → Prop} {u : St2} (I : bd_Iv u) (hp : ∀ r u', bd_Iv u' → post r u') : wpX_trace post u := by
  obtain ⟨W, H, t, tr, px, fl, lb, qu, kn, pa, st, ln, ar, ii, rfl, hB, hR⟩ := I
  have h256 := bd_B_256 hB
  obtain ⟨L, hL⟩ := bd_LS_ex W H px
  have hC : bd_C W H px L := ⟨hB.1, hB.2.1, hB.2.2.1, hB.2.2.2.1, hB.2.2.2.2.1, hL⟩
  exact x_trace hC h256 (fun lb qu ln ar hF hl ha => hp _ _ (bd_iv (bd_B_fl hB (fun _ _ => rfl)) (Or.inr ⟨rfl, L, hF, ha⟩)))
theorem l_toggle {post : Int32 → St2 → Prop} {u : St2} (I : bd_Iv u) (hp : ∀ r u', bd_Iv u' → post r u') (v1 : Int32) : wpX_toggleFill post u v1 := by
  have I0 := I
  obtain ⟨W, H, t, tr, px, fl, lb, qu, kn, pa, st, ln, ar, ii, rfl, hB, hR⟩ := I
  have ht : t ≤ 256 := by
    rcases hR with ⟨_, h⟩ | ⟨_, L, hF, _⟩
    · omega
    · exact bd_F_t hF
  unfold wpX_toggleFill
  dsimp only
  refine x_isC ht (fun j ej hj => br_f bd_10 ?_) (fun _ => br_t rfl (hp _ _ I0))
  subst ej
  have hR' := hR
  rcases hR with ⟨_, h⟩ | ⟨_, L, hF, _⟩
  · omega
  · exact x_tog hF hj (fun ii => hp _ _ (bd_iv (bd_B_fl hB (fun i hi => (bd_tg_out hi).trans (hB.2.2.2.2.2 i hi).2)) hR'))
theorem l_count {post : Int32 → Prop} {u : St2} (I : bd_Iv u) (hp : ∀ r, (r = -1 ∨ ∃ j, j ≤ 256 ∧ r = nI j) → post r) : wpX_contourCount post u := by
  obtain ⟨W, H, t, tr, px, fl, lb, qu, kn, pa, st, ln, ar, ii, rfl, hB, hR⟩ := I
  have ht : t ≤ 256 := by
    rcases hR with ⟨_, h⟩ | ⟨_, L, hF, _⟩
    · omega
    · exact bd_F_t hF
  exact br_c (fun _ => hp _ (Or.inl rfl)) (fun _ => hp _ (Or.inr ⟨t, ht, rfl⟩))
/-! fillOk -/
theorem l_fp {x y : Int32} {A B : Prop} (hW : W ≤ 16) (hH : H ≤ 16) (h : A) : wpX_getFilled (fun r1 => wpX_getPixel (fun r2 => (r1 = r2 → A) ∧ (¬ r1 = r2 → B)) (nI W, nI H, tr, tt, px, px, lb, qu, kn, pa, st, ln, ar, ii) x y) (nI W, nI H, tr, tt, px, px, lb, qu, kn, pa, st, ln, ar, ii) x y := by
  unfold wpX_getFilled wpX_getPixel
  dsimp only
  refine x_pix hW hH (fun a b ea eb ha hb => br_f bd_10 ?_) (fun hno => br_t rfl (x_pix hW hH (fun a b ea eb ha hb => (hno a b ea eb ha hb).elim) (fun _ => br_t rfl (br_t rfl h))))
  subst ea eb
  have hv : vp_in (nI (b * 16 + a)) 256 := vp_in_nI (by omega) (by omega)
  exact x_ri ⟨hv, x_pix hW hH (fun _ _ _ _ _ _ => br_f bd_10 (x_ri ⟨hv, br_t rfl h⟩)) (fun hno => (hno a b rfl rfl ha hb).elim)⟩
theorem l_gp {post : Int32 → Prop} {a b : Nat} (hB : bd_B W H px fl) (ha : a < 16) (hb : b < 16) (h : post (px (b * 16 + a))) : wpX_getPixel post (nI W, nI H, tr, tt, px, fl, lb, qu, kn, pa, st, ln, ar, ii) (nI a) (nI b) := by
  have hW := hB.2.1
  have hH := hB.2.2.2.1
  unfold wpX_getPixel
  dsimp only
  refine x_pix hW hH (fun a' b' ea eb ha' hb' => br_f bd_10 ?_) (fun hno => br_t rfl ?_)
  · refine x_ri ⟨vp_in_nI (by omega) (by omega), ?_⟩
    rw [nI_clamp (by omega)]
    exact h
  · rw [(hB.2.2.2.2.2 (b * 16 + a) (fun z => hno a b rfl rfl (by omega) (by omega))).1] at h
    exact h
theorem l_feb {post : Int32 → Prop} (hp : post 1) : ∀ e i, i + e = 256 → ∀ n, e < n → wX_filledEqualsBitmap_2 post (nI W) (nI H) tr tt px px lb qu kn pa st ln ar ii n (nI i) := by
  intro e
  induction e with
  | zero =>
    intro i hi n hn
    obtain ⟨n, rfl⟩ : ∃ m, n = m + 1 := ⟨n - 1, by omega⟩
    exact br_t (nI_le (a := 256) (by omega) (by omega)) hp
  | succ e ih =>
    intro i hi n hn
    obtain ⟨n, rfl⟩ : ∃ m, n = m + 1 := ⟨n - 1, by omega⟩
    have hv : vp_in (nI i) 256 := vp_in_nI (by omega) (by omega)
    exact br_f (nI_ge (b := 256) (by omega) (by omega)) ⟨hv, hv, br_t rfl (nm_r (nI_1 i) (ih (i + 1) (by omega) n (by omega)))⟩
theorem l_f79 {post : Int32 → St2 → Prop} {J : Int32 → Int32 → Prop} {x1 : Int32} (hB : bd_B W H px fl) {b : Nat} (hb : b < 16) (hJ : J (nI (bd_ct (fun i => px i = 1) ((b + 1) * 16))) (nI (b + 1))) :
    ∀ e a, a + e = 16 → ∀ n, e < n → wL_fillOk_79 post J x1 (nI b) (nI W) (nI H) tr tt px fl lb qu kn pa st ln ar ii n (nI (bd_ct (fun i => px i = 1) (b * 16 + a))) (nI a) := by
  intro e
  induction e with
  | zero =>
    intro a ha n hn
    obtain ⟨n, rfl⟩ : ∃ m, n = m + 1 := ⟨n - 1, by omega⟩
    rw [show b * 16 + a = (b + 1) * 16 from by omega]
    exact br_t (nI_le (a := 16) (by omega) (by omega)) (nm_r (nI_1 b) hJ)
  | succ e ih =>
    intro a ha n hn
    obtain ⟨n, rfl⟩ : ∃ m, n = m + 1 := ⟨n - 1, by omega⟩
    have next := ih (a + 1) (by omega) n (by omega)
    rw [← Nat.add_assoc] at next
    refine br_f (nI_ge (b := 16) (by omega) (by omega)) (l_gp hB (by omega) hb (br_c (fun z => ?_) (fun z => ?_)))
    · rw [bd_ct_t (P := fun i => px i = 1) z] at next
      exact nm_r (nI_1 _) (nm_r (nI_1 a) next)
    · rw [bd_ct_f (P := fun i => px i = 1) z] at next
      exact nm_r (nI_1 a) next
theorem l_f70 {post : Int32 → St2 → Prop} (hB : bd_B W H px fl) (hp : post 1 (nI W, nI H, tr, tt, px, fl, lb, qu, kn, pa, st, ln, ar, ii)) :
    ∀ e b, b + e = 16 → ∀ n, e < n → wL_fillOk_70 post (nI (bd_ct (fun i => px i = 1) 256)) (nI W) (nI H) tr tt px fl lb qu kn pa st ln ar ii n (nI (bd_ct (fun i => px i = 1) (b * 16))) (nI b) := by
  intro e
  induction e with
  | zero =>
    intro b hb n hn
    obtain ⟨n, rfl⟩ : ∃ m, n = m + 1 := ⟨n - 1, by omega⟩
    have : b = 16 := by omega
    subst this
    exact br_t (nI_le (a := 16) (by omega) (by omega)) (br_t rfl hp)
  | succ e ih =>
    intro b hb n hn
    obtain ⟨n, rfl⟩ : ∃ m, n = m + 1 := ⟨n - 1, by omega⟩
    exact br_f (nI_ge (b := 16) (by omega) (by omega)) ⟨17, l_f79 hB (by omega) (ih (b + 1) (by omega) n (by omega)) 16 0 rfl 17 (by omega)⟩
theorem bd_cd17 {d : Nat} (h : d < 18) : ¬ (16 : Int32) < bd_cd d := by
  show ¬ bd_cd 17 < bd_cd d
  rw [bd_cd_lt (by omega) (by omega)]
  omega
theorem bd_cdp1 : ∀ a : Nat, bd_cd a + 1 = bd_cd (a + 1)
  | 0 => by decide +kernel
  | a + 1 => nI_1 a
theorem l_f22 {post : Int32 → St2 → Prop} {J : Int32 → Prop} {x1 : Int32} (hW : W ≤ 16) (hH : H ≤ 16) {d : Nat} (hJ : J (bd_cd (d + 1))) :
    ∀ e a, a + e = 18 → ∀ n, e < n → wL_fillOk_22 post J x1 (bd_cd d) (nI W) (nI H) tr tt px px lb qu kn pa st ln ar ii n (bd_cd a) := by
  intro e
  induction e with
  | zero =>
    intro a ha n hn
    obtain ⟨n, rfl⟩ : ∃ m, n = m + 1 := ⟨n - 1, by omega⟩
    have : a = 18 := by omega
    subst this
    exact br_t (by decide) (nm_r (bd_cdp1 d) hJ)
  | succ e ih =>
    intro a ha n hn
    obtain ⟨n, rfl⟩ : ∃ m, n = m + 1 := ⟨n - 1, by omega⟩
    exact br_f (bd_cd17 (by omega)) (l_fp hW hH (nm_r (bd_cdp1 a) (ih (a + 1) (by omega) n (by omega))))
theorem l_f14 {post : Int32 → St2 → Prop} (hB : bd_B W H px px) (hp : post 1 (nI W, nI H, tr, tt, px, px, lb, qu, kn, pa, st, ln, ar, ii)) :
    ∀ e d, d + e = 18 → ∀ n, e < n → wL_fillOk_14 post (nI (bd_ct (fun i => px i = 1) 256)) (nI W) (nI H) tr tt px px lb qu kn pa st ln ar ii n (bd_cd d) := by
  intro e
  induction e with
  | zero =>
    intro d hd n hn
    obtain ⟨n, rfl⟩ : ∃ m, n = m + 1 := ⟨n - 1, by omega⟩
    have : d = 18 := by omega
    subst this
    refine br_t (by decide) ⟨257, l_feb (br_f bd_10 ⟨17, ?_⟩) 256 0 rfl 257 (by omega)⟩
    exact l_f70 hB hp 16 0 rfl 17 (by omega)
  | succ e ih =>
    intro d hd n hn
    obtain ⟨n, rfl⟩ : ∃ m, n = m + 1 := ⟨n - 1, by omega⟩
    exact br_f (bd_cd17 (by omega)) ⟨19, l_f22 hB.2.1 hB.2.2.2.1 (ih (d + 1) (by omega) n (by omega)) 18 0 rfl 19 (by omega)⟩
theorem l_fill {post : Int32 → St2 → Prop} {u : St2} (I : bd_Iv u) (hp : ∀ u', bd_Iv u' → post 1 u') : wpL_fillOk post u := by
  have I0 := I
  obtain ⟨W, H, t, tr, px, fl, lb, qu, kn, pa, st, ln, ar, ii, rfl, hB, hR⟩ := I
  have h256 := bd_B_256 hB
  unfold wpL_fillOk
  dsimp only
  by_cases e : tr = 0
  · exact br_t e (br_t rfl (hp _ I0))
  · have hR' := hR
    obtain ⟨_, L, hF, _⟩ := hR.resolve_left (fun z => e z.1)
    have hfa := bd_fa_px hF (fun i hi => (hB.2.2.2.2.2 i hi).1)
    have hB' : bd_B W H px px := bd_B_fl hB (fun i hi => (hB.2.2.2.2.2 i hi).1)
    have hct := bd_ct_le (fun i => px i = 1) 256
    refine x_fill hF e h256 (fun ii => ?_)
    rw [hfa, bd_sm_ct hB.2.2.2.2.1]
    refine br_f (bd_nI_m1 (by omega)) ⟨19, l_f14 hB' (hp _ (bd_iv hB' hR')) 18 0 rfl 19 (by omega)⟩
end
end
section
/-! areaOk -/
theorem bd_i1 (a s b : Int64) : a - s + -b = a - (s + b) := by grind
theorem bd_i2 (a s b : Int64) : -a + s + b = -a + (s + b) := Int64.add_assoc _ _ _
theorem bd_i3 (o s : Int64) : -(o + s) + s = -o := by grind
theorem bd_i4 (o s : Int64) : o + s - s = o := by grind
theorem bd_neg64 : ∀ A, A < 257 → (-(nI A)).toInt64 = -(lN A) := by decide +kernel
noncomputable def bd_V (W H : Nat) (p : Nat → Int32) (L : Nat → Nat) (kn pa : Nat → Int32) (k j : Nat) : Int64 :=
  if kn k = 2 then -(lN (bd_arN W H p L pa k)) + lN (bd_ch W H p L pa k j) else lN (bd_arN W H p L pa k) - lN (bd_ch W H p L pa k j)
section
variable {W H t : Nat} {tr tt : Int32} {px fl lb qu kn pa st ln ar ii : Nat → Int32} {L : Nat → Nat}
theorem bd_arN_le (k : Nat) : bd_arN W H px L pa k < 257 := by
  have := bd_ct_le (fun i => bd_in W H i ∧ bd_a (fun j => bd_dc (pa j)) k (bd_ow W H px L i) = true) 256
  unfold bd_arN
  omega
theorem bd_V_0 (k : Nat) : (bd_fin W H px L kn pa k).toInt64 = bd_V W H px L kn pa k 0 := by
  have h := bd_arN_le (W := W) (H := H) (px := px) (L := L) (pa := pa) k
  have z : lN (bd_ch W H px L pa k 0) = 0 := rfl
  unfold bd_fin bd_V
  by_cases e : kn k = 2
  · rw [if_pos e, if_pos e, bd_neg64 _ h, z]
    grind
  · rw [if_neg e, if_neg e, nI_l (by omega), z]
    grind
theorem bd_kinds (hF : bd_F W H px L t lb kn pa st) {k : Nat} (hk : k < t) : kn k = 1 ∨ kn k = 2 := by
  obtain ⟨c, hc, rfl⟩ := bd_F_c hF hk
  rw [(hF.2.2.2 c hc).1]
  unfold bd_kd
  by_cases ho : bd_ok W H px L c
  · rw [if_pos ho]; exact Or.inl rfl
  · rw [if_neg ho]; exact Or.inr rfl
theorem bd_V_no {k j : Nat} (h : ¬ bd_dc (pa j) = k + 1) : bd_V W H px L kn pa k (j + 1) = bd_V W H px L kn pa k j := by
  unfold bd_V
  rw [bd_ch_s, if_neg h]
theorem bd_V_ch (hF : bd_F W H px L t lb kn pa st) {k j : Nat} (hj : j < t) (hk : k < t) (h : bd_dc (pa j) = k + 1) : bd_V W H px L kn pa k j + (bd_fin W H px L kn pa j).toInt64 = bd_V W H px L kn pa k (j + 1) := by
  have hb := bd_arN_le (W := W) (H := H) (px := px) (L := L) (pa := pa) j
  have ha := bd_col_alt hF hj
  rw [h] at ha
  have ha' : decide (kn j = 1) = !(decide (kn k = 1)) := ha
  unfold bd_V bd_fin
  rw [bd_ch_s, if_pos h, ← lN_add]
  rcases bd_kinds hF hk with e | e
  · have ej : kn j = 2 := by
      rcases bd_kinds hF hj with z | z
      · rw [e, z] at ha'
        exact absurd ha' (by decide)
      · exact z
    have ek : ¬ kn k = 2 := by rw [e]; decide
    rw [if_neg ek, if_neg ek, if_pos ej, bd_neg64 _ hb, bd_i1]
  · have ej : kn j = 1 := by
      rcases bd_kinds hF hj with z | z
      · exact z
      · rw [e, z] at ha'
        exact absurd ha' (by decide)
    have ek : ¬ kn j = 2 := by rw [ej]; decide
    rw [if_pos e, if_pos e, if_neg ek, nI_l (by omega), bd_i2]
theorem l_cA {post : Int32 → Prop} {k : Nat} (ht : t ≤ 256) (hk : k < t) (hp : post (ar k)) : wpX_contourArea post (nI W, nI H, tr, nI t, px, fl, lb, qu, kn, pa, st, ln, ar, ii) (nI k) := by
  unfold wpX_contourArea
  dsimp only
  refine x_isC ht (fun _ _ _ => br_f bd_10 ⟨vp_in_nI (by omega) (by omega), ?_⟩) (fun hno => (hno k rfl hk).elim)
  rw [nI_clamp (n := k) (by omega)]
  exact hp
theorem l_cP {post : Int32 → Prop} {k : Nat} (ht : t ≤ 256) (hk : k < t) (hp : post (pa k)) : wpX_contourParent post (nI W, nI H, tr, nI t, px, fl, lb, qu, kn, pa, st, ln, ar, ii) (nI k) := by
  unfold wpX_contourParent
  dsimp only
  refine x_isC ht (fun _ _ _ => br_f bd_10 ⟨vp_in_nI (by omega) (by omega), ?_⟩) (fun hno => (hno k rfl hk).elim)
  rw [nI_clamp (n := k) (by omega)]
  exact hp
theorem l_cK {post : Int32 → Prop} {k : Nat} (ht : t ≤ 256) (hk : k < t) (hp : post (kn k)) : wpX_contourKind post (nI W, nI H, tr, nI t, px, fl, lb, qu, kn, pa, st, ln, ar, ii) (nI k) := by
  unfold wpX_contourKind
  dsimp only
  refine x_isC ht (fun _ _ _ => br_f bd_10 ⟨vp_in_nI (by omega) (by omega), ?_⟩) (fun hno => (hno k rfl hk).elim)
  rw [nI_clamp (n := k) (by omega)]
  exact hp
theorem l_cO {post : Int32 → Prop} {a b : Nat} (hF : bd_F W H px L t lb kn pa st) (ha : a < 16) (hb : b < 16) (h1 : bd_in W H (b * 16 + a) → post (bd_cd (bd_ow W H px L (b * 16 + a)))) (h0 : ¬ bd_in W H (b * 16 + a) → post (-1)) : wpX_contourOf post (nI W, nI H, 1, tt, px, fl, lb, qu, kn, pa, st, ln, ar, ii) (nI a) (nI b) := by
  have hW := hF.1.2.1
  have hH := hF.1.2.2.2.1
  refine br_f bd_10 (x_labAt hW hH (fun a' b' ea eb ha' hb' => ?_) (fun hno => h0 (fun z => hno a b rfl rfl (by omega) (by omega))))
  rw [nI_eq (by omega) (by omega)] at ea eb
  subst ea eb
  have hin : bd_in W H (b * 16 + a) := ⟨by omega, by omega⟩
  rw [bd_F_lb hF hin]
  exact h1 hin
theorem l_a76 {post : Int32 → Prop} {J13 : Int32 → Prop} {J66 : Int64 → Int32 → Prop} {x1 : Int32} {x3 : Int64} (hF : bd_F W H px L t lb kn pa st) {k b : Nat} (hk : k < t) (hb : b < 16)
    (hJ : J66 (lN (bd_ct (fun i => bd_in W H i ∧ bd_ow W H px L i = k + 1) ((b + 1) * 16))) (nI (b + 1))) :
    ∀ e a, a + e = 16 → ∀ n, e < n → wL_areaOk_76 post J13 J66 x1 (nI k) x3 (nI b) (nI W) (nI H) 1 tt px fl lb qu kn pa st ln ar ii n (lN (bd_ct (fun i => bd_in W H i ∧ bd_ow W H px L i = k + 1) (b * 16 + a))) (nI a) := by
  have ht := bd_F_t hF
  intro e
  induction e with
  | zero =>
    intro a ha n hn
    obtain ⟨n, rfl⟩ : ∃ m, n = m + 1 := ⟨n - 1, by omega⟩
    rw [show b * 16 + a = (b + 1) * 16 from by omega]
    exact br_t (nI_le (a := 16) (by omega) (by omega)) (nm_r (nI_1 b) hJ)
  | succ e ih =>
    intro a ha n hn
    obtain ⟨n, rfl⟩ : ∃ m, n = m + 1 := ⟨n - 1, by omega⟩
    have next := ih (a + 1) (by omega) n (by omega)
    rw [← Nat.add_assoc] at next
    refine br_f (nI_ge (b := 16) (by omega) (by omega)) (l_cO hF (by omega) hb (fun hin => br_c (fun z => ?_) (fun z => ?_)) (fun hin => br_f (fun z => bd_nI_m1 (k := k) (by omega) z.symm) ?_))
    · rw [bd_cd_nI (bd_ow_lt hF.1 hin) (by omega)] at z
      rw [bd_ct_t (P := fun i => bd_in W H i ∧ bd_ow W H px L i = k + 1) ⟨hin, z⟩] at next
      exact nm_r (lN_1 _) (nm_r (nI_1 a) next)
    · rw [bd_cd_nI (bd_ow_lt hF.1 hin) (by omega)] at z
      rw [bd_ct_f (P := fun i => bd_in W H i ∧ bd_ow W H px L i = k + 1) (fun y => z y.2)] at next
      exact nm_r (nI_1 a) next
    · rw [bd_ct_f (P := fun i => bd_in W H i ∧ bd_ow W H px L i = k + 1) (fun y => hin y.1)] at next
      exact nm_r (nI_1 a) next
theorem l_a66 {post : Int32 → Prop} {J13 : Int32 → Prop} {x1 : Int32} {x3 : Int64} (hF : bd_F W H px L t lb kn pa st) {k : Nat} (hk : k < t) (h1 : kn k = 1 → x3 = lN (bd_ct (fun i => bd_in W H i ∧ bd_ow W H px L i = k + 1) 256))
    (h2 : kn k = 2 → x3 = -(lN (bd_ct (fun i => bd_in W H i ∧ bd_ow W H px L i = k + 1) 256))) (hJ : J13 (nI (k + 1))) :
    ∀ e b, b + e = 16 → ∀ n, e < n → wL_areaOk_66 post J13 x1 (nI k) x3 (nI W) (nI H) 1 (nI t) px fl lb qu kn pa st ln ar ii n (lN (bd_ct (fun i => bd_in W H i ∧ bd_ow W H px L i = k + 1) (b * 16))) (nI b) := by
  have ht := bd_F_t hF
  intro e
  induction e with
  | zero =>
    intro b hb n hn
    obtain ⟨n, rfl⟩ : ∃ m, n = m + 1 := ⟨n - 1, by omega⟩
    have : b = 16 := by omega
    subst this
    refine br_t (nI_le (a := 16) (by omega) (by omega)) (l_cK ht hk ?_)
    rcases bd_kinds hF hk with z | z
    · exact br_t z (br_t (h1 z) (nm_r (nI_1 k) hJ))
    · exact br_f (by rw [z]; decide) (br_t z (br_t (h2 z) (nm_r (nI_1 k) hJ)))
  | succ e ih =>
    intro b hb n hn
    obtain ⟨n, rfl⟩ : ∃ m, n = m + 1 := ⟨n - 1, by omega⟩
    exact br_f (nI_ge (b := 16) (by omega) (by omega)) ⟨17, l_a76 hF hk (by omega) (ih (b + 1) (by omega) n (by omega)) 16 0 rfl 17 (by omega)⟩
theorem l_a28 {post : Int32 → Prop} {J13 : Int32 → Prop} (hF : bd_F W H px L t lb kn pa st) (har : ∀ k, k < t → ar k = bd_fin W H px L kn pa k) {k : Nat} (hk : k < t) (hJ : J13 (nI (k + 1))) :
    ∀ e j, j + e = t → ∀ n, e < n → wL_areaOk_28 post J13 (nI t) (nI k) (nI W) (nI H) 1 (nI t) px fl lb qu kn pa st ln ar ii n (bd_V W H px L kn pa k j) (nI j) := by
  have ht := bd_F_t hF
  intro e
  induction e with
  | zero =>
    intro j hj n hn
    obtain ⟨n, rfl⟩ : ∃ m, n = m + 1 := ⟨n - 1, by omega⟩
    have : j = t := by omega
    subst this
    have hA := bd_area hF hk
    refine br_t (nI_le (by omega) (by omega)) ⟨17, l_a66 hF hk (fun z => ?_) (fun z => ?_) hJ 16 0 rfl 17 (by omega)⟩
    · unfold bd_V
      rw [if_neg (by rw [z]; decide), hA, ← lN_add, bd_i4]
    · unfold bd_V
      rw [if_pos z, hA, ← lN_add, bd_i3]
  | succ e ih =>
    intro j hj n hn
    obtain ⟨n, rfl⟩ : ∃ m, n = m + 1 := ⟨n - 1, by omega⟩
    have next := ih (j + 1) (by omega) n (by omega)
    obtain ⟨p1, p2⟩ := bd_pp hF (k := j) (by omega)
    refine br_f (nI_ge (by omega) (by omega)) (l_cP ht (by omega) (br_c (fun z => ?_) (fun z => ?_)))
    · rw [p1, bd_cd_nI (by omega) (by omega)] at z
      refine l_cA ht (by omega) ?_
      rw [har j (by omega)]
      exact nm_r (bd_V_ch hF (by omega) hk z) (nm_r (nI_1 j) next)
    · rw [p1, bd_cd_nI (by omega) (by omega)] at z
      rw [bd_V_no z] at next
      exact nm_r (nI_1 j) next
theorem l_a13 {post : Int32 → Prop} (hF : bd_F W H px L t lb kn pa st) (har : ∀ k, k < t → ar k = bd_fin W H px L kn pa k) (hp : post 1) :
    ∀ e k, k + e = t → ∀ n, e < n → wL_areaOk_13 post (nI t) (nI W) (nI H) 1 (nI t) px fl lb qu kn pa st ln ar ii n (nI k) := by
  have ht := bd_F_t hF
  intro e
  induction e with
  | zero =>
    intro k hk n hn
    obtain ⟨n, rfl⟩ : ∃ m, n = m + 1 := ⟨n - 1, by omega⟩
    exact br_t (nI_le (by omega) (by omega)) hp
  | succ e ih =>
    intro k hk n hn
    obtain ⟨n, rfl⟩ : ∃ m, n = m + 1 := ⟨n - 1, by omega⟩
    refine br_f (nI_ge (by omega) (by omega)) (l_cA ht (by omega) ⟨t + 1, ?_⟩)
    rw [har k (by omega), bd_V_0]
    exact l_a28 hF har (by omega) (ih (k + 1) (by omega) n (by omega)) t 0 (by omega) (t + 1) (by omega)
theorem l_area {post : Int32 → Prop} {u : St2} (I : bd_Iv u) (hp : post 1) : wpL_areaOk post u := by
  obtain ⟨W, H, t, tr, px, fl, lb, qu, kn, pa, st, ln, ar, ii, rfl, hB, hR⟩ := I
  unfold wpL_areaOk wpX_contourCount
  dsimp only
  rcases hR with ⟨rfl, rfl⟩ | ⟨rfl, L, hF, har⟩
  · exact br_t rfl (br_f (by decide) hp)
  · have ht := bd_F_t hF
    exact br_f bd_10 (br_t (nI_pos' (by omega)) ⟨t + 1, l_a13 hF har hp t 0 (by omega) (t + 1) (by omega)⟩)
end
end
section
/-! the law -/
theorem l_cell {post : Int32 → Prop} {L : Nat} {xs : Nat → Int32} {x : Int32} (j : Nat) (hx : x = nI j) (hj : j < 1000) (hL : L ≤ 260) (h : ∀ v, post v) : wpL_cell post L xs () x := by
  subst hx
  exact pk_le L j (fun _ => h 0) (fun z => ⟨vp_in_nI z (by omega), h _⟩)
theorem l_mdA {post : Int32 → Prop} {x m : Int32} (hm : ¬ m = 0) (h : ∀ v, post v) : wpL_md post () x m := ⟨hm, fun y _ => br_c (fun _ => h _) (fun _ => h _)⟩
theorem l_md16 {post : Int32 → Prop} {x : Int32} (h : ∀ j, j < 16 → post (nI j)) : wpL_md post () x 16 := by
  refine ⟨bd_16, fun y ey => ?_⟩
  have hy : y.toInt = x.toInt.tmod 16 := by
    rw [ey, rem_toInt, show (16 : Int32).toInt = 16 from by decide]
  have hb := tmod_bounds (a := x.toInt) (M := 16) (by decide)
  rw [← hy] at hb
  refine br_c (fun z => ?_) (fun z => ?_)
  · rw [Int32.le_iff_toInt_le, show (0 : Int32).toInt = 0 from by decide] at z
    have e : y = nI y.toInt.toNat := by
      apply Int32.toInt_inj.mp
      rw [nI_toInt (by omega)]
      omega
    rw [e]
    exact h _ (by omega)
  · rw [Int32.le_iff_toInt_le, show (0 : Int32).toInt = 0 from by decide] at z
    have e0 : (y + 16).toInt = y.toInt + 16 := by
      rw [Int32.toInt_add, show (16 : Int32).toInt = 16 from by decide]
      exact Int.bmod_eq_of_le (by omega) (by omega)
    have e : y + 16 = nI (y.toInt + 16).toNat := by
      apply Int32.toInt_inj.mp
      rw [nI_toInt (by omega), e0]
      omega
    rw [e]
    exact h _ (by omega)
theorem l_p2 {t : Nat} (h : t < 1000) : ¬ nI t + 2 = 0 := by
  rw [show nI t + 2 = nI (t + 2) from nI_add t 2]
  exact nI_ne0 (by omega) (by omega)
section
variable {post : Int32 → Prop} {L : Nat} {xs : Nat → Int32} {h kc ks : Nat}
theorem l_103 (hL : L ≤ 260) (h1 : 1 ≤ h) (h2 : h ≤ 16) (hp : post 1) : ∀ e i, L ≤ i + e → i < 300 → ∀ n, e < n → ∀ w hh tr tt px fl lb qu kn pa st ln ar ii, bd_Iv (w, hh, tr, tt, px, fl, lb, qu, kn, pa, st, ln, ar, ii) → wL_law_103 post L xs (nI h) kc ks n (nI i) w hh tr tt px fl lb qu kn pa st ln ar ii := by
  intro e
  induction e with
  | zero =>
    intro i hi hi2 n hn w hh tr tt px fl lb qu kn pa st ln ar ii hI
    obtain ⟨n, rfl⟩ : ∃ m, n = m + 1 := ⟨n - 1, by omega⟩
    exact br_t (nI_le (a := L) (b := i) (by omega) (by omega)) hp
  | succ e ih =>
    intro i hi hi2 n hn w hh tr tt px fl lb qu kn pa st ln ar ii hI
    obtain ⟨n, rfl⟩ : ∃ m, n = m + 1 := ⟨n - 1, by omega⟩
    by_cases hLi : L ≤ i
    · exact br_t (nI_le (a := L) (b := i) hLi (by omega)) hp
    · have fin : ∀ w hh tr tt px fl lb qu kn pa st ln ar ii, bd_Iv (w, hh, tr, tt, px, fl, lb, qu, kn, pa, st, ln, ar, ii) → wL_law_292 post L xs (wL_law_103 post L xs (nI h) kc ks n) (nI h) (nI (i + 3)) kc ks w hh tr tt px fl lb qu kn pa st ln ar ii := by
        intro w hh tr tt px fl lb qu kn pa st ln ar ii hI
        unfold wL_law_292
        exact l_area hI (br_f bd_10 (ih (i + 3) (by omega) (by omega) n (by omega) _ _ _ _ _ _ _ _ _ _ _ _ _ _ hI))
      have t259 : ∀ x8 x6 : Int32, ¬ x8 + 2 = 0 → wL_law_259 post L xs (wL_law_103 post L xs (nI h) kc ks n) (nI h) (nI (i + 3)) x6 x8 kc ks w hh tr tt px fl lb qu kn pa st ln ar ii := by
        intro x8 x6 hx
        unfold wL_law_259
        refine l_mdA hx (fun v => l_toggle hI (fun r u' hu => ?_) _)
        obtain ⟨w, hh, tr, tt, px, fl, lb, qu, kn, pa, st, ln, ar, ii⟩ := u'
        exact fin _ _ _ _ _ _ _ _ _ _ _ _ _ _ hu
      refine br_f (nI_ge (a := i) (b := L) (by omega) (by omega)) (l_cell i rfl (by omega) hL (fun v0 => l_mdA (by decide) (fun op => l_cell (i + 1) (nI_1 i) (by omega) hL (fun a => l_cell (i + 2) (nI_add i 2) (by omega) hL (fun b => nm_r (nI_add i 3) ?_)))))
      refine br_c (fun _ => l_mdA (by decide) (fun v1 => l_mdA (by decide) (fun v2 => l_setPixel hI (fun r u' hu => ?_) _ _ _))) (fun _ => br_c (fun _ => l_mdA (l_p2 (by omega)) (fun v1 => l_setRow hI (fun r u' hu => ?_) _ _)) (fun _ => br_c (fun _ => l_trace hI (fun r u' hu => ?_)) (fun _ => br_c (fun _ => l_fill hI (fun u' hu => ?_)) (fun _ => br_c (fun _ => l_count hI (fun r hr => ?_)) (fun _ => l_trace hI (fun r u' hu => ?_))))))
      · obtain ⟨w, hh, tr, tt, px, fl, lb, qu, kn, pa, st, ln, ar, ii⟩ := u'
        exact fin _ _ _ _ _ _ _ _ _ _ _ _ _ _ hu
      · obtain ⟨w, hh, tr, tt, px, fl, lb, qu, kn, pa, st, ln, ar, ii⟩ := u'
        exact fin _ _ _ _ _ _ _ _ _ _ _ _ _ _ hu
      · obtain ⟨w, hh, tr, tt, px, fl, lb, qu, kn, pa, st, ln, ar, ii⟩ := u'
        exact fin _ _ _ _ _ _ _ _ _ _ _ _ _ _ hu
      · obtain ⟨w, hh, tr, tt, px, fl, lb, qu, kn, pa, st, ln, ar, ii⟩ := u'
        exact br_f bd_10 (fin _ _ _ _ _ _ _ _ _ _ _ _ _ _ hu)
      · rcases hr with rfl | ⟨j, hj, rfl⟩
        · exact br_f (by decide) (t259 0 _ (by decide))
        · exact br_t (nI_pos' (by omega)) (t259 (nI j) _ (l_p2 (by omega)))
      · obtain ⟨w, hh, tr, tt, px, fl, lb, qu, kn, pa, st, ln, ar, ii⟩ := u'
        refine l_fill hu (fun u' hu => ?_)
        obtain ⟨w, hh, tr, tt, px, fl, lb, qu, kn, pa, st, ln, ar, ii⟩ := u'
        exact br_f bd_10 (fin _ _ _ _ _ _ _ _ _ _ _ _ _ _ hu)
theorem l_39 (hL : L ≤ 260) (h1 : 1 ≤ h) (h2 : h ≤ 16) (hp : post 1) : ∀ e y, y + e = h → ∀ n, e < n → ∀ w hh tr tt px fl lb qu kn pa st ln ar ii, bd_Iv (w, hh, tr, tt, px, fl, lb, qu, kn, pa, st, ln, ar, ii) → wL_law_39 post L xs (nI h) kc ks n (nI y) w hh tr tt px fl lb qu kn pa st ln ar ii := by
  intro e
  induction e with
  | zero =>
    intro y hy n hn w hh tr tt px fl lb qu kn pa st ln ar ii hI
    obtain ⟨n, rfl⟩ : ∃ m, n = m + 1 := ⟨n - 1, by omega⟩
    refine br_t (nI_le (by omega) (by omega)) (l_trace hI (fun r u' hu => ?_))
    obtain ⟨w, hh, tr, tt, px, fl, lb, qu, kn, pa, st, ln, ar, ii⟩ := u'
    refine l_area hu (br_f bd_10 (l_fill hu (fun u' hu => ?_)))
    obtain ⟨w, hh, tr, tt, px, fl, lb, qu, kn, pa, st, ln, ar, ii⟩ := u'
    refine br_f bd_10 (l_area hu (br_f bd_10 (nm_r (nI_add 2 h) ⟨L + 1, ?_⟩)))
    exact l_103 hL h1 h2 hp L (2 + h) (by omega) (by omega) (L + 1) (by omega) _ _ _ _ _ _ _ _ _ _ _ _ _ _ hu
  | succ e ih =>
    intro y hy n hn w hh tr tt px fl lb qu kn pa st ln ar ii hI
    obtain ⟨n, rfl⟩ : ∃ m, n = m + 1 := ⟨n - 1, by omega⟩
    refine br_f (nI_ge (by omega) (by omega)) (l_cell (2 + y) (nI_add 2 y) (by omega) hL (fun v => l_setRow hI (fun r u' hu => ?_) _ _))
    obtain ⟨w, hh, tr, tt, px, fl, lb, qu, kn, pa, st, ln, ar, ii⟩ := u'
    exact nm_r (nI_1 y) (ih (y + 1) (by omega) n (by omega) _ _ _ _ _ _ _ _ _ _ _ _ _ _ hu)
end
theorem i_vc (xs : Nat → Int32) (L : Nat) (hL : L ≤ 260) : wpL_law (fun r => r = 1) L xs := by
  refine l_cell 0 rfl (by omega) hL (fun v0 => l_md16 (fun w hw => nm_r (nI_1 w) (l_cell 1 rfl (by omega) hL (fun v1 => l_md16 (fun h hh => nm_r (nI_1 h) ⟨10, 2560, by omega, by omega, ?_⟩)))))
  obtain ⟨W, w1, w2, hW⟩ := bd_cl (nI (w + 1))
  obtain ⟨H, h1, h2, hH⟩ := bd_cl (nI (h + 1))
  unfold wpX_init
  dsimp only
  refine ⟨by omega, by omega, by omega, by omega, by omega, by omega, by omega, by omega, by omega, by omega, by omega, by omega, by omega, by omega, by omega, by omega, by omega, by omega, by omega, by omega, x_cl hW (x_cl hH ?_)⟩
  refine ⟨h + 2, l_39 (post := fun r => r = 1) (h := h + 1) hL (by omega) (by omega) rfl (h + 1) 0 (by omega) (h + 2) (by omega) _ _ _ _ _ _ _ _ _ _ _ _ _ _ ?_⟩
  exact bd_iv0 ⟨w1, w2, h1, h2, fun _ => Or.inl rfl, fun _ _ => ⟨rfl, rfl⟩⟩
end
