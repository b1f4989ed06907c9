/-! keys, numbers of contours, labels: pure -/
abbrev bd_ok (W H : Nat) (p : Nat → Int32) (L : Nat → Nat) (i : Nat) : Prop := bd_in W H i ∧ p i = 1 ∧ L i = i + 1
abbrev bd_hk (W H : Nat) (p : Nat → Int32) (L : Nat → Nat) (i : Nat) : Prop := bd_in W H i ∧ i % 16 + 1 < W ∧ p (i + 1) = 0 ∧ L (i + 1) = i + 2
abbrev bd_key (W H : Nat) (p : Nat → Int32) (L : Nat → Nat) (i : Nat) : Prop := bd_ok W H p L i ∨ bd_hk W H p L i
def bd_N (W H : Nat) (p : Nat → Int32) (L : Nat → Nat) : Nat → Nat
  | 0 => 0
  | i + 1 => if bd_key W H p L i then bd_N W H p L i + 1 else bd_N W H p L i
def bd_kc (p : Nat → Int32) (L : Nat → Nat) (j : Nat) : Nat := if p j = 0 then L j - 2 else L j - 1
def bd_ow (W H : Nat) (p : Nat → Int32) (L : Nat → Nat) (j : Nat) : Nat := if L j = 0 then 0 else bd_N W H p L (bd_kc p L j) + 1
def bd_lab (W H : Nat) (p : Nat → Int32) (L : Nat → Nat) (c j : Nat) : Int32 :=
  if bd_in W H j ∧ (L j = 0 ∨ bd_kc p L j < c) then bd_cd (bd_ow W H p L j) else -2
def bd_A (W H : Nat) (p : Nat → Int32) (L : Nat → Nat) (val A0 : Nat → Int32) : Nat → Nat → Int32
  | 0 => A0
  | c + 1 => if bd_key W H p L c then upd (bd_A W H p L val A0 c) (bd_N W H p L c) (val c) else bd_A W H p L val A0 c
def bd_pv (W H : Nat) (p : Nat → Int32) (L : Nat → Nat) (c : Nat) : Nat :=
  if bd_ok W H p L c then (if c % 16 = 0 then 0 else bd_ow W H p L (c - 1)) else bd_ow W H p L c
def bd_kd (W H : Nat) (p : Nat → Int32) (L : Nat → Nat) (c : Nat) : Int32 := if bd_ok W H p L c then 1 else 2
def bd_C (W H : Nat) (p : Nat → Int32) (L : Nat → Nat) : Prop :=
  1 ≤ W ∧ W ≤ 16 ∧ 1 ≤ H ∧ H ≤ 16 ∧ (∀ i, p i = 0 ∨ p i = 1) ∧ bd_LS W H p L
section
variable {W H : Nat} {p : Nat → Int32} {L : Nat → Nat}
theorem bd_in_lt (hC : bd_C W H p L) {i : Nat} (h : bd_in W H i) : i < 256 := by
  obtain ⟨_, _, _, hH, _⟩ := hC
  obtain ⟨h1, h2⟩ := h
  omega
theorem bd_L_adj (hC : bd_C W H p L) {a b : Nat} (h : bd_adj W H p a b) : L a = L b := hC.2.2.2.2.2.1 a b h
theorem bd_L_cn (hC : bd_C W H p L) {a b : Nat} (h : bd_cn W H p a b) : L a = L b :=
  h (fun x => L a = L x) rfl (fun _ _ hc e => hc.trans (bd_L_adj hC e))
theorem bd_L_le (hC : bd_C W H p L) {i : Nat} (h : bd_in W H i) : L i ≤ i + 1 := by
  rcases hC.2.2.2.2.2.2.1 i h with ⟨_, e, _⟩ | ⟨r, e, hr, _⟩
  · omega
  · omega
theorem bd_fg (hC : bd_C W H p L) {i : Nat} (h : bd_in W H i) (h1 : p i = 1) : ∃ r, L i = r + 1 ∧ r ≤ i ∧ bd_cn W H p i r ∧ bd_ok W H p L r := by
  rcases hC.2.2.2.2.2.2.1 i h with ⟨e, _⟩ | ⟨r, e, hr, hc, hi, hL, hp⟩
  · exact absurd (e.symm.trans h1) bd_01
  · exact ⟨r, e, hr, hc, hi, hp.trans h1, hL⟩
theorem bd_same (hC : bd_C W H p L) {a b : Nat} (ha : bd_in W H a) (hb : bd_in W H b) (e : L a = L b) (h0 : L a ≠ 0) : bd_cn W H p a b := by
  rcases hC.2.2.2.2.2.2.1 a ha with ⟨_, e1, _⟩ | ⟨r, e1, _, hc, _⟩
  · exact absurd e1 h0
  · rcases hC.2.2.2.2.2.2.1 b hb with ⟨_, e2, _⟩ | ⟨s, e2, _, hd, _⟩
    · exact absurd (e.trans e2) h0
    · have : r = s := by omega
      subst this
      exact bd_cn_trans hc (bd_cn_symm hd)
theorem bd_adj_r (hC : bd_C W H p L) {i : Nat} (h : bd_in W H i) (h1 : i % 16 + 1 < W) (e : p i = p (i + 1)) : bd_adj W H p i (i + 1) := by
  obtain ⟨_, hW, _⟩ := hC
  obtain ⟨h2, h3⟩ := h
  exact ⟨⟨h2, h3⟩, ⟨by omega, by omega⟩, e, ⟨by omega, by omega, by omega, by omega⟩, fun _ => Or.inr (by omega)⟩
theorem bd_hk_p (hC : bd_C W H p L) {i : Nat} (h : bd_hk W H p L i) : p i = 1 := by
  obtain ⟨h1, h2, h3, h4⟩ := h
  rcases hC.2.2.2.2.1 i with e | e
  · have a := bd_L_adj hC (bd_adj_r hC h1 h2 (e.trans h3.symm))
    have b := bd_L_le hC h1
    omega
  · exact e
theorem bd_hk_in (hC : bd_C W H p L) {i : Nat} (h : bd_hk W H p L i) : bd_in W H (i + 1) := by
  obtain ⟨_, hW, _⟩ := hC
  obtain ⟨⟨h1, h3⟩, h2, _⟩ := h
  exact ⟨by omega, by omega⟩
theorem bd_excl (hC : bd_C W H p L) {i : Nat} (h : bd_hk W H p L i) : ¬ bd_ok W H p L i := by
  intro ho
  have hin := bd_hk_in hC h
  obtain ⟨⟨h1, h1'⟩, h2, h3, h4⟩ := h
  obtain ⟨_, hp, hl⟩ := ho
  have hnr : ¬ bd_rim W H (i + 1) := fun hr => by
    have := hC.2.2.2.2.2.2.2 (i + 1) hin h3 hr
    omega
  have hW := hC.2.1
  have hy : 16 ≤ i := by
    rcases Nat.lt_or_ge i 16 with z | z
    · exact absurd (Or.inr (Or.inl (by omega))) hnr
    · exact z
  have hu : bd_in W H (i + 1 - 16) := ⟨by omega, by omega⟩
  have hle := bd_L_le hC hu
  rcases hC.2.2.2.2.1 (i + 1 - 16) with e | e
  · have a := bd_L_adj hC (a := i + 1 - 16) (b := i + 1) ⟨hu, hin, e.trans h3.symm, ⟨by omega, by omega, by omega, by omega⟩, fun _ => Or.inl (by omega)⟩
    omega
  · have a := bd_L_adj hC (a := i + 1 - 16) (b := i) ⟨hu, ⟨h1, h1'⟩, e.trans hp.symm, ⟨by omega, by omega, by omega, by omega⟩, fun z => absurd (z.symm.trans e) bd_01⟩
    omega
theorem bd_bg (hC : bd_C W H p L) {i : Nat} (h : bd_in W H i) (h0 : p i = 0) (hn : L i ≠ 0) : ∃ r, L i = r + 2 ∧ r + 1 ≤ i ∧ bd_cn W H p i (r + 1) ∧ bd_hk W H p L r := by
  rcases hC.2.2.2.2.2.2.1 i h with ⟨_, e, _⟩ | ⟨s, e, hs, hc, hi, hL, hp⟩
  · exact absurd e hn
  · have hnr : ¬ bd_rim W H s := fun hr => by
      have := hC.2.2.2.2.2.2.2 s hi (hp.trans h0) hr
      omega
    have hW := hC.2.1
    obtain ⟨h1, h2⟩ := hi
    have hx : s % 16 ≠ 0 := fun z => hnr (Or.inl z)
    obtain ⟨r, rfl⟩ : ∃ r, s = r + 1 := ⟨s - 1, by omega⟩
    exact ⟨r, e, hs, hc, ⟨by omega, by omega⟩, by omega, hp.trans h0, hL⟩
theorem bd_kc_fg (hC : bd_C W H p L) {j : Nat} (h : bd_in W H j) (h1 : p j = 1) : bd_ok W H p L (bd_kc p L j) ∧ bd_kc p L j ≤ j ∧ L j = bd_kc p L j + 1 := by
  obtain ⟨r, e, hr, _, ho⟩ := bd_fg hC h h1
  have hk : bd_kc p L j = r := by
    unfold bd_kc
    rw [if_neg (by rw [h1]; exact bd_10)]
    omega
  rw [hk]
  exact ⟨ho, hr, e⟩
theorem bd_kc_bg (hC : bd_C W H p L) {j : Nat} (h : bd_in W H j) (h0 : p j = 0) (hn : L j ≠ 0) : bd_hk W H p L (bd_kc p L j) ∧ bd_kc p L j + 1 ≤ j ∧ L j = bd_kc p L j + 2 := by
  obtain ⟨r, e, hr, _, ho⟩ := bd_bg hC h h0 hn
  have hk : bd_kc p L j = r := by
    unfold bd_kc
    rw [if_pos h0]
    omega
  rw [hk]
  exact ⟨ho, hr, e⟩
theorem bd_N_eq (i : Nat) : bd_N W H p L (i + 1) = if bd_key W H p L i then bd_N W H p L i + 1 else bd_N W H p L i := rfl
theorem bd_N_key {i : Nat} (h : bd_key W H p L i) : bd_N W H p L (i + 1) = bd_N W H p L i + 1 := (bd_N_eq i).trans (if_pos h)
theorem bd_N_no {i : Nat} (h : ¬ bd_key W H p L i) : bd_N W H p L (i + 1) = bd_N W H p L i := (bd_N_eq i).trans (if_neg h)
theorem bd_N_s (i : Nat) : bd_N W H p L i ≤ bd_N W H p L (i + 1) := by
  by_cases h : bd_key W H p L i
  · rw [bd_N_key h]; omega
  · rw [bd_N_no h]; omega
theorem bd_N_mono {a : Nat} : ∀ {b : Nat}, a ≤ b → bd_N W H p L a ≤ bd_N W H p L b
  | 0, h => by
    have : a = 0 := by omega
    subst this
    exact Nat.le_refl _
  | b + 1, h => by
    rcases Nat.lt_or_ge b a with z | z
    · have : a = b + 1 := by omega
      subst this
      exact Nat.le_refl _
    · exact Nat.le_trans (bd_N_mono z) (bd_N_s b)
theorem bd_N_lt {a b : Nat} (h : bd_key W H p L a) (hb : a < b) : bd_N W H p L a < bd_N W H p L b := by
  have := bd_N_mono (W := W) (H := H) (p := p) (L := L) (a := a + 1) (b := b) (by omega)
  rw [bd_N_key h] at this
  omega
theorem bd_N_le : ∀ i : Nat, bd_N W H p L i ≤ i
  | 0 => Nat.le_refl _
  | i + 1 => by
    have := bd_N_le i
    by_cases h : bd_key W H p L i
    · rw [bd_N_key h]; omega
    · rw [bd_N_no h]; omega
theorem bd_N_ex {k : Nat} : ∀ {i : Nat}, k < bd_N W H p L i → ∃ c, c < i ∧ bd_key W H p L c ∧ bd_N W H p L c = k
  | 0, h => absurd h (Nat.not_lt_zero k)
  | i + 1, h => by
    by_cases hk : bd_key W H p L i
    · rw [bd_N_key hk] at h
      rcases Nat.lt_or_ge k (bd_N W H p L i) with z | z
      · obtain ⟨c, h1, h2, h3⟩ := bd_N_ex z
        exact ⟨c, by omega, h2, h3⟩
      · exact ⟨i, by omega, hk, by omega⟩
    · rw [bd_N_no hk] at h
      obtain ⟨c, h1, h2, h3⟩ := bd_N_ex h
      exact ⟨c, by omega, h2, h3⟩
theorem bd_N_inj {a b : Nat} (ha : bd_key W H p L a) (hb : bd_key W H p L b) (e : bd_N W H p L a = bd_N W H p L b) : a = b := by
  rcases Nat.lt_or_ge a b with z | z
  · have := bd_N_lt ha z; omega
  · rcases Nat.lt_or_ge b a with y | y
    · have := bd_N_lt hb y; omega
    · omega
theorem bd_A_key {val A0 : Nat → Int32} {c : Nat} (h : bd_key W H p L c) : ∀ {i : Nat}, c < i → bd_A W H p L val A0 i (bd_N W H p L c) = val c
  | 0, hi => absurd hi (Nat.not_lt_zero c)
  | i + 1, hi => by
    show (if bd_key W H p L i then upd (bd_A W H p L val A0 i) (bd_N W H p L i) (val i) else bd_A W H p L val A0 i) (bd_N W H p L c) = val c
    by_cases e : c = i
    · subst e
      rw [if_pos h]
      exact pk_us
    · have r := bd_A_key (val := val) (A0 := A0) h (i := i) (by omega)
      by_cases hk : bd_key W H p L i
      · rw [if_pos hk]
        have hl := bd_N_lt h (b := i) (by omega)
        exact (pk_un (by omega)).trans r
      · rw [if_neg hk]
        exact r
theorem bd_A_ge {val A0 : Nat → Int32} {k : Nat} : ∀ {i : Nat}, bd_N W H p L i ≤ k → bd_A W H p L val A0 i k = A0 k
  | 0, _ => rfl
  | i + 1, h => by
    show (if bd_key W H p L i then upd (bd_A W H p L val A0 i) (bd_N W H p L i) (val i) else bd_A W H p L val A0 i) k = A0 k
    by_cases hk : bd_key W H p L i
    · rw [bd_N_key hk] at h
      rw [if_pos hk]
      exact (pk_un (by omega)).trans (bd_A_ge (by omega))
    · rw [bd_N_no hk] at h
      rw [if_neg hk]
      exact bd_A_ge h
theorem bd_A_k {val A0 : Nat → Int32} {c : Nat} (h : bd_key W H p L c) : bd_A W H p L val A0 (c + 1) = upd (bd_A W H p L val A0 c) (bd_N W H p L c) (val c) := if_pos h
theorem bd_A_n {val A0 : Nat → Int32} {c : Nat} (h : ¬ bd_key W H p L c) : bd_A W H p L val A0 (c + 1) = bd_A W H p L val A0 c := if_neg h
theorem bd_ow_0 {j : Nat} (h : L j = 0) : bd_ow W H p L j = 0 := if_pos h
theorem bd_ow_n {j : Nat} (h : L j ≠ 0) : bd_ow W H p L j = bd_N W H p L (bd_kc p L j) + 1 := if_neg h
theorem bd_kc_key (hC : bd_C W H p L) {j : Nat} (h : bd_in W H j) (hn : L j ≠ 0) : bd_key W H p L (bd_kc p L j) ∧ bd_kc p L j ≤ j := by
  rcases hC.2.2.2.2.1 j with e | e
  · have := bd_kc_bg hC h e hn
    exact ⟨Or.inr this.1, by omega⟩
  · have := bd_kc_fg hC h e
    exact ⟨Or.inl this.1, this.2.1⟩
theorem bd_ow_le (hC : bd_C W H p L) {j : Nat} (h : bd_in W H j) : bd_ow W H p L j ≤ bd_N W H p L 256 := by
  by_cases hn : L j = 0
  · rw [bd_ow_0 hn]; omega
  · rw [bd_ow_n hn]
    have h1 := bd_kc_key hC h hn
    have h2 := bd_in_lt hC h
    have := bd_N_lt h1.1 (b := 256) (by omega)
    omega
theorem bd_ow_ok (hC : bd_C W H p L) {j : Nat} (h : bd_ok W H p L j) : bd_ow W H p L j = bd_N W H p L j + 1 := by
  rw [bd_ow_n (by have := h.2.2; omega)]
  have := (bd_kc_fg hC h.1 h.2.1).2.2
  have e : bd_kc p L j = j := by have := h.2.2; omega
  rw [e]
theorem bd_left (hC : bd_C W H p L) {c : Nat} (h : bd_ok W H p L c) (hx : c % 16 ≠ 0) : bd_in W H (c - 1) ∧ p (c - 1) = 0 := by
  obtain ⟨⟨h1, h2⟩, h3, h4⟩ := h
  have hi : bd_in W H (c - 1) := ⟨by omega, by omega⟩
  refine ⟨hi, ?_⟩
  rcases hC.2.2.2.2.1 (c - 1) with e | e
  · exact e
  · have hW := hC.2.1
    have a := bd_L_adj hC (a := c - 1) (b := c) ⟨hi, ⟨h1, h2⟩, e.trans h3.symm, ⟨by omega, by omega, by omega, by omega⟩, fun z => absurd (z.symm.trans e) bd_01⟩
    have b := bd_L_le hC hi
    omega
theorem bd_pv_le (hC : bd_C W H p L) {c : Nat} (h : bd_key W H p L c) : bd_pv W H p L c ≤ bd_N W H p L c := by
  unfold bd_pv
  by_cases ho : bd_ok W H p L c
  · rw [if_pos ho]
    by_cases hx : c % 16 = 0
    · rw [if_pos hx]; omega
    · rw [if_neg hx]
      obtain ⟨hi, h0⟩ := bd_left hC ho hx
      by_cases hn : L (c - 1) = 0
      · rw [bd_ow_0 hn]; omega
      · rw [bd_ow_n hn]
        obtain ⟨h1, h2, _⟩ := bd_kc_bg hC hi h0 hn
        have := bd_N_lt (Or.inr h1) (b := c) (by omega)
        omega
  · rw [if_neg ho]
    have hh : bd_hk W H p L c := h.resolve_left ho
    have h1 := bd_hk_p hC hh
    obtain ⟨h2, h3, h4⟩ := bd_kc_fg hC hh.1 h1
    have hn : L c ≠ 0 := by omega
    rw [bd_ow_n hn]
    have hne : bd_kc p L c ≠ c := fun z => ho (z ▸ h2)
    have := bd_N_lt (Or.inl h2) (b := c) (by omega)
    omega
/-! labels stage by stage -/
theorem bd_lab_t {c j : Nat} (h : bd_in W H j) (h1 : L j = 0 ∨ bd_kc p L j < c) : bd_lab W H p L c j = bd_cd (bd_ow W H p L j) := if_pos ⟨h, h1⟩
theorem bd_lab_f {c j : Nat} (h : ¬ (bd_in W H j ∧ (L j = 0 ∨ bd_kc p L j < c))) : bd_lab W H p L c j = -2 := if_neg h
theorem bd_ow_lt (hC : bd_C W H p L) {j : Nat} (h : bd_in W H j) : bd_ow W H p L j < 2 ^ 31 := by
  have := bd_ow_le hC h
  have := bd_N_le (W := W) (H := H) (p := p) (L := L) 256
  omega
theorem bd_lab_m2 (hC : bd_C W H p L) {c j : Nat} (h : bd_in W H j) : bd_lab W H p L c j = -2 ↔ (L j ≠ 0 ∧ c ≤ bd_kc p L j) := by
  constructor
  · intro e
    by_cases h1 : L j = 0 ∨ bd_kc p L j < c
    · rw [bd_lab_t h h1] at e
      exact absurd e (bd_cd_m2 (bd_ow_lt hC h))
    · exact ⟨fun z => h1 (Or.inl z), Nat.not_lt.mp fun z => h1 (Or.inr z)⟩
  · intro ⟨h1, h2⟩
    exact bd_lab_f fun z => z.2.elim h1 (fun y => by omega)
theorem bd_lab_ok (hC : bd_C W H p L) {c : Nat} (h : bd_in W H c) (h1 : p c = 1) : bd_lab W H p L c c = -2 ↔ bd_ok W H p L c := by
  rw [bd_lab_m2 hC h]
  obtain ⟨h2, h3, h4⟩ := bd_kc_fg hC h h1
  constructor
  · intro ⟨_, z⟩
    exact ⟨h, h1, by omega⟩
  · intro ⟨_, _, z⟩
    exact ⟨by omega, by omega⟩
theorem bd_lab_hk (hC : bd_C W H p L) {c : Nat} (h : bd_in W H c) (hx : c % 16 + 1 < W) (h0 : p (c + 1) = 0) : bd_lab W H p L c (c + 1) = -2 ↔ bd_hk W H p L c := by
  have hW := hC.2.1
  have hi : bd_in W H (c + 1) := by
    obtain ⟨a, b⟩ := h
    exact ⟨by omega, by omega⟩
  rw [bd_lab_m2 hC hi]
  constructor
  · intro ⟨hn, z⟩
    obtain ⟨h2, h3, h4⟩ := bd_kc_bg hC hi h0 hn
    exact ⟨h, hx, h0, by omega⟩
  · intro z
    have hl := z.2.2.2
    obtain ⟨h2, h3, h4⟩ := bd_kc_bg hC hi h0 (by omega)
    exact ⟨by omega, by omega⟩
theorem bd_lab_hk' (hC : bd_C W H p L) {c : Nat} (h : bd_in W H c) (hx : c % 16 + 1 < W) (h0 : p (c + 1) = 0) : ¬ bd_lab W H p L (c + 1) (c + 1) = -2 := by
  have hW := hC.2.1
  have hi : bd_in W H (c + 1) := by
    obtain ⟨a, b⟩ := h
    exact ⟨by omega, by omega⟩
  rw [bd_lab_m2 hC hi]
  intro ⟨hn, z⟩
  obtain ⟨h2, h3, h4⟩ := bd_kc_bg hC hi h0 hn
  omega
theorem bd_lab_no (hC : bd_C W H p L) {c : Nat} (h : ¬ bd_key W H p L c) : bd_lab W H p L (c + 1) = bd_lab W H p L c := by
  funext j
  by_cases hj : bd_in W H j ∧ (L j = 0 ∨ bd_kc p L j < c)
  · rw [bd_lab_t hj.1 hj.2, bd_lab_t hj.1 (hj.2.imp id (fun z => by omega))]
  · rw [bd_lab_f hj, bd_lab_f]
    intro ⟨h1, h2⟩
    have hn : L j ≠ 0 := fun z => hj ⟨h1, Or.inl z⟩
    have hk : bd_kc p L j = c := by
      have : ¬ bd_kc p L j < c := fun z => hj ⟨h1, Or.inr z⟩
      rcases h2 with z | z
      · exact absurd z hn
      · omega
    exact h (hk ▸ (bd_kc_key hC h1 hn).1)
theorem bd_lab_step (hC : bd_C W H p L) {c f : Nat} (h : (bd_ok W H p L c ∧ f = c) ∨ (bd_hk W H p L c ∧ f = c + 1)) (j : Nat) :
    (bd_cn W H p f j → bd_lab W H p L c j = -2 ∧ bd_lab W H p L (c + 1) j = nI (bd_N W H p L c)) ∧
    (¬ bd_cn W H p f j → bd_lab W H p L (c + 1) j = bd_lab W H p L c j) := by
  have hf : bd_in W H f ∧ L f ≠ 0 ∧ bd_kc p L f = c := by
    rcases h with ⟨ho, rfl⟩ | ⟨hh, rfl⟩
    · have := (bd_kc_fg hC ho.1 ho.2.1).2.2
      exact ⟨ho.1, by have := ho.2.2; omega, by have := ho.2.2; omega⟩
    · have hi := bd_hk_in hC hh
      have hl := hh.2.2.2
      have := (bd_kc_bg hC hi hh.2.2.1 (by omega)).2.2
      exact ⟨hi, by omega, by omega⟩
  obtain ⟨hf1, hf2, hf3⟩ := hf
  constructor
  · intro hc
    have e1 := bd_L_cn hC hc
    have e2 := bd_cn_p hc
    have e3 : bd_kc p L j = c := by
      rw [← hf3]
      unfold bd_kc
      rw [e2, e1]
    have hj := bd_cn_in hc hf1
    refine ⟨(bd_lab_m2 hC hj).mpr ⟨by omega, by omega⟩, ?_⟩
    rw [bd_lab_t hj (Or.inr (by omega)), bd_ow_n (by omega), e3]
    rfl
  · intro hc
    by_cases hj : bd_in W H j ∧ (L j = 0 ∨ bd_kc p L j < c)
    · rw [bd_lab_t hj.1 hj.2, bd_lab_t hj.1 (hj.2.imp id (fun z => by omega))]
    · rw [bd_lab_f hj, bd_lab_f]
      intro ⟨h1, h2⟩
      have hn : L j ≠ 0 := fun z => hj ⟨h1, Or.inl z⟩
      have hk : bd_kc p L j = c := by
        have : ¬ bd_kc p L j < c := fun z => hj ⟨h1, Or.inr z⟩
        rcases h2 with z | z
        · exact absurd z hn
        · omega
      apply hc
      apply bd_same hC hf1 h1 _ hf2
      rcases hC.2.2.2.2.1 j with e | e
      · obtain ⟨a1, a2, a3⟩ := bd_kc_bg hC h1 e hn
        rw [hk] at a1 a3
        rcases h with ⟨ho, rfl⟩ | ⟨hh, rfl⟩
        · exact absurd ho (bd_excl hC a1)
        · rw [a3]; exact hh.2.2.2
      · obtain ⟨a1, a2, a3⟩ := bd_kc_fg hC h1 e
        rw [hk] at a1 a3
        rcases h with ⟨ho, rfl⟩ | ⟨hh, rfl⟩
        · rw [a3]; exact ho.2.2
        · exact absurd a1 (bd_excl hC hh)
theorem bd_lab_left (hC : bd_C W H p L) {c : Nat} (h : bd_ok W H p L c) (hx : c % 16 ≠ 0) : bd_lab W H p L c (c - 1) = bd_cd (bd_ow W H p L (c - 1)) := by
  obtain ⟨hi, h0⟩ := bd_left hC h hx
  refine bd_lab_t hi ?_
  by_cases hn : L (c - 1) = 0
  · exact Or.inl hn
  · have := bd_kc_bg hC hi h0 hn
    exact Or.inr (by omega)
theorem bd_lab_self (hC : bd_C W H p L) {c : Nat} (h : bd_hk W H p L c) : bd_lab W H p L c c = bd_cd (bd_ow W H p L c) := by
  obtain ⟨h1, h2, h3⟩ := bd_kc_fg hC h.1 (bd_hk_p hC h)
  refine bd_lab_t h.1 (Or.inr ?_)
  have hne : bd_kc p L c ≠ c := fun z => bd_excl hC h (z ▸ h1)
  omega
theorem bd_lab_256 (hC : bd_C W H p L) {j : Nat} (h : bd_in W H j) : bd_lab W H p L 256 j = bd_cd (bd_ow W H p L j) := by
  refine bd_lab_t h ?_
  by_cases hn : L j = 0
  · exact Or.inl hn
  · have := bd_kc_key hC h hn
    have := bd_in_lt hC h
    exact Or.inr (by omega)
theorem bd_lab_out {j c : Nat} (h : ¬ bd_in W H j) : bd_lab W H p L c j = -2 := bd_lab_f fun z => h z.1
end
