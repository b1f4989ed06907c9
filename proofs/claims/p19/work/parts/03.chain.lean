/-! chains of parents (codes), areas, edges: pure -/
def bd_an (pp : Nat → Nat) (k : Nat) : Nat → Nat → Bool
  | 0, _ => false
  | n + 1, q => if q = 0 then false else if q = k + 1 then true else bd_an pp k n (pp (q - 1))
theorem bd_an_s (pp : Nat → Nat) (k n q : Nat) : bd_an pp k (n + 1) q = if q = 0 then false else if q = k + 1 then true else bd_an pp k n (pp (q - 1)) := rfl
theorem bd_an_0 (pp : Nat → Nat) (k n : Nat) : bd_an pp k n 0 = false := by
  cases n with
  | zero => rfl
  | succ n => rw [bd_an_s]; exact if_pos rfl
theorem bd_an_fuel {pp : Nat → Nat} {k t : Nat} (hp : ∀ j, j < t → pp j ≤ j) : ∀ n m q : Nat, q ≤ t → q ≤ n → q ≤ m → bd_an pp k n q = bd_an pp k m q := by
  intro n
  induction n with
  | zero =>
    intro m q _ h1 _
    have : q = 0 := by omega
    subst this
    rw [bd_an_0, bd_an_0]
  | succ n ih =>
    intro m q h0 h1 h2
    cases m with
    | zero =>
      have : q = 0 := by omega
      subst this
      rw [bd_an_0, bd_an_0]
    | succ m =>
      rw [bd_an_s, bd_an_s]
      by_cases e0 : q = 0
      · rw [if_pos e0, if_pos e0]
      · by_cases e1 : q = k + 1
        · rw [if_neg e0, if_neg e0, if_pos e1, if_pos e1]
        · rw [if_neg e0, if_neg e0, if_neg e1, if_neg e1]
          have := hp (q - 1) (by omega)
          exact ih m (pp (q - 1)) (by omega) (by omega) (by omega)
def bd_a (pp : Nat → Nat) (k q : Nat) : Bool := bd_an pp k q q
section
variable {pp : Nat → Nat} {t : Nat}
theorem bd_a_an (hp : ∀ j, j < t → pp j ≤ j) {k n q : Nat} (h0 : q ≤ t) (h1 : q ≤ n) : bd_an pp k n q = bd_a pp k q :=
  bd_an_fuel hp n q q h0 h1 (Nat.le_refl q)
theorem bd_a_0 (k : Nat) : bd_a pp k 0 = false := rfl
theorem bd_a_s (hp : ∀ j, j < t → pp j ≤ j) {k j : Nat} (hj : j < t) : bd_a pp k (j + 1) = if j = k then true else bd_a pp k (pp j) := by
  show bd_an pp k (j + 1) (j + 1) = _
  rw [bd_an_s, if_neg (by omega)]
  by_cases e : j = k
  · rw [if_pos e, if_pos (show j + 1 = k + 1 by omega)]
  · rw [if_neg e, if_neg (show ¬ j + 1 = k + 1 by omega)]
    have := hp j hj
    exact bd_a_an hp (by show pp j ≤ t; omega) this
theorem bd_a_self (hp : ∀ j, j < t → pp j ≤ j) {k : Nat} (hk : k < t) : bd_a pp k (k + 1) = true := by
  rw [bd_a_s hp hk, if_pos rfl]
theorem bd_a_low (hp : ∀ j, j < t → pp j ≤ j) {k : Nat} : ∀ q : Nat, q ≤ k → q ≤ t → bd_a pp k q = false := by
  intro q
  induction q using Nat.strongRecOn with
  | ind q ih =>
    intro h1 h2
    cases q with
    | zero => rfl
    | succ j =>
      rw [bd_a_s hp (by omega), if_neg (by omega)]
      have := hp j (by omega)
      exact ih (pp j) (by omega) (by omega) (by omega)
end
def bd_g (pp : Nat → Nat) (t : Nat) (own : Nat → Nat) : Nat → Nat → Nat
  | 0, i => own i
  | d + 1, i => if bd_g pp t own d i = t - d then pp (t - 1 - d) else bd_g pp t own d i
theorem bd_g_s (pp : Nat → Nat) (t : Nat) (own : Nat → Nat) (d i : Nat) : bd_g pp t own (d + 1) i = if bd_g pp t own d i = t - d then pp (t - 1 - d) else bd_g pp t own d i := rfl
section
variable {pp : Nat → Nat} {t : Nat} {own : Nat → Nat}
theorem bd_g_le (hp : ∀ j, j < t → pp j ≤ j) {i : Nat} (ho : own i ≤ t) : ∀ {d : Nat}, d ≤ t → bd_g pp t own d i ≤ t - d
  | 0, _ => ho
  | d + 1, hd => by
    have h := bd_g_le hp ho (d := d) (by omega)
    rw [bd_g_s]
    by_cases e : bd_g pp t own d i = t - d
    · rw [if_pos e]
      have := hp (t - 1 - d) (by omega)
      omega
    · rw [if_neg e]
      omega
theorem bd_g_a (hp : ∀ j, j < t → pp j ≤ j) {k i : Nat} : ∀ {d : Nat}, k + 1 + d ≤ t → bd_a pp k (bd_g pp t own d i) = bd_a pp k (own i)
  | 0, _ => rfl
  | d + 1, hd => by
    have h := bd_g_a hp (k := k) (i := i) (d := d) (by omega)
    rw [bd_g_s]
    by_cases e : bd_g pp t own d i = t - d
    · rw [if_pos e, ← h, e, show t - d = (t - 1 - d) + 1 from by omega, bd_a_s hp (by omega), if_neg (by omega)]
    · rw [if_neg e]
      exact h
theorem bd_g_end (hp : ∀ j, j < t → pp j ≤ j) {k i : Nat} (hk : k < t) (ho : own i ≤ t) : bd_a pp k (own i) = true ↔ bd_g pp t own (t - 1 - k) i = k + 1 := by
  rw [← bd_g_a hp (k := k) (i := i) (d := t - 1 - k) (by omega)]
  have h := bd_g_le hp ho (d := t - 1 - k) (by omega)
  constructor
  · intro e
    rcases Nat.lt_or_ge (bd_g pp t own (t - 1 - k) i) (k + 1) with z | z
    · rw [bd_a_low hp _ (by omega) (by omega)] at e
      exact absurd e (by decide)
    · omega
  · intro e
    rw [e]
    exact bd_a_self hp hk
end
noncomputable def bd_gc (I : Nat → Prop) (pp : Nat → Nat) (t : Nat) (own : Nat → Nat) (d k : Nat) : Nat := bd_ct (fun i => I i ∧ bd_g pp t own d i = k + 1) 256
theorem bd_gc_t {I : Nat → Prop} {pp : Nat → Nat} {t : Nat} {own : Nat → Nat} {d m : Nat} (hd : d < t) (hm : m < t - 1 - d) (e : pp (t - 1 - d) = m + 1) :
    bd_gc I pp t own (d + 1) m = bd_gc I pp t own d m + bd_gc I pp t own d (t - 1 - d) := by
  refine bd_ct_or (fun i _ => ?_) (fun i _ h1 h2 => ?_)
  · show (I i ∧ bd_g pp t own (d + 1) i = m + 1) ↔ (I i ∧ bd_g pp t own d i = m + 1) ∨ (I i ∧ bd_g pp t own d i = t - 1 - d + 1)
    rw [bd_g_s]
    by_cases z : bd_g pp t own d i = t - d
    · rw [if_pos z]
      exact ⟨fun h => Or.inr ⟨h.1, by omega⟩, fun h => ⟨h.elim And.left And.left, e⟩⟩
    · rw [if_neg z]
      exact ⟨fun h => Or.inl h, fun h => h.elim id (fun y => absurd y.2 (by omega))⟩
  · have := h1.2
    have := h2.2
    omega
theorem bd_gc_f {I : Nat → Prop} {pp : Nat → Nat} {t : Nat} {own : Nat → Nat} {d m : Nat} (hd : d < t) (hm : m < t - 1 - d) (e : pp (t - 1 - d) ≠ m + 1) :
    bd_gc I pp t own (d + 1) m = bd_gc I pp t own d m := by
  refine bd_ct_eq (fun i _ => ?_)
  show (I i ∧ bd_g pp t own (d + 1) i = m + 1) ↔ (I i ∧ bd_g pp t own d i = m + 1)
  rw [bd_g_s]
  by_cases z : bd_g pp t own d i = t - d
  · rw [if_pos z]
    exact ⟨fun h => absurd h.2 e, fun h => absurd h.2 (by omega)⟩
  · rw [if_neg z]
/-! edges -/
def bd_far (W H : Nat) (ow : Nat → Nat) (i s : Nat) : Nat :=
  if s = 0 then (if i / 16 = 0 then 0 else ow (i - 16)) else
  if s = 1 then (if i % 16 + 1 < W then ow (i + 1) else 0) else
  if s = 2 then (if i / 16 + 1 < H then ow (i + 16) else 0) else
  (if i % 16 = 0 then 0 else ow (i - 1))
def bd_bl (W H : Nat) (p : Nat → Int32) (L : Nat → Nat) (c : Nat) : Nat :=
  if bd_ok W H p L c then (if c % 16 = 0 then 0 else L (c - 1)) else L (c + 1)
def bd_bo (W H : Nat) (p : Nat → Int32) (L : Nat → Nat) (c : Nat) : Nat :=
  if bd_ok W H p L c then (if c % 16 = 0 then 0 else bd_ow W H p L (c - 1)) else bd_ow W H p L (c + 1)
def bd_ed (W H : Nat) (p : Nat → Int32) (L : Nat → Nat) (c e : Nat) : Prop :=
  bd_in W H (e / 4) ∧ bd_ow W H p L (e / 4) = bd_ow W H p L c ∧ bd_far W H (bd_ow W H p L) (e / 4) (e % 4) = bd_bo W H p L c
section
variable {W H : Nat} {p : Nat → Int32} {L : Nat → Nat}
theorem bd_ow_iff (hC : bd_C W H p L) {a b : Nat} (ha : bd_in W H a) (hb : bd_in W H b) : bd_ow W H p L a = bd_ow W H p L b ↔ L a = L b := by
  constructor
  · intro e
    by_cases h1 : L a = 0
    · rw [bd_ow_0 h1] at e
      by_cases h2 : L b = 0
      · omega
      · rw [bd_ow_n h2] at e; omega
    · by_cases h2 : L b = 0
      · rw [bd_ow_0 h2, bd_ow_n h1] at e; omega
      · rw [bd_ow_n h1, bd_ow_n h2] at e
        have k1 := bd_kc_key hC ha h1
        have k2 := bd_kc_key hC hb h2
        have ee := bd_N_inj k1.1 k2.1 (by omega)
        rcases hC.2.2.2.2.1 a with z | z
        · obtain ⟨a1, _, a3⟩ := bd_kc_bg hC ha z h1
          rcases hC.2.2.2.2.1 b with y | y
          · obtain ⟨b1, _, b3⟩ := bd_kc_bg hC hb y h2
            omega
          · obtain ⟨b1, _, b3⟩ := bd_kc_fg hC hb y
            rw [← ee] at b1
            exact absurd b1 (bd_excl hC a1)
        · obtain ⟨a1, _, a3⟩ := bd_kc_fg hC ha z
          rcases hC.2.2.2.2.1 b with y | y
          · obtain ⟨b1, _, b3⟩ := bd_kc_bg hC hb y h2
            rw [← ee] at b1
            exact absurd a1 (bd_excl hC b1)
          · obtain ⟨b1, _, b3⟩ := bd_kc_fg hC hb y
            omega
  · intro e
    by_cases h1 : L a = 0
    · rw [bd_ow_0 h1, bd_ow_0 (show L b = 0 by omega)]
    · have h2 : L b ≠ 0 := e ▸ h1
      have q := bd_cn_p (bd_same hC ha hb e h1)
      rw [bd_ow_n h1, bd_ow_n h2]
      unfold bd_kc
      rw [q, e]
theorem bd_L0 (hC : bd_C W H p L) {x : Nat} (hx : bd_in W H x) (h0 : L x = 0) : p x = 0 := by
  rcases hC.2.2.2.2.1 x with z | z
  · exact z
  · obtain ⟨_, _, a3⟩ := bd_kc_fg hC hx z
    omega
theorem bd_pL (hC : bd_C W H p L) {a b : Nat} (ha : bd_in W H a) (hb : bd_in W H b) (e : L a = L b) : p a = p b := by
  by_cases h : L a = 0
  · rw [bd_L0 hC ha h, bd_L0 hC hb (show L b = 0 by omega)]
  · exact (bd_cn_p (bd_same hC ha hb e h)).symm
theorem bd_ow_hk (hC : bd_C W H p L) {c : Nat} (h : bd_hk W H p L c) : bd_ow W H p L (c + 1) = bd_N W H p L c + 1 := by
  have hl := h.2.2.2
  rw [bd_ow_n (by omega)]
  have := (bd_kc_bg hC (bd_hk_in hC h) h.2.2.1 (by omega)).2.2
  have e : bd_kc p L (c + 1) = c := by omega
  rw [e]
theorem bd_key_p (hC : bd_C W H p L) {c : Nat} (h : bd_key W H p L c) : bd_in W H c ∧ p c = 1 := by
  rcases h with h | h
  · exact ⟨h.1, h.2.1⟩
  · exact ⟨h.1, bd_hk_p hC h⟩
theorem bd_near (hC : bd_C W H p L) {c i : Nat} (h : bd_key W H p L c) (hi : bd_in W H i) : (p i = 1 ∧ L i = L c) ↔ bd_ow W H p L i = bd_ow W H p L c := by
  obtain ⟨h1, h2⟩ := bd_key_p hC h
  rw [bd_ow_iff hC hi h1]
  exact ⟨fun z => z.2, fun z => ⟨(bd_pL hC hi h1 z).trans h2, z⟩⟩
theorem bd_farI (hC : bd_C W H p L) {c i : Nat} (h : bd_key W H p L c) (hi : bd_in W H i) : (p i = 0 ∧ L i = bd_bl W H p L c) ↔ bd_ow W H p L i = bd_bo W H p L c := by
  unfold bd_bl bd_bo
  by_cases ho : bd_ok W H p L c
  · rw [if_pos ho, if_pos ho]
    by_cases hx : c % 16 = 0
    · rw [if_pos hx, if_pos hx]
      constructor
      · intro z
        exact bd_ow_0 z.2
      · intro z
        have : L i = 0 := by
          by_cases h0 : L i = 0
          · exact h0
          · rw [bd_ow_n h0] at z; omega
        exact ⟨bd_L0 hC hi this, this⟩
    · rw [if_neg hx, if_neg hx]
      obtain ⟨h1, h2⟩ := bd_left hC ho hx
      rw [bd_ow_iff hC hi h1]
      exact ⟨fun z => z.2, fun z => ⟨(bd_pL hC hi h1 z).trans h2, z⟩⟩
  · rw [if_neg ho, if_neg ho]
    have hh : bd_hk W H p L c := h.resolve_left ho
    have h1 := bd_hk_in hC hh
    rw [bd_ow_iff hC hi h1]
    exact ⟨fun z => z.2, fun z => ⟨(bd_pL hC hi h1 z).trans hh.2.2.1, z⟩⟩
theorem bd_farO (hC : bd_C W H p L) {c : Nat} (h : bd_key W H p L c) : bd_bl W H p L c = 0 ↔ 0 = bd_bo W H p L c := by
  unfold bd_bl bd_bo
  by_cases ho : bd_ok W H p L c
  · rw [if_pos ho, if_pos ho]
    by_cases hx : c % 16 = 0
    · rw [if_pos hx, if_pos hx]
    · rw [if_neg hx, if_neg hx]
      by_cases h0 : L (c - 1) = 0
      · rw [bd_ow_0 h0]; omega
      · rw [bd_ow_n h0]; omega
  · rw [if_neg ho, if_neg ho]
    have hh : bd_hk W H p L c := h.resolve_left ho
    rw [bd_ow_hk hC hh, hh.2.2.2]
    omega
theorem bd_isb (hC : bd_C W H p L) {c a b : Nat} (h : bd_key W H p L c) :
    (bd_kd W H p L c = 1 → ((a = bd_N W H p L c + 1 ∧ b = bd_pv W H p L c) ↔ (a = bd_ow W H p L c ∧ b = bd_bo W H p L c))) ∧
    (¬ bd_kd W H p L c = 1 → ((a = bd_pv W H p L c ∧ b = bd_N W H p L c + 1) ↔ (a = bd_ow W H p L c ∧ b = bd_bo W H p L c))) := by
  unfold bd_kd bd_pv bd_bo
  by_cases ho : bd_ok W H p L c
  · rw [if_pos ho, if_pos ho, if_pos ho, bd_ow_ok hC ho]
    exact ⟨fun _ => Iff.rfl, fun z => absurd rfl z⟩
  · rw [if_neg ho, if_neg ho, if_neg ho, bd_ow_hk hC (h.resolve_left ho)]
    exact ⟨fun z => absurd z (by decide), fun _ => Iff.rfl⟩
end
def bd_dc (x : Int32) : Nat := (x.toInt + 1).toNat
theorem bd_dc_cd {a : Nat} (h : a < 2 ^ 31) : bd_dc (bd_cd a) = a := by
  unfold bd_dc
  rw [bd_cd_toInt h]
  omega
