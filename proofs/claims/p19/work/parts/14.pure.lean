/-! children and even-odd: pure -/
section
variable {pp : Nat → Nat} {t : Nat}
theorem bd_c1 (hp : ∀ j, j < t → pp j ≤ j) {k : Nat} : ∀ q, q ≤ t → bd_a pp k q = true → q ≠ k + 1 → ∃ j, j < t ∧ pp j = k + 1 ∧ bd_a pp j q = true := by
  intro q
  induction q using Nat.strongRecOn with
  | ind q ih =>
    intro hq ha hn
    cases q with
    | zero =>
      rw [bd_a_0] at ha
      exact absurd ha (by decide)
    | succ m =>
      rw [bd_a_s hp (by omega), if_neg (by omega)] at ha
      have hm := hp m (by omega)
      by_cases e : pp m = k + 1
      · exact ⟨m, by omega, e, bd_a_self hp (by omega)⟩
      · obtain ⟨j, j1, j2, j3⟩ := ih (pp m) (by omega) (by omega) ha e
        refine ⟨j, j1, j2, ?_⟩
        rw [bd_a_s hp (by omega)]
        by_cases z : m = j
        · rw [if_pos z]
        · rw [if_neg z]; exact j3
theorem bd_c2 (hp : ∀ j, j < t → pp j ≤ j) {k j : Nat} (hj : j < t) (e : pp j = k + 1) : ∀ q, q ≤ t → bd_a pp j q = true → bd_a pp k q = true ∧ q ≠ k + 1 := by
  have hk : k < j := by
    have := hp j hj
    omega
  intro q
  induction q using Nat.strongRecOn with
  | ind q ih =>
    intro hq ha
    cases q with
    | zero =>
      rw [bd_a_0] at ha
      exact absurd ha (by decide)
    | succ m =>
      rw [bd_a_s hp (by omega)] at ha
      have hm := hp m (by omega)
      by_cases z : m = j
      · subst z
        rw [bd_a_s hp (by omega), if_neg (by omega), e]
        exact ⟨bd_a_self hp (by omega), by omega⟩
      · rw [if_neg z] at ha
        obtain ⟨a1, a2⟩ := ih (pp m) (by omega) (by omega) ha
        refine ⟨?_, fun y => ?_⟩
        · rw [bd_a_s hp (by omega)]
          by_cases y : m = k
          · rw [if_pos y]
          · rw [if_neg y]; exact a1
        · rw [bd_a_low hp (pp m) (by omega) (by omega)] at ha
          exact absurd ha (by decide)
theorem bd_c3 (hp : ∀ j, j < t → pp j ≤ j) {k j i : Nat} (hj : j < t) (hi : i < t) (e : pp j = k + 1) (f : pp i = k + 1) : ∀ q, q ≤ t → bd_a pp j q = true → bd_a pp i q = true → j = i := by
  have hj' := hp j hj
  have hi' := hp i hi
  intro q
  induction q using Nat.strongRecOn with
  | ind q ih =>
    intro hq ha hb
    cases q with
    | zero =>
      rw [bd_a_0] at ha
      exact absurd ha (by decide)
    | succ m =>
      rw [bd_a_s hp (by omega)] at ha hb
      have hm := hp m (by omega)
      by_cases z : m = j
      · by_cases y : m = i
        · omega
        · subst z
          rw [if_neg y, bd_a_low hp (pp m) (by omega) (by omega)] at hb
          exact absurd hb (by decide)
      · rw [if_neg z] at ha
        by_cases y : m = i
        · subst y
          rw [bd_a_low hp (pp m) (by omega) (by omega)] at ha
          exact absurd ha (by decide)
        · rw [if_neg y] at hb
          exact ih (pp m) (by omega) (by omega) ha hb
theorem bd_fl_s (q k : Nat) : bd_fl pp q (k + 1) = if bd_a pp k q = true then !(bd_fl pp q k) else bd_fl pp q k := rfl
theorem bd_fl_0 : ∀ n, bd_fl pp 0 n = false
  | 0 => rfl
  | n + 1 => by
    rw [bd_fl_s, bd_a_0, if_neg (by decide)]
    exact bd_fl_0 n
theorem bd_fl_lo (hp : ∀ j, j < t → pp j ≤ j) {j : Nat} (hj : j < t) : ∀ n, n ≤ j → bd_fl pp (j + 1) n = bd_fl pp (pp j) n
  | 0, _ => rfl
  | n + 1, h => by
    rw [bd_fl_s, bd_fl_s, bd_fl_lo hp hj n (by omega), bd_a_s hp hj, if_neg (show ¬ j = n by omega)]
theorem bd_fl_hi (hp : ∀ j, j < t → pp j ≤ j) {j : Nat} (hj : j < t) : ∀ d, bd_fl pp (j + 1) (j + 1 + d) = !(bd_fl pp (pp j) (j + 1 + d))
  | 0 => by
    have hm := hp j hj
    show bd_fl pp (j + 1) (j + 1) = !(bd_fl pp (pp j) (j + 1))
    rw [bd_fl_s, bd_fl_s, bd_a_self hp hj, if_pos rfl, bd_a_low hp (pp j) hm (by omega), if_neg (by decide), bd_fl_lo hp hj j (Nat.le_refl j)]
  | d + 1 => by
    have ih := bd_fl_hi hp hj d
    show bd_fl pp (j + 1) ((j + 1 + d) + 1) = !(bd_fl pp (pp j) ((j + 1 + d) + 1))
    rw [bd_fl_s, bd_fl_s, ih, bd_a_s hp hj, if_neg (show ¬ j = j + 1 + d by omega)]
    by_cases z : bd_a pp (j + 1 + d) (pp j) = true
    · rw [if_pos z, if_pos z]
    · rw [if_neg z, if_neg z]
theorem bd_fl_col (hp : ∀ j, j < t → pp j ≤ j) {col : Nat → Bool} (h0 : col 0 = false) (hc : ∀ j, j < t → col (j + 1) = !(col (pp j))) : ∀ q, q ≤ t → bd_fl pp q t = col q := by
  intro q
  induction q using Nat.strongRecOn with
  | ind q ih =>
    intro hq
    cases q with
    | zero => rw [bd_fl_0, h0]
    | succ j =>
      have hm := hp j (by omega)
      have e := bd_fl_hi hp (j := j) (by omega) (t - (j + 1))
      rw [show j + 1 + (t - (j + 1)) = t from by omega] at e
      rw [e, hc j (by omega), ih (pp j) (by omega) (by omega)]
end
/-- the areas of the children of k among the first j contours, together -/
noncomputable def bd_ch (W H : Nat) (p : Nat → Int32) (L : Nat → Nat) (pa : Nat → Int32) (k : Nat) : Nat → Nat
  | 0 => 0
  | j + 1 => if bd_dc (pa j) = k + 1 then bd_ch W H p L pa k j + bd_arN W H p L pa j else bd_ch W H p L pa k j
def bd_col (kn : Nat → Int32) : Nat → Bool
  | 0 => false
  | j + 1 => decide (kn j = 1)
section
variable {W H t : Nat} {px fl lb kn pa st : Nat → Int32} {L : Nat → Nat}
theorem bd_ch_s (k j : Nat) : bd_ch W H px L pa k (j + 1) = if bd_dc (pa j) = k + 1 then bd_ch W H px L pa k j + bd_arN W H px L pa j else bd_ch W H px L pa k j := rfl
theorem bd_ch_ct (hF : bd_F W H px L t lb kn pa st) (k : Nat) : ∀ j, j ≤ t → bd_ct (fun i => bd_in W H i ∧ ∃ m, m < j ∧ bd_dc (pa m) = k + 1 ∧ bd_a (fun j => bd_dc (pa j)) m (bd_ow W H px L i) = true) 256 = bd_ch W H px L pa k j
  | 0, _ => bd_ct_z (fun i _ z => by
    obtain ⟨_, m, hm, _⟩ := z
    omega)
  | j + 1, hj => by
    have ih := bd_ch_ct hF k j (by omega)
    rw [bd_ch_s, ← ih]
    by_cases e : bd_dc (pa j) = k + 1
    · rw [if_pos e]
      refine bd_ct_or (fun i _ => ⟨fun z => ?_, fun z => ?_⟩) (fun i _ h1 h2 => ?_)
      · obtain ⟨z1, m, m1, m2, m3⟩ := z
        by_cases em : m = j
        · subst em
          exact Or.inr ⟨z1, m3⟩
        · exact Or.inl ⟨z1, m, by omega, m2, m3⟩
      · rcases z with ⟨z1, m, m1, m2, m3⟩ | ⟨z1, z2⟩
        · exact ⟨z1, m, by omega, m2, m3⟩
        · exact ⟨z1, j, by omega, e, z2⟩
      · obtain ⟨z1, m, m1, m2, m3⟩ := h1
        have := bd_c3 (bd_ppl hF) (k := k) (j := m) (i := j) (by omega) (by omega) m2 e _ (bd_F_ow hF z1) m3 h2.2
        omega
    · rw [if_neg e]
      refine bd_ct_eq (fun i _ => ⟨fun z => ?_, fun z => ?_⟩)
      · obtain ⟨z1, m, m1, m2, m3⟩ := z
        have : m ≠ j := fun y => e (y ▸ m2)
        exact ⟨z1, m, by omega, m2, m3⟩
      · obtain ⟨z1, m, m1, m2, m3⟩ := z
        exact ⟨z1, m, by omega, m2, m3⟩
theorem bd_area (hF : bd_F W H px L t lb kn pa st) {k : Nat} (hk : k < t) : bd_arN W H px L pa k = bd_ct (fun i => bd_in W H i ∧ bd_ow W H px L i = k + 1) 256 + bd_ch W H px L pa k t := by
  rw [← bd_ch_ct hF k t (Nat.le_refl t)]
  refine bd_ct_or (fun i _ => ⟨fun z => ?_, fun z => ?_⟩) (fun i _ h1 h2 => ?_)
  · by_cases e : bd_ow W H px L i = k + 1
    · exact Or.inl ⟨z.1, e⟩
    · obtain ⟨j, j1, j2, j3⟩ := bd_c1 (bd_ppl hF) (k := k) _ (bd_F_ow hF z.1) z.2 e
      exact Or.inr ⟨z.1, j, j1, j2, j3⟩
  · rcases z with ⟨z1, z2⟩ | ⟨z1, m, m1, m2, m3⟩
    · refine ⟨z1, ?_⟩
      rw [z2]
      exact bd_a_self (bd_ppl hF) hk
    · exact ⟨z1, (bd_c2 (bd_ppl hF) (k := k) m1 m2 _ (bd_F_ow hF z1) m3).1⟩
  · obtain ⟨z1, m, m1, m2, m3⟩ := h2
    exact (bd_c2 (bd_ppl hF) (k := k) m1 m2 _ (bd_F_ow hF z1) m3).2 h1.2
theorem bd_col_in (hF : bd_F W H px L t lb kn pa st) {i : Nat} (hi : bd_in W H i) : bd_col kn (bd_ow W H px L i) = decide (px i = 1) := by
  rcases hF.1.2.2.2.2.1 i with e | e
  · rw [decide_eq_false (by rw [e]; exact bd_01)]
    by_cases hn : L i = 0
    · rw [bd_ow_0 hn]
      rfl
    · obtain ⟨a1, _, _⟩ := bd_kc_bg hF.1 hi e hn
      rw [bd_ow_n hn]
      show decide (kn (bd_N W H px L (bd_kc px L i)) = 1) = false
      rw [(hF.2.2.2 _ (Or.inr a1)).1, show bd_kd W H px L (bd_kc px L i) = 2 from if_neg (bd_excl hF.1 a1)]
      decide
  · rw [decide_eq_true e]
    obtain ⟨a1, _, a3⟩ := bd_kc_fg hF.1 hi e
    rw [bd_ow_n (by omega)]
    show decide (kn (bd_N W H px L (bd_kc px L i)) = 1) = true
    rw [(hF.2.2.2 _ (Or.inl a1)).1, show bd_kd W H px L (bd_kc px L i) = 1 from if_pos a1]
    decide
theorem bd_col_alt (hF : bd_F W H px L t lb kn pa st) {j : Nat} (hj : j < t) : bd_col kn (j + 1) = !(bd_col kn (bd_dc (pa j))) := by
  obtain ⟨c, hc, rfl⟩ := bd_F_c hF hj
  have hN := bd_N_le (W := W) (H := H) (p := px) (L := L) c
  have hp := bd_pv_le hF.1 hc
  have hc256 := bd_key_lt hF.1 hc
  obtain ⟨f1, f2, f3⟩ := hF.2.2.2 c hc
  rw [f3, bd_dc_cd (by omega)]
  show decide (kn (bd_N W H px L c) = 1) = _
  rw [f1]
  unfold bd_pv
  by_cases ho : bd_ok W H px L c
  · rw [show bd_kd W H px L c = 1 from if_pos ho, if_pos ho]
    by_cases hx : c % 16 = 0
    · rw [if_pos hx]
      show decide ((1 : Int32) = 1) = !false
      decide
    · obtain ⟨l1, l2⟩ := bd_left hF.1 ho hx
      rw [if_neg hx, bd_col_in hF l1, l2]
      decide
  · obtain ⟨p1, p2⟩ := bd_key_p hF.1 hc
    rw [show bd_kd W H px L c = 2 from if_neg ho, if_neg ho, bd_col_in hF p1, p2]
    decide
theorem bd_fa_fl (hF : bd_F W H px L t lb kn pa st) {i : Nat} (hi : bd_in W H i) : ∀ k, bd_fa (bd_Qk W H px L pa) k i = if bd_fl (fun j => bd_dc (pa j)) (bd_ow W H px L i) k = true then 1 else 0
  | 0 => (if_neg (fun z => absurd z (by decide : ¬ (false = true)))).symm
  | k + 1 => by
    have ih := bd_fa_fl hF hi k
    have h256 := bd_in_lt hF.1 hi
    show bd_tg (bd_Qk W H px L pa k) (bd_fa (bd_Qk W H px L pa) k) 256 i = _
    unfold bd_tg
    rw [bd_Q_in hi, ih, bd_fl_s]
    by_cases z : bd_a (fun j => bd_dc (pa j)) k (bd_ow W H px L i) = true
    · rw [if_pos ⟨h256, z⟩, if_pos z]
      cases bd_fl (fun j => bd_dc (pa j)) (bd_ow W H px L i) k <;> decide
    · rw [if_neg (fun y => z y.2), if_neg z]
theorem bd_fa_px (hF : bd_F W H px L t lb kn pa st) (h0 : ∀ i, ¬ bd_in W H i → px i = 0) : bd_fa (bd_Qk W H px L pa) t = px := by
  funext i
  by_cases hi : bd_in W H i
  · rw [bd_fa_fl hF hi t, bd_fl_col (bd_ppl hF) (col := bd_col kn) rfl (fun j hj => bd_col_alt hF hj) _ (bd_F_ow hF hi), bd_col_in hF hi]
    rcases hF.1.2.2.2.2.1 i with e | e
    · rw [e]; decide
    · rw [e]; decide
  · rw [bd_fa_out hi t, h0 i hi]
theorem bd_sm_ct (h01 : ∀ i, px i = 0 ∨ px i = 1) : ∀ n, bd_sm px n = nI (bd_ct (fun i => px i = 1) n)
  | 0 => rfl
  | n + 1 => by
    show bd_sm px n + px n = _
    rw [bd_sm_ct h01 n]
    rcases h01 n with e | e
    · rw [bd_ct_f (P := fun i => px i = 1) (by rw [e]; exact bd_01), e, Int32.add_zero]
    · rw [bd_ct_t (P := fun i => px i = 1) e, e, nI_1]
end
