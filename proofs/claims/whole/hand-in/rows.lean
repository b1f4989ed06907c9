section
theorem pk_us {f : Nat → Int32} {k : Nat} {x : Int32} : upd f k x k = x := if_pos rfl
theorem pk_un {f : Nat → Int32} {k j : Nat} {x : Int32} (h : j ≠ k) : upd f k x j = f j := if_neg h
theorem pk_sub {a b : Nat} (h : b ≤ a) : nI a - nI b = nI (a - b) := by
  obtain ⟨c, rfl⟩ : ∃ c, a = c + b := ⟨a - b, by omega⟩
  rw [← nI_add, Int32.add_sub_cancel, Nat.add_sub_cancel]
theorem pk_m1 (n : Nat) : nI (n + 1) + (-1) = nI n := by
  rw [← nI_1, Int32.add_assoc, show (1 : Int32) + (-1) = 0 from rfl, Int32.add_zero]
theorem pk_mul (a b : Nat) : nI a * nI b = nI (a * b) := (Int32.ofNat_mul a b).symm
theorem pk_div {a d : Nat} (ha : a < 2 ^ 31) (h0 : 0 < d) (hd : d < 2 ^ 31) : nI a / nI d = nI (a / d) := by
  apply Int32.toInt_inj.mp
  rw [lg_idiv_nonneg (by rw [nI_toInt ha]; omega) (by rw [nI_toInt hd]; omega), nI_toInt ha, nI_toInt hd, nI_toInt (Nat.lt_of_le_of_lt (Nat.div_le_self a d) ha)]
  first | rfl | exact (Int.natCast_ediv _ _).symm
theorem pk_rem {a d : Nat} (ha : a < 2 ^ 31) (h0 : 0 < d) (hd : d < 2 ^ 31) : nI a - nI a / nI d * nI d = nI (a % d) := by
  rw [pk_div ha h0 hd, pk_mul, pk_sub (Nat.div_mul_le_self a d)]
  exact congrArg nI (by have := Nat.div_add_mod' a d; omega)
theorem pk_ix (x : Int32) {n : Nat} (hn : n < 2 ^ 31) : x < 0 ∨ nI n ≤ x ∨ ∃ j : Nat, j < n ∧ x = nI j := by
  by_cases h : x < 0
  · exact Or.inl h
  · obtain ⟨j, hj, rfl⟩ := nI_of h
    by_cases h2 : j < n
    · exact Or.inr (Or.inr ⟨j, h2, rfl⟩)
    · exact Or.inr (Or.inl (nI_le (by omega) hj))
theorem pk_le {x y : Int32} {A B : Prop} (a b : Nat) (f : a ≤ b → A) (g : b < a → B) (hx : x = nI a := by rfl) (hy : y = nI b := by rfl) (ha : a < 2 ^ 31 := by omega) (hb : b < 2 ^ 31 := by omega) : (x ≤ y → A) ∧ (¬ x ≤ y → B) := by
  subst hx hy
  rw [nI_leI ha hb]
  exact ⟨f, fun z => g (by omega)⟩
theorem pk_lt {x y : Int32} {A B : Prop} (a b : Nat) (f : a < b → A) (g : b ≤ a → B) (hx : x = nI a := by rfl) (hy : y = nI b := by rfl) (ha : a < 2 ^ 31 := by omega) (hb : b < 2 ^ 31 := by omega) : (x < y → A) ∧ (¬ x < y → B) := by
  subst hx hy
  rw [nI_ltI ha hb]
  exact ⟨f, fun z => g (by omega)⟩
theorem pk_eq {x y : Int32} {A B : Prop} (a b : Nat) (f : a = b → A) (g : a ≠ b → B) (hx : x = nI a := by rfl) (hy : y = nI b := by rfl) (ha : a < 2 ^ 31 := by omega) (hb : b < 2 ^ 31 := by omega) : (x = y → A) ∧ (¬ x = y → B) := by
  subst hx hy
  rw [nI_eq ha hb]
  exact ⟨f, g⟩
theorem pk_in {x : Int32} (n N : Nat) (h : n < N) (hx : x = nI n := by rfl) (hN : N < 2 ^ 31 := by omega) : vp_in x N := by
  subst hx
  exact vp_in_nI h hN
theorem pk_cl {x : Int32} (n : Nat) (hx : x = nI n := by rfl) (h : n < 2 ^ 31 := by omega) : x.toNatClampNeg = n := by
  subst hx
  exact nI_clamp h
theorem pk_tn {n : Nat} (h : n < 2 ^ 32) : (nI n).toBitVec.toNat = n := Nat.mod_eq_of_lt h
theorem pk_and (x : Int32) {m : Int32} (k : Nat) (hm : m.toBitVec.toNat = 2 ^ k - 1) : x &&& m = nI (x.toBitVec.toNat % 2 ^ k) := by
  apply Int32.toBitVec_inj.mp
  apply BitVec.eq_of_toNat_eq
  rw [Int32.toBitVec_and, BitVec.toNat_and, hm, Nat.and_two_pow_sub_one_eq_mod]
  show _ = (BitVec.ofNat 32 _).toNat
  rw [BitVec.toNat_ofNat]
  exact (Nat.mod_eq_of_lt (Nat.lt_of_le_of_lt (Nat.mod_le _ _) x.toBitVec.isLt)).symm
theorem pk_andN {n : Nat} (h : n < 2 ^ 32) {m : Int32} (k : Nat) (hm : m.toBitVec.toNat = 2 ^ k - 1) : nI n &&& m = nI (n % 2 ^ k) := by
  rw [pk_and _ k hm, pk_tn h]
theorem pk_andE (x : Int32) {m : Int32} (k : Nat) (hm : m.toBitVec.toNat = 2 ^ k - 1) : ∃ j : Nat, j < 2 ^ k ∧ x &&& m = nI j := ⟨_, Nat.mod_lt _ (Nat.two_pow_pos k), pk_and x k hm⟩
theorem pk_andIn (x : Int32) {m : Int32} (k : Nat) (hm : m.toBitVec.toNat = 2 ^ k - 1) (hk : k ≤ 30) : vp_in (x &&& m) (2 ^ k) := by
  obtain ⟨j, hj, e⟩ := pk_andE x k hm
  rw [e]
  exact vp_in_nI hj (Nat.lt_of_le_of_lt (Nat.pow_le_pow_right (by decide) hk) (by decide))
theorem pk_shr (a s : Int32) (k : Nat) (hs : (s.toBitVec.smod 32).toNat = k) : (a >>> s).toInt = a.toInt >>> k := by
  show (a.toBitVec.sshiftRight (s.toBitVec.smod 32).toNat).toInt = _
  rw [hs, BitVec.toInt_sshiftRight]
  rfl
theorem pk_shrN {n : Nat} (h : n < 2 ^ 31) (s : Int32) (k : Nat) (hs : (s.toBitVec.smod 32).toNat = k) : nI n >>> s = nI (n / 2 ^ k) := by
  apply Int32.toInt_inj.mp
  have h2 : n / 2 ^ k ≤ n := Nat.div_le_self _ _
  rw [pk_shr _ _ k hs, nI_toInt h, nI_toInt (by omega), Int.shiftRight_eq_div_pow]
  rfl
theorem pk_ushr (x s : Int32) (k : Nat) (hs : ((s.toUInt32 &&& Int32.toUInt32 31).toBitVec % 32).toNat = k) : (x.toUInt32 >>> (s.toUInt32 &&& Int32.toUInt32 31)).toInt32.toBitVec.toNat = x.toBitVec.toNat / 2 ^ k := by
  have e : (x.toUInt32 >>> (s.toUInt32 &&& Int32.toUInt32 31)).toInt32.toBitVec = x.toBitVec >>> k := by
    rw [← hs]
    exact UInt32.toBitVec_shiftRight _ _
  rw [e, BitVec.toNat_ushiftRight, Nat.shiftRight_eq_div_pow]
theorem pk_ushrN {n : Nat} (hn : n < 2 ^ 32) (s : Int32) (k : Nat) (hs : ((s.toUInt32 &&& Int32.toUInt32 31).toBitVec % 32).toNat = k) : ((nI n).toUInt32 >>> (s.toUInt32 &&& Int32.toUInt32 31)).toInt32 = nI (n / 2 ^ k) := by
  apply Int32.toBitVec_inj.mp
  apply BitVec.eq_of_toNat_eq
  rw [pk_ushr _ s k hs, pk_tn hn, pk_tn (Nat.lt_of_le_of_lt (Nat.div_le_self _ _) hn)]
theorem pk_loop {σ : Type} (W : Nat → Nat → σ → Prop) (I : Nat → σ → Prop) (e i0 : Nat) (s : σ) (hi : i0 ≤ e) (h0 : I i0 s) (hx : ∀ n s, I e s → W (n + 1) e s)
    (hs : ∀ n i s, i < e → I i s → (∀ s', I (i + 1) s' → W n (i + 1) s') → W (n + 1) i s) : ∃ n, W n i0 s :=
  ⟨e + 1, loop_i W I e hx hs (e + 1) i0 s hi (by omega) h0⟩
theorem pk_loopD {σ : Type} (W : Nat → Nat → σ → Prop) (I : Nat → σ → Prop) (hx : ∀ n s, I 0 s → W (n + 1) 0 s)
    (hs : ∀ n i s, I (i + 1) s → (∀ s', I i s' → W n i s') → W (n + 1) (i + 1) s) : ∀ (e : Nat) (s : σ), I e s → W (e + 1) e s := by
  intro e
  induction e with
  | zero => exact fun s h => hx 0 s h
  | succ e ih => exact fun s h => hs (e + 1) e s h (fun s' h' => ih s' h')
theorem pk_mu {x : Int32} {L : Nat} (h0 : ¬ x < 0) (h : ¬ nI L ≤ x) (hL : L < 2 ^ 31) : ∃ j : Nat, j < L ∧ x = nI j ∧ x + 1 = nI (j + 1) ∧ x.toNatClampNeg = j ∧ L - (x + 1).toNatClampNeg < L - x.toNatClampNeg := by
  obtain ⟨j, hj, rfl⟩ := nI_of h0
  have hl : j < L := Nat.not_le.mp fun q => h (nI_le q hj)
  refine ⟨j, hl, rfl, nI_1 j, nI_clamp hj, ?_⟩
  rw [nI_1, nI_clamp (by omega), nI_clamp hj]
  omega
theorem lp1 {A1 : Type} (W : Nat → A1 → Prop) (I : A1 → Prop) (μ : A1 → Nat) (hs : ∀ (n : Nat) (a1 : A1), I a1 → (∀ (b1 : A1), I b1 → μ b1 < μ a1 → W n b1) → W (n + 1) a1) (a1 : A1) (h : I a1) : ∃ n, W n a1 :=
  loop_m (σ := A1) (fun n s => W n s) (fun s => I s) (fun s => μ s) (fun n s hI hk => hs n s hI (fun b1 h9 hm => hk b1 h9 hm)) a1 h
theorem lp2 {A1 A2 : Type} (W : Nat → A1 → A2 → Prop) (I : A1 → A2 → Prop) (μ : A1 → A2 → Nat) (hs : ∀ (n : Nat) (a1 : A1) (a2 : A2), I a1 a2 → (∀ (b1 : A1) (b2 : A2), I b1 b2 → μ b1 b2 < μ a1 a2 → W n b1 b2) → W (n + 1) a1 a2) (a1 : A1) (a2 : A2) (h : I a1 a2) : ∃ n, W n a1 a2 :=
  loop_m (σ := A1 × A2) (fun n s => W n s.1 s.2) (fun s => I s.1 s.2) (fun s => μ s.1 s.2) (fun n s hI hk => hs n s.1 s.2 hI (fun b1 b2 h9 hm => hk (b1, b2) h9 hm)) (a1, a2) h
theorem lp3 {A1 A2 A3 : Type} (W : Nat → A1 → A2 → A3 → Prop) (I : A1 → A2 → A3 → Prop) (μ : A1 → A2 → A3 → Nat) (hs : ∀ (n : Nat) (a1 : A1) (a2 : A2) (a3 : A3), I a1 a2 a3 → (∀ (b1 : A1) (b2 : A2) (b3 : A3), I b1 b2 b3 → μ b1 b2 b3 < μ a1 a2 a3 → W n b1 b2 b3) → W (n + 1) a1 a2 a3) (a1 : A1) (a2 : A2) (a3 : A3) (h : I a1 a2 a3) : ∃ n, W n a1 a2 a3 :=
  loop_m (σ := A1 × A2 × A3) (fun n s => W n s.1 s.2.1 s.2.2) (fun s => I s.1 s.2.1 s.2.2) (fun s => μ s.1 s.2.1 s.2.2) (fun n s hI hk => hs n s.1 s.2.1 s.2.2 hI (fun b1 b2 b3 h9 hm => hk (b1, b2, b3) h9 hm)) (a1, a2, a3) h
theorem lp4 {A1 A2 A3 A4 : Type} (W : Nat → A1 → A2 → A3 → A4 → Prop) (I : A1 → A2 → A3 → A4 → Prop) (μ : A1 → A2 → A3 → A4 → Nat) (hs : ∀ (n : Nat) (a1 : A1) (a2 : A2) (a3 : A3) (a4 : A4), I a1 a2 a3 a4 → (∀ (b1 : A1) (b2 : A2) (b3 : A3) (b4 : A4), I b1 b2 b3 b4 → μ b1 b2 b3 b4 < μ a1 a2 a3 a4 → W n b1 b2 b3 b4) → W (n + 1) a1 a2 a3 a4) (a1 : A1) (a2 : A2) (a3 : A3) (a4 : A4) (h : I a1 a2 a3 a4) : ∃ n, W n a1 a2 a3 a4 :=
  loop_m (σ := A1 × A2 × A3 × A4) (fun n s => W n s.1 s.2.1 s.2.2.1 s.2.2.2) (fun s => I s.1 s.2.1 s.2.2.1 s.2.2.2) (fun s => μ s.1 s.2.1 s.2.2.1 s.2.2.2) (fun n s hI hk => hs n s.1 s.2.1 s.2.2.1 s.2.2.2 hI (fun b1 b2 b3 b4 h9 hm => hk (b1, b2, b3, b4) h9 hm)) (a1, a2, a3, a4) h
theorem ek_if {c d A B : Prop} (e : c ↔ d) (f : d → A) (g : ¬ d → B) : (c → A) ∧ (¬ c → B) :=
  ⟨fun z => f (e.mp z), fun z => g (fun y => z (e.mpr y))⟩
theorem ek_v {α : Sort _} {P : α → Prop} {a b : α} (e : a = b) (h : P b) : P a := e ▸ h
end
section
/-! counts -/
noncomputable def bd_b (P : Prop) : Nat := @ite Nat P (Classical.propDecidable P) 1 0
theorem bd_b_t {P : Prop} (h : P) : bd_b P = 1 := by unfold bd_b; rw [if_pos h]
theorem bd_b_f {P : Prop} (h : ¬ P) : bd_b P = 0 := by unfold bd_b; rw [if_neg h]
theorem bd_b_le (P : Prop) : bd_b P ≤ 1 := by
  rcases Classical.em P with h | h
  · rw [bd_b_t h]; omega
  · rw [bd_b_f h]; omega
theorem bd_b_mono {P Q : Prop} (h : P → Q) : bd_b P ≤ bd_b Q := by
  rcases Classical.em P with hp | hp
  · rw [bd_b_t hp, bd_b_t (h hp)]; omega
  · rw [bd_b_f hp]; omega
noncomputable def bd_ct (P : Nat → Prop) : Nat → Nat
  | 0 => 0
  | k + 1 => bd_ct P k + bd_b (P k)
theorem bd_ct_0 (P : Nat → Prop) : bd_ct P 0 = 0 := rfl
theorem bd_ct_s (P : Nat → Prop) (k : Nat) : bd_ct P (k + 1) = bd_ct P k + bd_b (P k) := rfl
theorem bd_ct_t {P : Nat → Prop} {k : Nat} (h : P k) : bd_ct P (k + 1) = bd_ct P k + 1 := by rw [bd_ct_s, bd_b_t h]
theorem bd_ct_f {P : Nat → Prop} {k : Nat} (h : ¬ P k) : bd_ct P (k + 1) = bd_ct P k := by rw [bd_ct_s, bd_b_f h]; omega
theorem bd_ct_mono {P Q : Nat → Prop} : ∀ {N : Nat}, (∀ k, k < N → P k → Q k) → bd_ct P N ≤ bd_ct Q N
  | 0, _ => Nat.le_refl _
  | N + 1, h => by
    have a := bd_ct_mono (P := P) (Q := Q) (N := N) (fun k hk => h k (by omega))
    have b := bd_b_mono (h N (by omega))
    rw [bd_ct_s, bd_ct_s]; omega
theorem bd_ct_lt {P Q : Nat → Prop} {a : Nat} (hp : ¬ P a) (hq : Q a) : ∀ {N : Nat}, (∀ k, k < N → P k → Q k) → a < N → bd_ct P N < bd_ct Q N
  | 0, _, h => by omega
  | N + 1, h, ha => by
    rw [bd_ct_s, bd_ct_s]
    rcases Nat.lt_or_ge a N with z | z
    · have x := bd_ct_lt hp hq (N := N) (fun k hk => h k (by omega)) z
      have b := bd_b_mono (h N (by omega))
      omega
    · have e : a = N := by omega
      subst e
      have x := bd_ct_mono (P := P) (Q := Q) (N := a) (fun k hk => h k (by omega))
      rw [bd_b_t hq, bd_b_f hp]; omega
theorem bd_ct_le (P : Nat → Prop) : ∀ N, bd_ct P N ≤ N
  | 0 => Nat.le_refl _
  | N + 1 => by have := bd_ct_le P N; have := bd_b_le (P N); rw [bd_ct_s]; omega
theorem bd_ct_eq {P Q : Nat → Prop} {N : Nat} (h : ∀ k, k < N → (P k ↔ Q k)) : bd_ct P N = bd_ct Q N :=
  Nat.le_antisymm (bd_ct_mono fun k hk => (h k hk).mp) (bd_ct_mono fun k hk => (h k hk).mpr)
theorem bd_ct_z {P : Nat → Prop} : ∀ {N : Nat}, (∀ k, k < N → ¬ P k) → bd_ct P N = 0
  | 0, _ => rfl
  | N + 1, h => by
    rw [bd_ct_f (h N (by omega))]
    exact bd_ct_z (fun k hk => h k (by omega))
theorem bd_ct_or {P Q R : Nat → Prop} : ∀ {N : Nat}, (∀ k, k < N → (R k ↔ P k ∨ Q k)) → (∀ k, k < N → P k → ¬ Q k) → bd_ct R N = bd_ct P N + bd_ct Q N
  | 0, _, _ => rfl
  | N + 1, h, d => by
    have x := bd_ct_or (P := P) (Q := Q) (R := R) (N := N) (fun k hk => h k (by omega)) (fun k hk => d k (by omega))
    rw [bd_ct_s, bd_ct_s, bd_ct_s, x]
    have hN := h N (by omega)
    have dN := d N (by omega)
    rcases Classical.em (P N) with hp | hp
    · rw [bd_b_t hp, bd_b_f (dN hp), bd_b_t (hN.mpr (Or.inl hp))]; omega
    · rcases Classical.em (Q N) with hq | hq
      · rw [bd_b_f hp, bd_b_t hq, bd_b_t (hN.mpr (Or.inr hq))]; omega
      · rw [bd_b_f hp, bd_b_f hq, bd_b_f (fun z => (hN.mp z).elim hp hq)]; omega
theorem bd_ct_ex {P : Nat → Prop} : ∀ {N : Nat}, 0 < bd_ct P N → ∃ k, k < N ∧ P k
  | 0, h => by rw [bd_ct_0] at h; omega
  | N + 1, h => by
    rcases Classical.em (P N) with hp | hp
    · exact ⟨N, by omega, hp⟩
    · rw [bd_ct_f hp] at h
      obtain ⟨k, hk, pk⟩ := bd_ct_ex h
      exact ⟨k, by omega, pk⟩
/-! codes: 0 is -1, k + 1 is k -/
def bd_cd : Nat → Int32
  | 0 => -1
  | k + 1 => nI k
theorem bd_cd_0 : bd_cd 0 = -1 := rfl
theorem bd_cd_s (k : Nat) : bd_cd (k + 1) = nI k := rfl
theorem bd_cd_toInt : ∀ {a : Nat}, a < 2 ^ 31 → (bd_cd a).toInt = (a : Int) - 1
  | 0, _ => by rw [bd_cd_0]; decide
  | k + 1, h => by rw [bd_cd_s, nI_toInt (by omega)]; omega
theorem bd_cd_lt {a b : Nat} (ha : a < 2 ^ 31) (hb : b < 2 ^ 31) : bd_cd a < bd_cd b ↔ a < b := by
  rw [Int32.lt_iff_toInt_lt, bd_cd_toInt ha, bd_cd_toInt hb]; omega
theorem bd_cd_le {a b : Nat} (ha : a < 2 ^ 31) (hb : b < 2 ^ 31) : bd_cd a ≤ bd_cd b ↔ a ≤ b := by
  rw [Int32.le_iff_toInt_le, bd_cd_toInt ha, bd_cd_toInt hb]; omega
theorem bd_cd_eq {a b : Nat} (ha : a < 2 ^ 31) (hb : b < 2 ^ 31) : bd_cd a = bd_cd b ↔ a = b := by
  rw [← Int32.toInt_inj, bd_cd_toInt ha, bd_cd_toInt hb]; omega
theorem bd_cd_nI {a k : Nat} (ha : a < 2 ^ 31) (hk : k + 1 < 2 ^ 31) : bd_cd a = nI k ↔ a = k + 1 := bd_cd_eq (b := k + 1) ha hk
theorem bd_cd_m1 {a : Nat} (ha : a < 2 ^ 31) : bd_cd a = -1 ↔ a = 0 := bd_cd_eq (b := 0) ha (by decide)
theorem bd_cd_neg {a : Nat} (ha : a < 2 ^ 31) : bd_cd a < 0 ↔ a = 0 := by
  rw [Int32.lt_iff_toInt_lt, bd_cd_toInt ha, show (0 : Int32).toInt = 0 from by decide]; omega
theorem bd_cd_nn {a : Nat} (ha : a < 2 ^ 31) : 0 ≤ bd_cd a ↔ 0 < a := by
  rw [Int32.le_iff_toInt_le, bd_cd_toInt ha, show (0 : Int32).toInt = 0 from by decide]; omega
theorem bd_cd_m2 {a : Nat} (ha : a < 2 ^ 31) : ¬ bd_cd a = -2 := by
  rw [← Int32.toInt_inj, bd_cd_toInt ha, show (-2 : Int32).toInt = -2 from by decide]; omega
theorem bd_m1_m2 : ¬ (-1 : Int32) = -2 := by decide
theorem bd_nI_m2 {k : Nat} (h : k < 2 ^ 31) : ¬ nI k = -2 := by
  rw [← Int32.toInt_inj, nI_toInt h, show (-2 : Int32).toInt = -2 from by decide]; omega
theorem bd_nI_m1 {k : Nat} (h : k < 2 ^ 31) : ¬ nI k = -1 := by
  rw [← Int32.toInt_inj, nI_toInt h, show (-1 : Int32).toInt = -1 from by decide]; omega
theorem bd_01 : ¬ (0 : Int32) = 1 := by decide
theorem bd_10 : ¬ (1 : Int32) = 0 := by decide
/-! the raster's cells: i has column i % 16 and row i / 16 -/
abbrev bd_in (W H i : Nat) : Prop := i % 16 < W ∧ i / 16 < H
abbrev bd_rim (W H i : Nat) : Prop := i % 16 = 0 ∨ i / 16 = 0 ∨ i % 16 + 1 = W ∨ i / 16 + 1 = H
abbrev bd_nr (a b : Nat) : Prop := a % 16 ≤ b % 16 + 1 ∧ b % 16 ≤ a % 16 + 1 ∧ a / 16 ≤ b / 16 + 1 ∧ b / 16 ≤ a / 16 + 1
def bd_adj (W H : Nat) (p : Nat → Int32) (a b : Nat) : Prop :=
  bd_in W H a ∧ bd_in W H b ∧ p a = p b ∧ bd_nr a b ∧ (p a = 0 → a % 16 = b % 16 ∨ a / 16 = b / 16)
def bd_cn (W H : Nat) (p : Nat → Int32) (a b : Nat) : Prop := ∀ S : Nat → Prop, S a → (∀ c d, S c → bd_adj W H p c d → S d) → S b
section
variable {W H : Nat} {p : Nat → Int32}
theorem bd_adj_symm {a b : Nat} (h : bd_adj W H p a b) : bd_adj W H p b a := by
  obtain ⟨h1, h2, h3, ⟨h4, h5, h6, h7⟩, h8⟩ := h
  refine ⟨h2, h1, h3.symm, ⟨h5, h4, h7, h6⟩, fun z => ?_⟩
  rcases h8 (h3.trans z) with e | e
  · exact Or.inl e.symm
  · exact Or.inr e.symm
theorem bd_cn_refl {a : Nat} : bd_cn W H p a a := fun _ h _ => h
theorem bd_cn_step {a b c : Nat} (h : bd_cn W H p a b) (e : bd_adj W H p b c) : bd_cn W H p a c := fun S h0 hs => hs b c (h S h0 hs) e
theorem bd_cn_trans {a b c : Nat} (h : bd_cn W H p a b) (g : bd_cn W H p b c) : bd_cn W H p a c := fun S h0 hs => g S (h S h0 hs) hs
theorem bd_cn_symm {a b : Nat} (h : bd_cn W H p a b) : bd_cn W H p b a :=
  h (fun x => bd_cn W H p x a) bd_cn_refl (fun _ _ hc e => bd_cn_trans (bd_cn_step bd_cn_refl (bd_adj_symm e)) hc)
theorem bd_cn_in {a b : Nat} (h : bd_cn W H p a b) (ha : bd_in W H a) : bd_in W H b :=
  h (fun x => bd_in W H x) ha (fun _ _ _ e => e.2.1)
theorem bd_cn_p {a b : Nat} (h : bd_cn W H p a b) : p b = p a :=
  h (fun x => p x = p a) rfl (fun _ _ hc e => e.2.2.1.symm.trans hc)
end
/-! the label of a component, as a code: 0 outside, else its first cell + 1 -/
def bd_LS (W H : Nat) (p : Nat → Int32) (L : Nat → Nat) : Prop :=
  (∀ a b, bd_adj W H p a b → L a = L b) ∧
  (∀ i, bd_in W H i → (p i = 0 ∧ L i = 0 ∧ ∃ j, bd_cn W H p i j ∧ bd_in W H j ∧ bd_rim W H j) ∨
    (∃ r, L i = r + 1 ∧ r ≤ i ∧ bd_cn W H p i r ∧ bd_in W H r ∧ L r = r + 1 ∧ p r = p i)) ∧
  (∀ i, bd_in W H i → p i = 0 → bd_rim W H i → L i = 0)
def bd_out (W H : Nat) (p : Nat → Int32) (i : Nat) : Prop := p i = 0 ∧ ∃ j, bd_cn W H p i j ∧ bd_in W H j ∧ bd_rim W H j
def bd_LP (W H : Nat) (p : Nat → Int32) (i l : Nat) : Prop :=
  (bd_out W H p i ∧ l = 0) ∨ (¬ bd_out W H p i ∧ ∃ r, l = r + 1 ∧ bd_cn W H p i r ∧ ∀ j, bd_cn W H p i j → r ≤ j)
section
variable {W H : Nat} {p : Nat → Int32}
theorem bd_least (P : Nat → Prop) (h : ∃ k, P k) : ∃ k, P k ∧ ∀ j, P j → k ≤ j := by
  obtain ⟨k, hk⟩ := h
  induction k using Nat.strongRecOn with
  | ind k ih =>
    by_cases e : ∃ j, j < k ∧ P j
    · obtain ⟨j, hj, pj⟩ := e
      exact ih j hj pj
    · exact ⟨k, hk, fun j pj => Nat.not_lt.mp fun hj => e ⟨j, hj, pj⟩⟩
theorem bd_LP_ex (i : Nat) : ∃ l, bd_LP W H p i l := by
  by_cases h : bd_out W H p i
  · exact ⟨0, Or.inl ⟨h, rfl⟩⟩
  · obtain ⟨r, hr, hm⟩ := bd_least (fun r => bd_cn W H p i r) ⟨i, bd_cn_refl⟩
    exact ⟨r + 1, Or.inr ⟨h, r, rfl, hr, hm⟩⟩
theorem bd_out_cn {a b : Nat} (h : bd_cn W H p a b) (ho : bd_out W H p a) : bd_out W H p b := by
  obtain ⟨h0, j, h1, h2, h3⟩ := ho
  exact ⟨(bd_cn_p h).trans h0, j, bd_cn_trans (bd_cn_symm h) h1, h2, h3⟩
theorem bd_LP_cn {a b l m : Nat} (h : bd_cn W H p a b) (ha : bd_LP W H p a l) (hb : bd_LP W H p b m) : l = m := by
  rcases ha with ⟨oa, rfl⟩ | ⟨oa, r, rfl, ra, ma⟩
  · rcases hb with ⟨ob, rfl⟩ | ⟨ob, _⟩
    · rfl
    · exact absurd (bd_out_cn h oa) ob
  · rcases hb with ⟨ob, rfl⟩ | ⟨ob, s, rfl, sb, mb⟩
    · exact absurd (bd_out_cn (bd_cn_symm h) ob) oa
    · have h1 := ma s (bd_cn_trans h sb)
      have h2 := mb r (bd_cn_trans (bd_cn_symm h) ra)
      omega
theorem bd_LS_ex (W H : Nat) (p : Nat → Int32) : ∃ L, bd_LS W H p L := by
  refine ⟨fun i => Classical.choose (bd_LP_ex (W := W) (H := H) (p := p) i), ?_, ?_, ?_⟩
  · intro a b e
    exact bd_LP_cn (bd_cn_step bd_cn_refl e) (Classical.choose_spec (bd_LP_ex a)) (Classical.choose_spec (bd_LP_ex b))
  · intro i hi
    have s := Classical.choose_spec (bd_LP_ex (W := W) (H := H) (p := p) i)
    rcases s with ⟨⟨h0, hj⟩, e⟩ | ⟨_, r, e, hr, hm⟩
    · exact Or.inl ⟨h0, e, hj⟩
    · refine Or.inr ⟨r, e, hm i bd_cn_refl, hr, bd_cn_in hr hi, ?_, bd_cn_p hr⟩
      have q := bd_LP_cn hr (Classical.choose_spec (bd_LP_ex i)) (Classical.choose_spec (bd_LP_ex r))
      exact q.symm.trans e
  · intro i hi h0 hr
    have s := Classical.choose_spec (bd_LP_ex (W := W) (H := H) (p := p) i)
    rcases s with ⟨_, e⟩ | ⟨ho, _⟩
    · exact e
    · exact absurd ⟨h0, i, bd_cn_refl, hi, hr⟩ ho
end
end
section
/-! keys, numbers of contours, labels: pure -/
abbrev bd_ok (W H : Nat) (p : Nat → Int32) (L : Nat → Nat) (i : Nat) : Prop := bd_in W H i ∧ p i = 1 ∧ L i = i + 1
abbrev bd_hk (W H : Nat) (p : Nat → Int32) (L : Nat → Nat) (i : Nat) : Prop := bd_in W H i ∧ i % 16 + 1 < W ∧ p (i + 1) = 0 ∧ L (i + 1) = i + 2
abbrev bd_key (W H : Nat) (p : Nat → Int32) (L : Nat → Nat) (i : Nat) : Prop := bd_ok W H p L i ∨ bd_hk W H p L i
def bd_N (W H : Nat) (p : Nat → Int32) (L : Nat → Nat) : Nat → Nat
  | 0 => 0
  | i + 1 => if bd_key W H p L i then bd_N W H p L i + 1 else bd_N W H p L i
def bd_kc (p : Nat → Int32) (L : Nat → Nat) (j : Nat) : Nat := if p j = 0 then L j - 2 else L j - 1
def bd_ow (W H : Nat) (p : Nat → Int32) (L : Nat → Nat) (j : Nat) : Nat := if L j = 0 then 0 else bd_N W H p L (bd_kc p L j) + 1
def bd_lab (W H : Nat) (p : Nat → Int32) (L : Nat → Nat) (c j : Nat) : Int32 :=
  if bd_in W H j ∧ (L j = 0 ∨ bd_kc p L j < c) then bd_cd (bd_ow W H p L j) else -2
def bd_A (W H : Nat) (p : Nat → Int32) (L : Nat → Nat) (val A0 : Nat → Int32) : Nat → Nat → Int32
  | 0 => A0
  | c + 1 => if bd_key W H p L c then upd (bd_A W H p L val A0 c) (bd_N W H p L c) (val c) else bd_A W H p L val A0 c
def bd_pv (W H : Nat) (p : Nat → Int32) (L : Nat → Nat) (c : Nat) : Nat :=
  if bd_ok W H p L c then (if c % 16 = 0 then 0 else bd_ow W H p L (c - 1)) else bd_ow W H p L c
def bd_kd (W H : Nat) (p : Nat → Int32) (L : Nat → Nat) (c : Nat) : Int32 := if bd_ok W H p L c then 1 else 2
def bd_C (W H : Nat) (p : Nat → Int32) (L : Nat → Nat) : Prop :=
  1 ≤ W ∧ W ≤ 16 ∧ 1 ≤ H ∧ H ≤ 16 ∧ (∀ i, p i = 0 ∨ p i = 1) ∧ bd_LS W H p L
section
variable {W H : Nat} {p : Nat → Int32} {L : Nat → Nat}
theorem bd_in_lt (hC : bd_C W H p L) {i : Nat} (h : bd_in W H i) : i < 256 := by
  obtain ⟨_, _, _, hH, _⟩ := hC
  obtain ⟨h1, h2⟩ := h
  omega
theorem bd_L_adj (hC : bd_C W H p L) {a b : Nat} (h : bd_adj W H p a b) : L a = L b := hC.2.2.2.2.2.1 a b h
theorem bd_L_cn (hC : bd_C W H p L) {a b : Nat} (h : bd_cn W H p a b) : L a = L b :=
  h (fun x => L a = L x) rfl (fun _ _ hc e => hc.trans (bd_L_adj hC e))
theorem bd_L_le (hC : bd_C W H p L) {i : Nat} (h : bd_in W H i) : L i ≤ i + 1 := by
  rcases hC.2.2.2.2.2.2.1 i h with ⟨_, e, _⟩ | ⟨r, e, hr, _⟩
  · omega
  · omega
theorem bd_fg (hC : bd_C W H p L) {i : Nat} (h : bd_in W H i) (h1 : p i = 1) : ∃ r, L i = r + 1 ∧ r ≤ i ∧ bd_cn W H p i r ∧ bd_ok W H p L r := by
  rcases hC.2.2.2.2.2.2.1 i h with ⟨e, _⟩ | ⟨r, e, hr, hc, hi, hL, hp⟩
  · exact absurd (e.symm.trans h1) bd_01
  · exact ⟨r, e, hr, hc, hi, hp.trans h1, hL⟩
theorem bd_same (hC : bd_C W H p L) {a b : Nat} (ha : bd_in W H a) (hb : bd_in W H b) (e : L a = L b) (h0 : L a ≠ 0) : bd_cn W H p a b := by
  rcases hC.2.2.2.2.2.2.1 a ha with ⟨_, e1, _⟩ | ⟨r, e1, _, hc, _⟩
  · exact absurd e1 h0
  · rcases hC.2.2.2.2.2.2.1 b hb with ⟨_, e2, _⟩ | ⟨s, e2, _, hd, _⟩
    · exact absurd (e.trans e2) h0
    · have : r = s := by omega
      subst this
      exact bd_cn_trans hc (bd_cn_symm hd)
theorem bd_adj_r (hC : bd_C W H p L) {i : Nat} (h : bd_in W H i) (h1 : i % 16 + 1 < W) (e : p i = p (i + 1)) : bd_adj W H p i (i + 1) := by
  obtain ⟨_, hW, _⟩ := hC
  obtain ⟨h2, h3⟩ := h
  exact ⟨⟨h2, h3⟩, ⟨by omega, by omega⟩, e, ⟨by omega, by omega, by omega, by omega⟩, fun _ => Or.inr (by omega)⟩
theorem bd_hk_p (hC : bd_C W H p L) {i : Nat} (h : bd_hk W H p L i) : p i = 1 := by
  obtain ⟨h1, h2, h3, h4⟩ := h
  rcases hC.2.2.2.2.1 i with e | e
  · have a := bd_L_adj hC (bd_adj_r hC h1 h2 (e.trans h3.symm))
    have b := bd_L_le hC h1
    omega
  · exact e
theorem bd_hk_in (hC : bd_C W H p L) {i : Nat} (h : bd_hk W H p L i) : bd_in W H (i + 1) := by
  obtain ⟨_, hW, _⟩ := hC
  obtain ⟨⟨h1, h3⟩, h2, _⟩ := h
  exact ⟨by omega, by omega⟩
theorem bd_excl (hC : bd_C W H p L) {i : Nat} (h : bd_hk W H p L i) : ¬ bd_ok W H p L i := by
  intro ho
  have hin := bd_hk_in hC h
  obtain ⟨⟨h1, h1'⟩, h2, h3, h4⟩ := h
  obtain ⟨_, hp, hl⟩ := ho
  have hnr : ¬ bd_rim W H (i + 1) := fun hr => by
    have := hC.2.2.2.2.2.2.2 (i + 1) hin h3 hr
    omega
  have hW := hC.2.1
  have hy : 16 ≤ i := by
    rcases Nat.lt_or_ge i 16 with z | z
    · exact absurd (Or.inr (Or.inl (by omega))) hnr
    · exact z
  have hu : bd_in W H (i + 1 - 16) := ⟨by omega, by omega⟩
  have hle := bd_L_le hC hu
  rcases hC.2.2.2.2.1 (i + 1 - 16) with e | e
  · have a := bd_L_adj hC (a := i + 1 - 16) (b := i + 1) ⟨hu, hin, e.trans h3.symm, ⟨by omega, by omega, by omega, by omega⟩, fun _ => Or.inl (by omega)⟩
    omega
  · have a := bd_L_adj hC (a := i + 1 - 16) (b := i) ⟨hu, ⟨h1, h1'⟩, e.trans hp.symm, ⟨by omega, by omega, by omega, by omega⟩, fun z => absurd (z.symm.trans e) bd_01⟩
    omega
theorem bd_bg (hC : bd_C W H p L) {i : Nat} (h : bd_in W H i) (h0 : p i = 0) (hn : L i ≠ 0) : ∃ r, L i = r + 2 ∧ r + 1 ≤ i ∧ bd_cn W H p i (r + 1) ∧ bd_hk W H p L r := by
  rcases hC.2.2.2.2.2.2.1 i h with ⟨_, e, _⟩ | ⟨s, e, hs, hc, hi, hL, hp⟩
  · exact absurd e hn
  · have hnr : ¬ bd_rim W H s := fun hr => by
      have := hC.2.2.2.2.2.2.2 s hi (hp.trans h0) hr
      omega
    have hW := hC.2.1
    obtain ⟨h1, h2⟩ := hi
    have hx : s % 16 ≠ 0 := fun z => hnr (Or.inl z)
    obtain ⟨r, rfl⟩ : ∃ r, s = r + 1 := ⟨s - 1, by omega⟩
    exact ⟨r, e, hs, hc, ⟨by omega, by omega⟩, by omega, hp.trans h0, hL⟩
theorem bd_kc_fg (hC : bd_C W H p L) {j : Nat} (h : bd_in W H j) (h1 : p j = 1) : bd_ok W H p L (bd_kc p L j) ∧ bd_kc p L j ≤ j ∧ L j = bd_kc p L j + 1 := by
  obtain ⟨r, e, hr, _, ho⟩ := bd_fg hC h h1
  have hk : bd_kc p L j = r := by
    unfold bd_kc
    rw [if_neg (by rw [h1]; exact bd_10)]
    omega
  rw [hk]
  exact ⟨ho, hr, e⟩
theorem bd_kc_bg (hC : bd_C W H p L) {j : Nat} (h : bd_in W H j) (h0 : p j = 0) (hn : L j ≠ 0) : bd_hk W H p L (bd_kc p L j) ∧ bd_kc p L j + 1 ≤ j ∧ L j = bd_kc p L j + 2 := by
  obtain ⟨r, e, hr, _, ho⟩ := bd_bg hC h h0 hn
  have hk : bd_kc p L j = r := by
    unfold bd_kc
    rw [if_pos h0]
    omega
  rw [hk]
  exact ⟨ho, hr, e⟩
theorem bd_N_eq (i : Nat) : bd_N W H p L (i + 1) = if bd_key W H p L i then bd_N W H p L i + 1 else bd_N W H p L i := rfl
theorem bd_N_key {i : Nat} (h : bd_key W H p L i) : bd_N W H p L (i + 1) = bd_N W H p L i + 1 := (bd_N_eq i).trans (if_pos h)
theorem bd_N_no {i : Nat} (h : ¬ bd_key W H p L i) : bd_N W H p L (i + 1) = bd_N W H p L i := (bd_N_eq i).trans (if_neg h)
theorem bd_N_s (i : Nat) : bd_N W H p L i ≤ bd_N W H p L (i + 1) := by
  by_cases h : bd_key W H p L i
  · rw [bd_N_key h]; omega
  · rw [bd_N_no h]; omega
theorem bd_N_mono {a : Nat} : ∀ {b : Nat}, a ≤ b → bd_N W H p L a ≤ bd_N W H p L b
  | 0, h => by
    have : a = 0 := by omega
    subst this
    exact Nat.le_refl _
  | b + 1, h => by
    rcases Nat.lt_or_ge b a with z | z
    · have : a = b + 1 := by omega
      subst this
      exact Nat.le_refl _
    · exact Nat.le_trans (bd_N_mono z) (bd_N_s b)
theorem bd_N_lt {a b : Nat} (h : bd_key W H p L a) (hb : a < b) : bd_N W H p L a < bd_N W H p L b := by
  have := bd_N_mono (W := W) (H := H) (p := p) (L := L) (a := a + 1) (b := b) (by omega)
  rw [bd_N_key h] at this
  omega
theorem bd_N_le : ∀ i : Nat, bd_N W H p L i ≤ i
  | 0 => Nat.le_refl _
  | i + 1 => by
    have := bd_N_le i
    by_cases h : bd_key W H p L i
    · rw [bd_N_key h]; omega
    · rw [bd_N_no h]; omega
theorem bd_N_ex {k : Nat} : ∀ {i : Nat}, k < bd_N W H p L i → ∃ c, c < i ∧ bd_key W H p L c ∧ bd_N W H p L c = k
  | 0, h => absurd h (Nat.not_lt_zero k)
  | i + 1, h => by
    by_cases hk : bd_key W H p L i
    · rw [bd_N_key hk] at h
      rcases Nat.lt_or_ge k (bd_N W H p L i) with z | z
      · obtain ⟨c, h1, h2, h3⟩ := bd_N_ex z
        exact ⟨c, by omega, h2, h3⟩
      · exact ⟨i, by omega, hk, by omega⟩
    · rw [bd_N_no hk] at h
      obtain ⟨c, h1, h2, h3⟩ := bd_N_ex h
      exact ⟨c, by omega, h2, h3⟩
theorem bd_N_inj {a b : Nat} (ha : bd_key W H p L a) (hb : bd_key W H p L b) (e : bd_N W H p L a = bd_N W H p L b) : a = b := by
  rcases Nat.lt_or_ge a b with z | z
  · have := bd_N_lt ha z; omega
  · rcases Nat.lt_or_ge b a with y | y
    · have := bd_N_lt hb y; omega
    · omega
theorem bd_A_key {val A0 : Nat → Int32} {c : Nat} (h : bd_key W H p L c) : ∀ {i : Nat}, c < i → bd_A W H p L val A0 i (bd_N W H p L c) = val c
  | 0, hi => absurd hi (Nat.not_lt_zero c)
  | i + 1, hi => by
    show (if bd_key W H p L i then upd (bd_A W H p L val A0 i) (bd_N W H p L i) (val i) else bd_A W H p L val A0 i) (bd_N W H p L c) = val c
    by_cases e : c = i
    · subst e
      rw [if_pos h]
      exact pk_us
    · have r := bd_A_key (val := val) (A0 := A0) h (i := i) (by omega)
      by_cases hk : bd_key W H p L i
      · rw [if_pos hk]
        have hl := bd_N_lt h (b := i) (by omega)
        exact (pk_un (by omega)).trans r
      · rw [if_neg hk]
        exact r
theorem bd_A_ge {val A0 : Nat → Int32} {k : Nat} : ∀ {i : Nat}, bd_N W H p L i ≤ k → bd_A W H p L val A0 i k = A0 k
  | 0, _ => rfl
  | i + 1, h => by
    show (if bd_key W H p L i then upd (bd_A W H p L val A0 i) (bd_N W H p L i) (val i) else bd_A W H p L val A0 i) k = A0 k
    by_cases hk : bd_key W H p L i
    · rw [bd_N_key hk] at h
      rw [if_pos hk]
      exact (pk_un (by omega)).trans (bd_A_ge (by omega))
    · rw [bd_N_no hk] at h
      rw [if_neg hk]
      exact bd_A_ge h
theorem bd_A_k {val A0 : Nat → Int32} {c : Nat} (h : bd_key W H p L c) : bd_A W H p L val A0 (c + 1) = upd (bd_A W H p L val A0 c) (bd_N W H p L c) (val c) := if_pos h
theorem bd_A_n {val A0 : Nat → Int32} {c : Nat} (h : ¬ bd_key W H p L c) : bd_A W H p L val A0 (c + 1) = bd_A W H p L val A0 c := if_neg h
theorem bd_ow_0 {j : Nat} (h : L j = 0) : bd_ow W H p L j = 0 := if_pos h
theorem bd_ow_n {j : Nat} (h : L j ≠ 0) : bd_ow W H p L j = bd_N W H p L (bd_kc p L j) + 1 := if_neg h
theorem bd_kc_key (hC : bd_C W H p L) {j : Nat} (h : bd_in W H j) (hn : L j ≠ 0) : bd_key W H p L (bd_kc p L j) ∧ bd_kc p L j ≤ j := by
  rcases hC.2.2.2.2.1 j with e | e
  · have := bd_kc_bg hC h e hn
    exact ⟨Or.inr this.1, by omega⟩
  · have := bd_kc_fg hC h e
    exact ⟨Or.inl this.1, this.2.1⟩
theorem bd_ow_le (hC : bd_C W H p L) {j : Nat} (h : bd_in W H j) : bd_ow W H p L j ≤ bd_N W H p L 256 := by
  by_cases hn : L j = 0
  · rw [bd_ow_0 hn]; omega
  · rw [bd_ow_n hn]
    have h1 := bd_kc_key hC h hn
    have h2 := bd_in_lt hC h
    have := bd_N_lt h1.1 (b := 256) (by omega)
    omega
theorem bd_ow_ok (hC : bd_C W H p L) {j : Nat} (h : bd_ok W H p L j) : bd_ow W H p L j = bd_N W H p L j + 1 := by
  rw [bd_ow_n (by have := h.2.2; omega)]
  have := (bd_kc_fg hC h.1 h.2.1).2.2
  have e : bd_kc p L j = j := by have := h.2.2; omega
  rw [e]
theorem bd_left (hC : bd_C W H p L) {c : Nat} (h : bd_ok W H p L c) (hx : c % 16 ≠ 0) : bd_in W H (c - 1) ∧ p (c - 1) = 0 := by
  obtain ⟨⟨h1, h2⟩, h3, h4⟩ := h
  have hi : bd_in W H (c - 1) := ⟨by omega, by omega⟩
  refine ⟨hi, ?_⟩
  rcases hC.2.2.2.2.1 (c - 1) with e | e
  · exact e
  · have hW := hC.2.1
    have a := bd_L_adj hC (a := c - 1) (b := c) ⟨hi, ⟨h1, h2⟩, e.trans h3.symm, ⟨by omega, by omega, by omega, by omega⟩, fun z => absurd (z.symm.trans e) bd_01⟩
    have b := bd_L_le hC hi
    omega
theorem bd_pv_le (hC : bd_C W H p L) {c : Nat} (h : bd_key W H p L c) : bd_pv W H p L c ≤ bd_N W H p L c := by
  unfold bd_pv
  by_cases ho : bd_ok W H p L c
  · rw [if_pos ho]
    by_cases hx : c % 16 = 0
    · rw [if_pos hx]; omega
    · rw [if_neg hx]
      obtain ⟨hi, h0⟩ := bd_left hC ho hx
      by_cases hn : L (c - 1) = 0
      · rw [bd_ow_0 hn]; omega
      · rw [bd_ow_n hn]
        obtain ⟨h1, h2, _⟩ := bd_kc_bg hC hi h0 hn
        have := bd_N_lt (Or.inr h1) (b := c) (by omega)
        omega
  · rw [if_neg ho]
    have hh : bd_hk W H p L c := h.resolve_left ho
    have h1 := bd_hk_p hC hh
    obtain ⟨h2, h3, h4⟩ := bd_kc_fg hC hh.1 h1
    have hn : L c ≠ 0 := by omega
    rw [bd_ow_n hn]
    have hne : bd_kc p L c ≠ c := fun z => ho (z ▸ h2)
    have := bd_N_lt (Or.inl h2) (b := c) (by omega)
    omega
/-! labels stage by stage -/
theorem bd_lab_t {c j : Nat} (h : bd_in W H j) (h1 : L j = 0 ∨ bd_kc p L j < c) : bd_lab W H p L c j = bd_cd (bd_ow W H p L j) := if_pos ⟨h, h1⟩
theorem bd_lab_f {c j : Nat} (h : ¬ (bd_in W H j ∧ (L j = 0 ∨ bd_kc p L j < c))) : bd_lab W H p L c j = -2 := if_neg h
theorem bd_ow_lt (hC : bd_C W H p L) {j : Nat} (h : bd_in W H j) : bd_ow W H p L j < 2 ^ 31 := by
  have := bd_ow_le hC h
  have := bd_N_le (W := W) (H := H) (p := p) (L := L) 256
  omega
theorem bd_lab_m2 (hC : bd_C W H p L) {c j : Nat} (h : bd_in W H j) : bd_lab W H p L c j = -2 ↔ (L j ≠ 0 ∧ c ≤ bd_kc p L j) := by
  constructor
  · intro e
    by_cases h1 : L j = 0 ∨ bd_kc p L j < c
    · rw [bd_lab_t h h1] at e
      exact absurd e (bd_cd_m2 (bd_ow_lt hC h))
    · exact ⟨fun z => h1 (Or.inl z), Nat.not_lt.mp fun z => h1 (Or.inr z)⟩
  · intro ⟨h1, h2⟩
    exact bd_lab_f fun z => z.2.elim h1 (fun y => by omega)
theorem bd_lab_ok (hC : bd_C W H p L) {c : Nat} (h : bd_in W H c) (h1 : p c = 1) : bd_lab W H p L c c = -2 ↔ bd_ok W H p L c := by
  rw [bd_lab_m2 hC h]
  obtain ⟨h2, h3, h4⟩ := bd_kc_fg hC h h1
  constructor
  · intro ⟨_, z⟩
    exact ⟨h, h1, by omega⟩
  · intro ⟨_, _, z⟩
    exact ⟨by omega, by omega⟩
theorem bd_lab_hk (hC : bd_C W H p L) {c : Nat} (h : bd_in W H c) (hx : c % 16 + 1 < W) (h0 : p (c + 1) = 0) : bd_lab W H p L c (c + 1) = -2 ↔ bd_hk W H p L c := by
  have hW := hC.2.1
  have hi : bd_in W H (c + 1) := by
    obtain ⟨a, b⟩ := h
    exact ⟨by omega, by omega⟩
  rw [bd_lab_m2 hC hi]
  constructor
  · intro ⟨hn, z⟩
    obtain ⟨h2, h3, h4⟩ := bd_kc_bg hC hi h0 hn
    exact ⟨h, hx, h0, by omega⟩
  · intro z
    have hl := z.2.2.2
    obtain ⟨h2, h3, h4⟩ := bd_kc_bg hC hi h0 (by omega)
    exact ⟨by omega, by omega⟩
theorem bd_lab_hk' (hC : bd_C W H p L) {c : Nat} (h : bd_in W H c) (hx : c % 16 + 1 < W) (h0 : p (c + 1) = 0) : ¬ bd_lab W H p L (c + 1) (c + 1) = -2 := by
  have hW := hC.2.1
  have hi : bd_in W H (c + 1) := by
    obtain ⟨a, b⟩ := h
    exact ⟨by omega, by omega⟩
  rw [bd_lab_m2 hC hi]
  intro ⟨hn, z⟩
  obtain ⟨h2, h3, h4⟩ := bd_kc_bg hC hi h0 hn
  omega
theorem bd_lab_no (hC : bd_C W H p L) {c : Nat} (h : ¬ bd_key W H p L c) : bd_lab W H p L (c + 1) = bd_lab W H p L c := by
  funext j
  by_cases hj : bd_in W H j ∧ (L j = 0 ∨ bd_kc p L j < c)
  · rw [bd_lab_t hj.1 hj.2, bd_lab_t hj.1 (hj.2.imp id (fun z => by omega))]
  · rw [bd_lab_f hj, bd_lab_f]
    intro ⟨h1, h2⟩
    have hn : L j ≠ 0 := fun z => hj ⟨h1, Or.inl z⟩
    have hk : bd_kc p L j = c := by
      have : ¬ bd_kc p L j < c := fun z => hj ⟨h1, Or.inr z⟩
      rcases h2 with z | z
      · exact absurd z hn
      · omega
    exact h (hk ▸ (bd_kc_key hC h1 hn).1)
theorem bd_lab_step (hC : bd_C W H p L) {c f : Nat} (h : (bd_ok W H p L c ∧ f = c) ∨ (bd_hk W H p L c ∧ f = c + 1)) (j : Nat) :
    (bd_cn W H p f j → bd_lab W H p L c j = -2 ∧ bd_lab W H p L (c + 1) j = nI (bd_N W H p L c)) ∧
    (¬ bd_cn W H p f j → bd_lab W H p L (c + 1) j = bd_lab W H p L c j) := by
  have hf : bd_in W H f ∧ L f ≠ 0 ∧ bd_kc p L f = c := by
    rcases h with ⟨ho, rfl⟩ | ⟨hh, rfl⟩
    · have := (bd_kc_fg hC ho.1 ho.2.1).2.2
      exact ⟨ho.1, by have := ho.2.2; omega, by have := ho.2.2; omega⟩
    · have hi := bd_hk_in hC hh
      have hl := hh.2.2.2
      have := (bd_kc_bg hC hi hh.2.2.1 (by omega)).2.2
      exact ⟨hi, by omega, by omega⟩
  obtain ⟨hf1, hf2, hf3⟩ := hf
  constructor
  · intro hc
    have e1 := bd_L_cn hC hc
    have e2 := bd_cn_p hc
    have e3 : bd_kc p L j = c := by
      rw [← hf3]
      unfold bd_kc
      rw [e2, e1]
    have hj := bd_cn_in hc hf1
    refine ⟨(bd_lab_m2 hC hj).mpr ⟨by omega, by omega⟩, ?_⟩
    rw [bd_lab_t hj (Or.inr (by omega)), bd_ow_n (by omega), e3]
    rfl
  · intro hc
    by_cases hj : bd_in W H j ∧ (L j = 0 ∨ bd_kc p L j < c)
    · rw [bd_lab_t hj.1 hj.2, bd_lab_t hj.1 (hj.2.imp id (fun z => by omega))]
    · rw [bd_lab_f hj, bd_lab_f]
      intro ⟨h1, h2⟩
      have hn : L j ≠ 0 := fun z => hj ⟨h1, Or.inl z⟩
      have hk : bd_kc p L j = c := by
        have : ¬ bd_kc p L j < c := fun z => hj ⟨h1, Or.inr z⟩
        rcases h2 with z | z
        · exact absurd z hn
        · omega
      apply hc
      apply bd_same hC hf1 h1 _ hf2
      rcases hC.2.2.2.2.1 j with e | e
      · obtain ⟨a1, a2, a3⟩ := bd_kc_bg hC h1 e hn
        rw [hk] at a1 a3
        rcases h with ⟨ho, rfl⟩ | ⟨hh, rfl⟩
        · exact absurd ho (bd_excl hC a1)
        · rw [a3]; exact hh.2.2.2
      · obtain ⟨a1, a2, a3⟩ := bd_kc_fg hC h1 e
        rw [hk] at a1 a3
        rcases h with ⟨ho, rfl⟩ | ⟨hh, rfl⟩
        · rw [a3]; exact ho.2.2
        · exact absurd a1 (bd_excl hC hh)
theorem bd_lab_left (hC : bd_C W H p L) {c : Nat} (h : bd_ok W H p L c) (hx : c % 16 ≠ 0) : bd_lab W H p L c (c - 1) = bd_cd (bd_ow W H p L (c - 1)) := by
  obtain ⟨hi, h0⟩ := bd_left hC h hx
  refine bd_lab_t hi ?_
  by_cases hn : L (c - 1) = 0
  · exact Or.inl hn
  · have := bd_kc_bg hC hi h0 hn
    exact Or.inr (by omega)
theorem bd_lab_self (hC : bd_C W H p L) {c : Nat} (h : bd_hk W H p L c) : bd_lab W H p L c c = bd_cd (bd_ow W H p L c) := by
  obtain ⟨h1, h2, h3⟩ := bd_kc_fg hC h.1 (bd_hk_p hC h)
  refine bd_lab_t h.1 (Or.inr ?_)
  have hne : bd_kc p L c ≠ c := fun z => bd_excl hC h (z ▸ h1)
  omega
theorem bd_lab_256 (hC : bd_C W H p L) {j : Nat} (h : bd_in W H j) : bd_lab W H p L 256 j = bd_cd (bd_ow W H p L j) := by
  refine bd_lab_t h ?_
  by_cases hn : L j = 0
  · exact Or.inl hn
  · have := bd_kc_key hC h hn
    have := bd_in_lt hC h
    exact Or.inr (by omega)
theorem bd_lab_out {j c : Nat} (h : ¬ bd_in W H j) : bd_lab W H p L c j = -2 := bd_lab_f fun z => h z.1
end
end
section
/-! chains of parents (codes), areas, edges: pure -/
def bd_an (pp : Nat → Nat) (k : Nat) : Nat → Nat → Bool
  | 0, _ => false
  | n + 1, q => if q = 0 then false else if q = k + 1 then true else bd_an pp k n (pp (q - 1))
theorem bd_an_s (pp : Nat → Nat) (k n q : Nat) : bd_an pp k (n + 1) q = if q = 0 then false else if q = k + 1 then true else bd_an pp k n (pp (q - 1)) := rfl
theorem bd_an_0 (pp : Nat → Nat) (k n : Nat) : bd_an pp k n 0 = false := by
  cases n with
  | zero => rfl
  | succ n => rw [bd_an_s]; exact if_pos rfl
theorem bd_an_fuel {pp : Nat → Nat} {k t : Nat} (hp : ∀ j, j < t → pp j ≤ j) : ∀ n m q : Nat, q ≤ t → q ≤ n → q ≤ m → bd_an pp k n q = bd_an pp k m q := by
  intro n
  induction n with
  | zero =>
    intro m q _ h1 _
    have : q = 0 := by omega
    subst this
    rw [bd_an_0, bd_an_0]
  | succ n ih =>
    intro m q h0 h1 h2
    cases m with
    | zero =>
      have : q = 0 := by omega
      subst this
      rw [bd_an_0, bd_an_0]
    | succ m =>
      rw [bd_an_s, bd_an_s]
      by_cases e0 : q = 0
      · rw [if_pos e0, if_pos e0]
      · by_cases e1 : q = k + 1
        · rw [if_neg e0, if_neg e0, if_pos e1, if_pos e1]
        · rw [if_neg e0, if_neg e0, if_neg e1, if_neg e1]
          have := hp (q - 1) (by omega)
          exact ih m (pp (q - 1)) (by omega) (by omega) (by omega)
def bd_a (pp : Nat → Nat) (k q : Nat) : Bool := bd_an pp k q q
section
variable {pp : Nat → Nat} {t : Nat}
theorem bd_a_an (hp : ∀ j, j < t → pp j ≤ j) {k n q : Nat} (h0 : q ≤ t) (h1 : q ≤ n) : bd_an pp k n q = bd_a pp k q :=
  bd_an_fuel hp n q q h0 h1 (Nat.le_refl q)
theorem bd_a_0 (k : Nat) : bd_a pp k 0 = false := rfl
theorem bd_a_s (hp : ∀ j, j < t → pp j ≤ j) {k j : Nat} (hj : j < t) : bd_a pp k (j + 1) = if j = k then true else bd_a pp k (pp j) := by
  show bd_an pp k (j + 1) (j + 1) = _
  rw [bd_an_s, if_neg (by omega)]
  by_cases e : j = k
  · rw [if_pos e, if_pos (show j + 1 = k + 1 by omega)]
  · rw [if_neg e, if_neg (show ¬ j + 1 = k + 1 by omega)]
    have := hp j hj
    exact bd_a_an hp (by show pp j ≤ t; omega) this
theorem bd_a_self (hp : ∀ j, j < t → pp j ≤ j) {k : Nat} (hk : k < t) : bd_a pp k (k + 1) = true := by
  rw [bd_a_s hp hk, if_pos rfl]
theorem bd_a_low (hp : ∀ j, j < t → pp j ≤ j) {k : Nat} : ∀ q : Nat, q ≤ k → q ≤ t → bd_a pp k q = false := by
  intro q
  induction q using Nat.strongRecOn with
  | ind q ih =>
    intro h1 h2
    cases q with
    | zero => rfl
    | succ j =>
      rw [bd_a_s hp (by omega), if_neg (by omega)]
      have := hp j (by omega)
      exact ih (pp j) (by omega) (by omega) (by omega)
end
def bd_g (pp : Nat → Nat) (t : Nat) (own : Nat → Nat) : Nat → Nat → Nat
  | 0, i => own i
  | d + 1, i => if bd_g pp t own d i = t - d then pp (t - 1 - d) else bd_g pp t own d i
theorem bd_g_s (pp : Nat → Nat) (t : Nat) (own : Nat → Nat) (d i : Nat) : bd_g pp t own (d + 1) i = if bd_g pp t own d i = t - d then pp (t - 1 - d) else bd_g pp t own d i := rfl
section
variable {pp : Nat → Nat} {t : Nat} {own : Nat → Nat}
theorem bd_g_le (hp : ∀ j, j < t → pp j ≤ j) {i : Nat} (ho : own i ≤ t) : ∀ {d : Nat}, d ≤ t → bd_g pp t own d i ≤ t - d
  | 0, _ => ho
  | d + 1, hd => by
    have h := bd_g_le hp ho (d := d) (by omega)
    rw [bd_g_s]
    by_cases e : bd_g pp t own d i = t - d
    · rw [if_pos e]
      have := hp (t - 1 - d) (by omega)
      omega
    · rw [if_neg e]
      omega
theorem bd_g_a (hp : ∀ j, j < t → pp j ≤ j) {k i : Nat} : ∀ {d : Nat}, k + 1 + d ≤ t → bd_a pp k (bd_g pp t own d i) = bd_a pp k (own i)
  | 0, _ => rfl
  | d + 1, hd => by
    have h := bd_g_a hp (k := k) (i := i) (d := d) (by omega)
    rw [bd_g_s]
    by_cases e : bd_g pp t own d i = t - d
    · rw [if_pos e, ← h, e, show t - d = (t - 1 - d) + 1 from by omega, bd_a_s hp (by omega), if_neg (by omega)]
    · rw [if_neg e]
      exact h
theorem bd_g_end (hp : ∀ j, j < t → pp j ≤ j) {k i : Nat} (hk : k < t) (ho : own i ≤ t) : bd_a pp k (own i) = true ↔ bd_g pp t own (t - 1 - k) i = k + 1 := by
  rw [← bd_g_a hp (k := k) (i := i) (d := t - 1 - k) (by omega)]
  have h := bd_g_le hp ho (d := t - 1 - k) (by omega)
  constructor
  · intro e
    rcases Nat.lt_or_ge (bd_g pp t own (t - 1 - k) i) (k + 1) with z | z
    · rw [bd_a_low hp _ (by omega) (by omega)] at e
      exact absurd e (by decide)
    · omega
  · intro e
    rw [e]
    exact bd_a_self hp hk
end
noncomputable def bd_gc (I : Nat → Prop) (pp : Nat → Nat) (t : Nat) (own : Nat → Nat) (d k : Nat) : Nat := bd_ct (fun i => I i ∧ bd_g pp t own d i = k + 1) 256
theorem bd_gc_t {I : Nat → Prop} {pp : Nat → Nat} {t : Nat} {own : Nat → Nat} {d m : Nat} (hd : d < t) (hm : m < t - 1 - d) (e : pp (t - 1 - d) = m + 1) :
    bd_gc I pp t own (d + 1) m = bd_gc I pp t own d m + bd_gc I pp t own d (t - 1 - d) := by
  refine bd_ct_or (fun i _ => ?_) (fun i _ h1 h2 => ?_)
  · show (I i ∧ bd_g pp t own (d + 1) i = m + 1) ↔ (I i ∧ bd_g pp t own d i = m + 1) ∨ (I i ∧ bd_g pp t own d i = t - 1 - d + 1)
    rw [bd_g_s]
    by_cases z : bd_g pp t own d i = t - d
    · rw [if_pos z]
      exact ⟨fun h => Or.inr ⟨h.1, by omega⟩, fun h => ⟨h.elim And.left And.left, e⟩⟩
    · rw [if_neg z]
      exact ⟨fun h => Or.inl h, fun h => h.elim id (fun y => absurd y.2 (by omega))⟩
  · have := h1.2
    have := h2.2
    omega
theorem bd_gc_f {I : Nat → Prop} {pp : Nat → Nat} {t : Nat} {own : Nat → Nat} {d m : Nat} (hd : d < t) (hm : m < t - 1 - d) (e : pp (t - 1 - d) ≠ m + 1) :
    bd_gc I pp t own (d + 1) m = bd_gc I pp t own d m := by
  refine bd_ct_eq (fun i _ => ?_)
  show (I i ∧ bd_g pp t own (d + 1) i = m + 1) ↔ (I i ∧ bd_g pp t own d i = m + 1)
  rw [bd_g_s]
  by_cases z : bd_g pp t own d i = t - d
  · rw [if_pos z]
    exact ⟨fun h => absurd h.2 e, fun h => absurd h.2 (by omega)⟩
  · rw [if_neg z]
/-! edges -/
def bd_far (W H : Nat) (ow : Nat → Nat) (i s : Nat) : Nat :=
  if s = 0 then (if i / 16 = 0 then 0 else ow (i - 16)) else
  if s = 1 then (if i % 16 + 1 < W then ow (i + 1) else 0) else
  if s = 2 then (if i / 16 + 1 < H then ow (i + 16) else 0) else
  (if i % 16 = 0 then 0 else ow (i - 1))
def bd_bl (W H : Nat) (p : Nat → Int32) (L : Nat → Nat) (c : Nat) : Nat :=
  if bd_ok W H p L c then (if c % 16 = 0 then 0 else L (c - 1)) else L (c + 1)
def bd_bo (W H : Nat) (p : Nat → Int32) (L : Nat → Nat) (c : Nat) : Nat :=
  if bd_ok W H p L c then (if c % 16 = 0 then 0 else bd_ow W H p L (c - 1)) else bd_ow W H p L (c + 1)
def bd_ed (W H : Nat) (p : Nat → Int32) (L : Nat → Nat) (c e : Nat) : Prop :=
  bd_in W H (e / 4) ∧ bd_ow W H p L (e / 4) = bd_ow W H p L c ∧ bd_far W H (bd_ow W H p L) (e / 4) (e % 4) = bd_bo W H p L c
section
variable {W H : Nat} {p : Nat → Int32} {L : Nat → Nat}
theorem bd_ow_iff (hC : bd_C W H p L) {a b : Nat} (ha : bd_in W H a) (hb : bd_in W H b) : bd_ow W H p L a = bd_ow W H p L b ↔ L a = L b := by
  constructor
  · intro e
    by_cases h1 : L a = 0
    · rw [bd_ow_0 h1] at e
      by_cases h2 : L b = 0
      · omega
      · rw [bd_ow_n h2] at e; omega
    · by_cases h2 : L b = 0
      · rw [bd_ow_0 h2, bd_ow_n h1] at e; omega
      · rw [bd_ow_n h1, bd_ow_n h2] at e
        have k1 := bd_kc_key hC ha h1
        have k2 := bd_kc_key hC hb h2
        have ee := bd_N_inj k1.1 k2.1 (by omega)
        rcases hC.2.2.2.2.1 a with z | z
        · obtain ⟨a1, _, a3⟩ := bd_kc_bg hC ha z h1
          rcases hC.2.2.2.2.1 b with y | y
          · obtain ⟨b1, _, b3⟩ := bd_kc_bg hC hb y h2
            omega
          · obtain ⟨b1, _, b3⟩ := bd_kc_fg hC hb y
            rw [← ee] at b1
            exact absurd b1 (bd_excl hC a1)
        · obtain ⟨a1, _, a3⟩ := bd_kc_fg hC ha z
          rcases hC.2.2.2.2.1 b with y | y
          · obtain ⟨b1, _, b3⟩ := bd_kc_bg hC hb y h2
            rw [← ee] at b1
            exact absurd a1 (bd_excl hC b1)
          · obtain ⟨b1, _, b3⟩ := bd_kc_fg hC hb y
            omega
  · intro e
    by_cases h1 : L a = 0
    · rw [bd_ow_0 h1, bd_ow_0 (show L b = 0 by omega)]
    · have h2 : L b ≠ 0 := e ▸ h1
      have q := bd_cn_p (bd_same hC ha hb e h1)
      rw [bd_ow_n h1, bd_ow_n h2]
      unfold bd_kc
      rw [q, e]
theorem bd_L0 (hC : bd_C W H p L) {x : Nat} (hx : bd_in W H x) (h0 : L x = 0) : p x = 0 := by
  rcases hC.2.2.2.2.1 x with z | z
  · exact z
  · obtain ⟨_, _, a3⟩ := bd_kc_fg hC hx z
    omega
theorem bd_pL (hC : bd_C W H p L) {a b : Nat} (ha : bd_in W H a) (hb : bd_in W H b) (e : L a = L b) : p a = p b := by
  by_cases h : L a = 0
  · rw [bd_L0 hC ha h, bd_L0 hC hb (show L b = 0 by omega)]
  · exact (bd_cn_p (bd_same hC ha hb e h)).symm
theorem bd_ow_hk (hC : bd_C W H p L) {c : Nat} (h : bd_hk W H p L c) : bd_ow W H p L (c + 1) = bd_N W H p L c + 1 := by
  have hl := h.2.2.2
  rw [bd_ow_n (by omega)]
  have := (bd_kc_bg hC (bd_hk_in hC h) h.2.2.1 (by omega)).2.2
  have e : bd_kc p L (c + 1) = c := by omega
  rw [e]
theorem bd_key_p (hC : bd_C W H p L) {c : Nat} (h : bd_key W H p L c) : bd_in W H c ∧ p c = 1 := by
  rcases h with h | h
  · exact ⟨h.1, h.2.1⟩
  · exact ⟨h.1, bd_hk_p hC h⟩
theorem bd_near (hC : bd_C W H p L) {c i : Nat} (h : bd_key W H p L c) (hi : bd_in W H i) : (p i = 1 ∧ L i = L c) ↔ bd_ow W H p L i = bd_ow W H p L c := by
  obtain ⟨h1, h2⟩ := bd_key_p hC h
  rw [bd_ow_iff hC hi h1]
  exact ⟨fun z => z.2, fun z => ⟨(bd_pL hC hi h1 z).trans h2, z⟩⟩
theorem bd_farI (hC : bd_C W H p L) {c i : Nat} (h : bd_key W H p L c) (hi : bd_in W H i) : (p i = 0 ∧ L i = bd_bl W H p L c) ↔ bd_ow W H p L i = bd_bo W H p L c := by
  unfold bd_bl bd_bo
  by_cases ho : bd_ok W H p L c
  · rw [if_pos ho, if_pos ho]
    by_cases hx : c % 16 = 0
    · rw [if_pos hx, if_pos hx]
      constructor
      · intro z
        exact bd_ow_0 z.2
      · intro z
        have : L i = 0 := by
          by_cases h0 : L i = 0
          · exact h0
          · rw [bd_ow_n h0] at z; omega
        exact ⟨bd_L0 hC hi this, this⟩
    · rw [if_neg hx, if_neg hx]
      obtain ⟨h1, h2⟩ := bd_left hC ho hx
      rw [bd_ow_iff hC hi h1]
      exact ⟨fun z => z.2, fun z => ⟨(bd_pL hC hi h1 z).trans h2, z⟩⟩
  · rw [if_neg ho, if_neg ho]
    have hh : bd_hk W H p L c := h.resolve_left ho
    have h1 := bd_hk_in hC hh
    rw [bd_ow_iff hC hi h1]
    exact ⟨fun z => z.2, fun z => ⟨(bd_pL hC hi h1 z).trans hh.2.2.1, z⟩⟩
theorem bd_farO (hC : bd_C W H p L) {c : Nat} (h : bd_key W H p L c) : bd_bl W H p L c = 0 ↔ 0 = bd_bo W H p L c := by
  unfold bd_bl bd_bo
  by_cases ho : bd_ok W H p L c
  · rw [if_pos ho, if_pos ho]
    by_cases hx : c % 16 = 0
    · rw [if_pos hx, if_pos hx]
    · rw [if_neg hx, if_neg hx]
      by_cases h0 : L (c - 1) = 0
      · rw [bd_ow_0 h0]; omega
      · rw [bd_ow_n h0]; omega
  · rw [if_neg ho, if_neg ho]
    have hh : bd_hk W H p L c := h.resolve_left ho
    rw [bd_ow_hk hC hh, hh.2.2.2]
    omega
theorem bd_isb (hC : bd_C W H p L) {c a b : Nat} (h : bd_key W H p L c) :
    (bd_kd W H p L c = 1 → ((a = bd_N W H p L c + 1 ∧ b = bd_pv W H p L c) ↔ (a = bd_ow W H p L c ∧ b = bd_bo W H p L c))) ∧
    (¬ bd_kd W H p L c = 1 → ((a = bd_pv W H p L c ∧ b = bd_N W H p L c + 1) ↔ (a = bd_ow W H p L c ∧ b = bd_bo W H p L c))) := by
  unfold bd_kd bd_pv bd_bo
  by_cases ho : bd_ok W H p L c
  · rw [if_pos ho, if_pos ho, if_pos ho, bd_ow_ok hC ho]
    exact ⟨fun _ => Iff.rfl, fun z => absurd rfl z⟩
  · rw [if_neg ho, if_neg ho, if_neg ho, bd_ow_hk hC (h.resolve_left ho)]
    exact ⟨fun z => absurd z (by decide), fun _ => Iff.rfl⟩
end
def bd_dc (x : Int32) : Nat := (x.toInt + 1).toNat
theorem bd_dc_cd {a : Nat} (h : a < 2 ^ 31) : bd_dc (bd_cd a) = a := by
  unfold bd_dc
  rw [bd_cd_toInt h]
  omega
end
section
/-! the relaxation ends at the labels; the flood fills a component: pure -/
noncomputable def bd_nf (W H : Nat) (L s : Nat → Nat) : Nat := bd_ct (fun i => bd_in W H i ∧ s i ≠ L i) 256
def bd_lo (W H : Nat) (L s : Nat → Nat) : Prop := ∀ i, bd_in W H i → L i ≤ s i
def bd_src (W H : Nat) (p : Nat → Int32) (s : Nat → Nat) : Prop := ∀ i, bd_in W H i → s i ≤ i + 1 ∧ (p i = 0 → bd_rim W H i → s i = 0)
def bd_pass (W H : Nat) (p : Nat → Int32) (L s s' : Nat → Nat) : Prop :=
  (∀ i, bd_in W H i → L i ≤ s' i ∧ s' i ≤ s i) ∧ (∀ i q, bd_adj W H p i q → s' i ≤ s q)
section
variable {W H : Nat} {p : Nat → Int32} {L : Nat → Nat}
theorem bd_nf_0 (hC : bd_C W H p L) {s : Nat → Nat} (h : bd_nf W H L s = 0) {i : Nat} (hi : bd_in W H i) : s i = L i := by
  by_cases e : s i = L i
  · exact e
  · have := bd_ct_lt (P := fun _ => False) (Q := fun i => bd_in W H i ∧ s i ≠ L i) (a := i) (fun z => z) ⟨hi, e⟩ (N := 256) (fun _ _ z => z.elim) (bd_in_lt hC hi)
    unfold bd_nf at h
    omega
theorem bd_prog (hC : bd_C W H p L) {s s' : Nat → Nat} (hl : bd_lo W H L s) (hs : bd_src W H p s) (hp : bd_pass W H p L s s') (h0 : 0 < bd_nf W H L s) : bd_nf W H L s' < bd_nf W H L s := by
  obtain ⟨i, hi, hin, hne⟩ := bd_ct_ex h0
  have key : ∃ a b, bd_adj W H p a b ∧ s a = L a ∧ s b ≠ L b := by
    apply Classical.byContradiction
    intro hno
    have hcl : ∀ c d, s c = L c → bd_adj W H p c d → s d = L d := fun c d hc e =>
      Classical.byContradiction fun z => hno ⟨c, d, e, hc, z⟩
    rcases hC.2.2.2.2.2.2.1 i hin with ⟨e0, e1, j, hj, jin, jr⟩ | ⟨r, e1, hr, hj, rin, rL, _⟩
    · have q0 : s j = 0 := (hs j jin).2 ((bd_cn_p hj).trans e0) jr
      have q1 : L j = 0 := (bd_L_cn hC hj).symm.trans e1
      exact hne (bd_cn_symm hj (fun x => s x = L x) (q0.trans q1.symm) hcl)
    · have q0 := (hs r rin).1
      have q1 := hl r rin
      exact hne (bd_cn_symm hj (fun x => s x = L x) (by show s r = L r; omega) hcl)
  obtain ⟨a, b, hab, ha, hb⟩ := key
  have hbin := hab.2.1
  have e1 := hp.2 b a (bd_adj_symm hab)
  have e2 := (hp.1 b hbin).1
  have e3 := bd_L_adj hC hab
  refine bd_ct_lt (a := b) (fun z => z.2 (by omega)) ⟨hbin, hb⟩ (fun k _ z => ⟨z.1, fun y => z.2 ?_⟩) (bd_in_lt hC hbin)
  have := hp.1 k z.1
  omega
theorem bd_pass_lo {s s' : Nat → Nat} (hp : bd_pass W H p L s s') : bd_lo W H L s' := fun i hi => (hp.1 i hi).1
theorem bd_pass_src {s s' : Nat → Nat} (hp : bd_pass W H p L s s') (hs : bd_src W H p s) : bd_src W H p s' := fun i hi => by
  have h1 := (hp.1 i hi).2
  have h2 := hs i hi
  exact ⟨by omega, fun a b => by have := h2.2 a b; omega⟩
theorem bd_pass_nf (hC : bd_C W H p L) {s s' : Nat → Nat} {t : Nat} (hl : bd_lo W H L s) (hs : bd_src W H p s) (hp : bd_pass W H p L s s') (h : bd_nf W H L s = 0 ∨ t + bd_nf W H L s ≤ 256) : bd_nf W H L s' = 0 ∨ t + 1 + bd_nf W H L s' ≤ 256 := by
  rcases Nat.eq_zero_or_pos (bd_nf W H L s) with z | z
  · left
    refine bd_ct_z fun k hk y => y.2 ?_
    have e := bd_nf_0 hC z y.1
    have := hp.1 k y.1
    omega
  · have := bd_prog hC hl hs hp z
    omega
theorem bd_pass_fix (hC : bd_C W H p L) {s s' : Nat → Nat} (hl : bd_lo W H L s) (hs : bd_src W H p s) (hp : bd_pass W H p L s s') (he : ∀ i, bd_in W H i → s' i = s i) {i : Nat} (hi : bd_in W H i) : s' i = L i := by
  rw [he i hi]
  apply bd_nf_0 hC _ hi
  rcases Nat.eq_zero_or_pos (bd_nf W H L s) with z | z
  · exact z
  · have h1 := bd_prog hC hl hs hp z
    have h2 : bd_nf W H L s' = bd_nf W H L s := bd_ct_eq fun k _ => ⟨fun y => ⟨y.1, by rw [← he k y.1]; exact y.2⟩, fun y => ⟨y.1, by rw [he k y.1]; exact y.2⟩⟩
    omega
end
/-! the flood -/
def bd_FI (W H : Nat) (p lab0 : Nat → Int32) (f : Nat) (lb : Int32) (lab q : Nat → Int32) (n : Nat) : Prop :=
  (∀ j, lab j = lab0 j ∨ (lab j = lb ∧ bd_cn W H p f j)) ∧
  (∀ m, m < n → ∃ c, q m = nI c ∧ bd_cn W H p f c ∧ lab c = lb) ∧
  (∀ j, bd_cn W H p f j → lab j ≠ -2 → ∃ m, m < n ∧ q m = nI j) ∧
  bd_ct (fun j => lab j = -2) 256 + n ≤ 256 ∧ lab f = lb
def bd_FP (W H : Nat) (p lab q : Nat → Int32) (n : Nat) : Prop := ∀ m, m < n → ∀ c, c < 256 → q m = nI c → ∀ d, bd_adj W H p c d → lab d ≠ -2
section
variable {W H : Nat} {p lab0 : Nat → Int32} {f : Nat} {lb : Int32}
theorem bd_FI_0 (hf : f < 256) (h0 : ∀ j, bd_cn W H p f j → lab0 j = -2) (hb : lb ≠ -2) (q : Nat → Int32) : bd_FI W H p lab0 f lb (upd lab0 f lb) (upd q 0 (nI f)) 1 := by
  have hs : upd lab0 f lb f = lb := if_pos rfl
  refine ⟨fun j => ?_, fun m hm => ⟨f, ?_, bd_cn_refl, hs⟩, fun j hj hn => ⟨0, by omega, ?_⟩, ?_, hs⟩
  · by_cases e : j = f
    · subst e
      exact Or.inr ⟨hs, bd_cn_refl⟩
    · exact Or.inl (if_neg e)
  · have : m = 0 := by omega
    subst this
    exact if_pos rfl
  · by_cases e : j = f
    · subst e
      exact if_pos rfl
    · exact absurd ((if_neg e : upd lab0 f lb j = lab0 j).trans (h0 j hj)) hn
  · have := bd_ct_lt (P := fun j => upd lab0 f lb j = -2) (Q := fun _ => True) (a := f) (fun z => hb (hs.symm.trans z)) trivial (N := 256) (fun _ _ _ => trivial) hf
    have := bd_ct_le (fun _ => True) 256
    omega
theorem bd_FI_lt {lab q : Nat → Int32} {n d : Nat} (h : bd_FI W H p lab0 f lb lab q n) (hd : d < 256) (h2 : lab d = -2) : n < 256 := by
  have := bd_ct_lt (P := fun _ => False) (Q := fun j => lab j = -2) (a := d) (fun z => z) h2 (N := 256) (fun _ _ z => z.elim) hd
  have := h.2.2.2.1
  omega
theorem bd_FI_push (hb : lb ≠ -2) {lab q : Nat → Int32} {n d : Nat} (h : bd_FI W H p lab0 f lb lab q n) (hd : d < 256) (hc : bd_cn W H p f d) (h2 : lab d = -2) :
    bd_FI W H p lab0 f lb (upd lab d lb) (upd q n (nI d)) (n + 1) := by
  obtain ⟨f1, f2, f3, f4, f5⟩ := h
  have hs : upd lab d lb d = lb := if_pos rfl
  refine ⟨fun j => ?_, fun m hm => ?_, fun j hj hn => ?_, ?_, ?_⟩
  · by_cases e : j = d
    · subst e
      exact Or.inr ⟨hs, hc⟩
    · have : upd lab d lb j = lab j := if_neg e
      rw [this]
      exact f1 j
  · by_cases e : m = n
    · subst e
      exact ⟨d, if_pos rfl, hc, hs⟩
    · obtain ⟨c, c1, c2, c3⟩ := f2 m (by omega)
      have e1 : upd q n (nI d) m = q m := if_neg e
      refine ⟨c, e1.trans c1, c2, ?_⟩
      by_cases e2 : c = d
      · subst e2; exact hs
      · exact (if_neg e2 : upd lab d lb c = lab c).trans c3
  · by_cases e : j = d
    · subst e
      exact ⟨n, by omega, if_pos rfl⟩
    · have e1 : upd lab d lb j = lab j := if_neg e
      rw [e1] at hn
      obtain ⟨m, m1, m2⟩ := f3 j hj hn
      exact ⟨m, by omega, (if_neg (by omega) : upd q n (nI d) m = q m).trans m2⟩
  · have := bd_ct_lt (P := fun j => upd lab d lb j = -2) (Q := fun j => lab j = -2) (a := d) (fun z => hb (hs.symm.trans z)) h2 (N := 256) (fun k _ z => by
      by_cases e : k = d
      · subst e; exact h2
      · exact (if_neg e : upd lab d lb k = lab k).symm.trans z) hd
    omega
  · by_cases e : f = d
    · subst e; exact hs
    · exact (if_neg e : upd lab d lb f = lab f).trans f5
theorem bd_FP_push (hb : lb ≠ -2) {lab q : Nat → Int32} {n m d : Nat} (hm : m ≤ n) (h : bd_FP W H p lab q m) : bd_FP W H p (upd lab d lb) (upd q n (nI d)) m := by
  intro k hk c hc e x hx
  have e1 : upd q n (nI d) k = q k := if_neg (by omega)
  have := h k hk c hc (e1.symm.trans e) x hx
  by_cases e2 : x = d
  · subst e2
    exact fun z => hb ((if_pos rfl : upd lab x lb x = lb).symm.trans z)
  · exact fun z => this ((if_neg e2 : upd lab d lb x = lab x).symm.trans z)
theorem bd_FI_end (hin : ∀ j, bd_cn W H p f j → j < 256) (h0 : ∀ j, bd_cn W H p f j → lab0 j = -2) (hb : lb ≠ -2) {lab q : Nat → Int32} {n m : Nat} (h : bd_FI W H p lab0 f lb lab q n) (hp : bd_FP W H p lab q m) (hm : n ≤ m) (j : Nat) :
    (bd_cn W H p f j → lab j = lb) ∧ (¬ bd_cn W H p f j → lab j = lab0 j) := by
  obtain ⟨f1, f2, f3, f4, f5⟩ := h
  constructor
  · intro hc
    have := hc (fun x => lab x ≠ -2 ∧ bd_cn W H p f x) ⟨by rw [f5]; exact hb, bd_cn_refl⟩ (fun c d hcd e => by
      obtain ⟨k, k1, k2⟩ := f3 c hcd.2 hcd.1
      exact ⟨hp k (by omega) c (hin c hcd.2) k2 d e, bd_cn_step hcd.2 e⟩)
    rcases f1 j with z | z
    · exact absurd (z.trans (h0 j hc)) this.1
    · exact z.1
  · intro hc
    rcases f1 j with z | z
    · exact z
    · exact absurd z.2 hc
end
/-! directions: 0 .. 7, their steps plus one -/
def bd_sx : Nat → Nat
  | 1 => 2
  | 3 => 0
  | 4 => 0
  | 5 => 2
  | 6 => 0
  | 7 => 2
  | _ => 1
def bd_sy : Nat → Nat
  | 0 => 0
  | 2 => 2
  | 4 => 0
  | 5 => 0
  | 6 => 2
  | 7 => 2
  | _ => 1
theorem bd_dirs {u w : Nat} (hu : u ≤ 2) (hw : w ≤ 2) : (u = 1 ∧ w = 1) ∨ (∃ d, d < 8 ∧ u = bd_sx d ∧ w = bd_sy d) := by
  have h1 : u = 0 ∨ u = 1 ∨ u = 2 := by omega
  have h2 : w = 0 ∨ w = 1 ∨ w = 2 := by omega
  rcases h1 with rfl | rfl | rfl <;> rcases h2 with rfl | rfl | rfl
  · exact Or.inr ⟨4, by omega, rfl, rfl⟩
  · exact Or.inr ⟨3, by omega, rfl, rfl⟩
  · exact Or.inr ⟨6, by omega, rfl, rfl⟩
  · exact Or.inr ⟨0, by omega, rfl, rfl⟩
  · exact Or.inl ⟨rfl, rfl⟩
  · exact Or.inr ⟨2, by omega, rfl, rfl⟩
  · exact Or.inr ⟨5, by omega, rfl, rfl⟩
  · exact Or.inr ⟨1, by omega, rfl, rfl⟩
  · exact Or.inr ⟨7, by omega, rfl, rfl⟩
theorem bd_dirs4 {u w : Nat} (hu : u ≤ 2) (hw : w ≤ 2) (h : u = 1 ∨ w = 1) : (u = 1 ∧ w = 1) ∨ (∃ d, d < 4 ∧ u = bd_sx d ∧ w = bd_sy d) := by
  have h1 : u = 0 ∨ u = 1 ∨ u = 2 := by omega
  have h2 : w = 0 ∨ w = 1 ∨ w = 2 := by omega
  rcases h1 with rfl | rfl | rfl <;> rcases h2 with rfl | rfl | rfl
  · omega
  · exact Or.inr ⟨3, by omega, rfl, rfl⟩
  · omega
  · exact Or.inr ⟨0, by omega, rfl, rfl⟩
  · exact Or.inl ⟨rfl, rfl⟩
  · exact Or.inr ⟨2, by omega, rfl, rfl⟩
  · omega
  · exact Or.inr ⟨1, by omega, rfl, rfl⟩
  · omega
theorem bd_adj_dir {W H : Nat} {p : Nat → Int32} {c d : Nat} (h : bd_adj W H p c d) (h01 : p c = 0 ∨ p c = 1) :
    d = c ∨ ∃ s, s < (if p c = 1 then 8 else 4) ∧ d % 16 + 1 = c % 16 + bd_sx s ∧ d / 16 + 1 = c / 16 + bd_sy s := by
  obtain ⟨_, _, _, ⟨a1, a2, a3, a4⟩, a5⟩ := h
  have hu : d % 16 + 1 - c % 16 ≤ 2 := by omega
  have hw : d / 16 + 1 - c / 16 ≤ 2 := by omega
  rcases h01 with e | e
  · rw [if_neg (by rw [e]; exact bd_01)]
    rcases bd_dirs4 hu hw (by rcases a5 e with z | z <;> omega) with ⟨z1, z2⟩ | ⟨s, s1, s2, s3⟩
    · exact Or.inl (by omega)
    · exact Or.inr ⟨s, s1, by omega, by omega⟩
  · rw [if_pos e]
    rcases bd_dirs hu hw with ⟨z1, z2⟩ | ⟨s, s1, s2, s3⟩
    · exact Or.inl (by omega)
    · exact Or.inr ⟨s, s1, by omega, by omega⟩
end
section
/-! one crack, counted at both regions: pure -/
def bd_inc (P : Prop) (k : Nat) (l l' : Nat → Int32) : Prop := (P → l' = upd l k (l k + 1)) ∧ (¬ P → l' = l)
def bd_E (W H : Nat) (p : Nat → Int32) (L : Nat → Nat) (a b c : Nat) : Prop := a = bd_ow W H p L c ∧ b = bd_bo W H p L c
section
variable {W H : Nat} {p : Nat → Int32} {L : Nat → Nat}
theorem bd_ob (hC : bd_C W H p L) {c : Nat} (h : bd_key W H p L c) :
    (bd_ow W H p L c = bd_N W H p L c + 1 ∧ bd_bo W H p L c ≤ bd_N W H p L c) ∨ (bd_ow W H p L c ≤ bd_N W H p L c ∧ bd_bo W H p L c = bd_N W H p L c + 1) := by
  have hp := bd_pv_le hC h
  unfold bd_pv at hp
  unfold bd_bo
  by_cases ho : bd_ok W H p L c
  · rw [if_pos ho] at hp ⊢
    exact Or.inl ⟨bd_ow_ok hC ho, hp⟩
  · rw [if_neg ho] at hp ⊢
    exact Or.inr ⟨hp, bd_ow_hk hC (h.resolve_left ho)⟩
theorem bd_len (hC : bd_C W H p L) {a b : Nat} {l l1 l2 : Nat → Int32}
    (h1 : bd_inc (∃ c, bd_key W H p L c ∧ a = bd_N W H p L c + 1 ∧ bd_E W H p L a b c) (a - 1) l l1)
    (h2 : bd_inc (∃ c, bd_key W H p L c ∧ b = bd_N W H p L c + 1 ∧ bd_E W H p L a b c) (b - 1) l1 l2)
    {c : Nat} (h : bd_key W H p L c) : (bd_E W H p L a b c → l2 (bd_N W H p L c) = l (bd_N W H p L c) + 1) ∧ (¬ bd_E W H p L a b c → l2 (bd_N W H p L c) = l (bd_N W H p L c)) := by
  have hob := bd_ob hC h
  have n1 : ∀ P : Prop, (P ∨ ¬ P) := Classical.em
  have s1 : (a = bd_N W H p L c + 1 ∧ bd_E W H p L a b c → l1 (bd_N W H p L c) = l (bd_N W H p L c) + 1) ∧ (¬ (a = bd_N W H p L c + 1 ∧ bd_E W H p L a b c) → l1 (bd_N W H p L c) = l (bd_N W H p L c)) := by
    constructor
    · intro ⟨e1, e2⟩
      rw [h1.1 ⟨c, h, e1, e2⟩, show a - 1 = bd_N W H p L c from by omega]
      exact pk_us
    · intro hn
      rcases n1 (∃ c, bd_key W H p L c ∧ a = bd_N W H p L c + 1 ∧ bd_E W H p L a b c) with z | z
      · rw [h1.1 z]
        obtain ⟨d, hd, e1, e2⟩ := z
        refine pk_un fun y => hn ?_
        have : d = c := bd_N_inj hd h (by omega)
        subst this
        exact ⟨e1, e2⟩
      · rw [h1.2 z]
  have s2 : (b = bd_N W H p L c + 1 ∧ bd_E W H p L a b c → l2 (bd_N W H p L c) = l1 (bd_N W H p L c) + 1) ∧ (¬ (b = bd_N W H p L c + 1 ∧ bd_E W H p L a b c) → l2 (bd_N W H p L c) = l1 (bd_N W H p L c)) := by
    constructor
    · intro ⟨e1, e2⟩
      rw [h2.1 ⟨c, h, e1, e2⟩, show b - 1 = bd_N W H p L c from by omega]
      exact pk_us
    · intro hn
      rcases n1 (∃ c, bd_key W H p L c ∧ b = bd_N W H p L c + 1 ∧ bd_E W H p L a b c) with z | z
      · rw [h2.1 z]
        obtain ⟨d, hd, e1, e2⟩ := z
        refine pk_un fun y => hn ?_
        have : d = c := bd_N_inj hd h (by omega)
        subst this
        exact ⟨e1, e2⟩
      · rw [h2.2 z]
  constructor
  · intro he
    have ea := he.1
    have eb := he.2
    rcases hob with ⟨o1, o2⟩ | ⟨o1, o2⟩
    · rw [s2.2 (fun z => by have := z.1; omega)]
      exact s1.1 ⟨by omega, he⟩
    · rw [s2.1 ⟨by omega, he⟩, s1.2 (fun z => by have := z.1; omega)]
  · intro hn
    rw [s2.2 (fun z => hn z.2), s1.2 (fun z => hn z.2)]
end
/-! even-odd: the kinds alternate along the parents, so the toggles of a chain leave the kind's colour -/
def bd_fl (pp : Nat → Nat) (q : Nat) : Nat → Bool
  | 0 => false
  | k + 1 => if bd_a pp k q = true then !(bd_fl pp q k) else bd_fl pp q k
end
section
/-! small walks: pixels, indices, steps, both sides -/
theorem bd_ri (a b : Nat) : nI b * 16 + nI a = nI (b * 16 + a) := by
  rw [show (16 : Int32) = nI 16 from rfl, pk_mul, nI_add]
theorem bd_add (a : Nat) : ∀ u : Nat, nI a + bd_cd u = bd_cd (a + u)
  | 0 => by
    cases a with
    | zero => decide +kernel
    | succ a => exact pk_m1 a
  | u + 1 => by rw [bd_cd_s, nI_add]; rfl
theorem bd_m15 {n : Nat} (h : n < 256) : nI n &&& 15 = nI (n % 16) := pk_andN (by omega) 4 (by decide)
theorem bd_s4 {n : Nat} (h : n < 256) : nI n >>> ((4 : Int32) &&& 31) = nI (n / 16) := pk_shrN (by omega) _ 4 (by decide)
theorem bd_16 : ¬ (16 : Int32) = 0 := by decide
section
variable {W H : Nat} {tr tt : Int32} {px fl lb qu kn pa st ln ar ii fg bg : Nat → Int32}
theorem x_pix {post : Int32 → Prop} {x y : Int32} (hW : W ≤ 16) (hH : H ≤ 16) (h1 : ∀ a b, x = nI a → y = nI b → a < W → b < H → post 1)
    (h0 : (∀ a b, x = nI a → y = nI b → a < W → b < H → False) → post 0) : wpX_isPixel post (nI W, nI H, tr, tt, px, fl, lb, qu, kn, pa, st, ln, ar, ii) x y := by
  rcases pk_ix x (n := W) (by omega) with hx | hx | ⟨a, ha, rfl⟩
  · exact br_t hx (h0 fun a b e _ ha _ => nI_pos (n := a) (by omega) (e ▸ hx))
  · refine br_c (fun _ => h0 ?_) (fun _ => br_t hx (h0 ?_)) <;> exact fun a b e _ ha _ => nI_ge ha (by omega) (e ▸ hx)
  · refine br_f (nI_pos (by omega)) (br_f (nI_ge ha (by omega)) ?_)
    rcases pk_ix y (n := H) (by omega) with hy | hy | ⟨b, hb, rfl⟩
    · exact br_t hy (h0 fun c b _ e _ hb => nI_pos (n := b) (by omega) (e ▸ hy))
    · refine br_c (fun _ => h0 ?_) (fun _ => br_t hy (h0 ?_)) <;> exact fun c b _ e _ hb => nI_ge hb (by omega) (e ▸ hy)
    · exact br_f (nI_pos (by omega)) (br_f (nI_ge hb (by omega)) (h1 a b rfl rfl ha hb))
theorem y_pix {post : Int32 → Prop} {x y : Int32} (hW : W ≤ 16) (hH : H ≤ 16) (h1 : ∀ a b, x = nI a → y = nI b → a < W → b < H → post 1)
    (h0 : (∀ a b, x = nI a → y = nI b → a < W → b < H → False) → post 0) : wpY_isPixel post (nI W, nI H, tr, tt, px, fl, fg, bg, kn, st, pa) x y := by
  rcases pk_ix x (n := W) (by omega) with hx | hx | ⟨a, ha, rfl⟩
  · exact br_t hx (h0 fun a b e _ ha _ => nI_pos (n := a) (by omega) (e ▸ hx))
  · refine br_c (fun _ => h0 ?_) (fun _ => br_t hx (h0 ?_)) <;> exact fun a b e _ ha _ => nI_ge ha (by omega) (e ▸ hx)
  · refine br_f (nI_pos (by omega)) (br_f (nI_ge ha (by omega)) ?_)
    rcases pk_ix y (n := H) (by omega) with hy | hy | ⟨b, hb, rfl⟩
    · exact br_t hy (h0 fun c b _ e _ hb => nI_pos (n := b) (by omega) (e ▸ hy))
    · refine br_c (fun _ => h0 ?_) (fun _ => br_t hy (h0 ?_)) <;> exact fun c b _ e _ hb => nI_ge hb (by omega) (e ▸ hy)
    · exact br_f (nI_pos (by omega)) (br_f (nI_ge hb (by omega)) (h1 a b rfl rfl ha hb))
theorem y_pixc {post : Int32 → Prop} {i : Nat} (hi : i < 256) (hW : W ≤ 16) (hH : H ≤ 16) (h1 : bd_in W H i → post 1)
    (h0 : ¬ bd_in W H i → post 0) : wpY_isPixel post (nI W, nI H, tr, tt, px, fl, fg, bg, kn, st, pa) (nI i &&& 15) (nI i >>> ((4 : Int32) &&& 31)) := by
  rw [bd_m15 hi, bd_s4 hi]
  refine y_pix hW hH (fun a b e1 e2 ha hb => h1 ?_) (fun hn => h0 fun z => hn (i % 16) (i / 16) rfl rfl z.1 z.2)
  rw [nI_eq (by omega) (by omega)] at e1 e2
  exact ⟨by omega, by omega⟩
theorem x_ri {post : Int32 → Prop} {a b : Nat} (h : post (nI (b * 16 + a))) : wpX_rasterIndex post (nI a) (nI b) := by
  unfold wpX_rasterIndex
  rw [bd_ri]
  exact h
theorem x_unl {post : Int32 → Prop} {x y v : Int32} (hW : W ≤ 16) (hH : H ≤ 16)
    (h1 : ∀ a b, x = nI a → y = nI b → a < W → b < H → px (b * 16 + a) = v → lb (b * 16 + a) = -2 → post 1)
    (h0 : (∀ a b, x = nI a → y = nI b → a < W → b < H → px (b * 16 + a) = v → lb (b * 16 + a) = -2 → False) → post 0) : wpX_isUnlabelled post (nI W, nI H, tr, tt, px, fl, lb, qu, kn, pa, st, ln, ar, ii) x y v := by
  unfold wpX_isUnlabelled
  refine x_pix hW hH (fun a b ex ey ha hb => br_f bd_10 ?_) (fun hn => br_t rfl (h0 fun a b ex ey ha hb _ _ => hn a b ex ey ha hb))
  have hl := fun e => h1 a b ex ey ha hb e
  subst ex ey
  have hv : vp_in (nI (b * 16 + a)) 256 := vp_in_nI (by omega) (by omega)
  refine x_ri ⟨hv, ?_⟩
  rw [nI_clamp (by omega)]
  refine br_c (fun e1 => ⟨hv, br_c (fun e2 => hl e1 e2) (fun e2 => h0 ?_)⟩) (fun e1 => h0 ?_)
  · intro a' b' ea eb ha' hb' _ e4
    rw [nI_eq (by omega) (by omega)] at ea eb
    subst ea eb
    exact e2 e4
  · intro a' b' ea eb ha' hb' e3 _
    rw [nI_eq (by omega) (by omega)] at ea eb
    subst ea eb
    exact e1 e3
theorem x_labAt {post : Int32 → Prop} {x y : Int32} (hW : W ≤ 16) (hH : H ≤ 16)
    (h1 : ∀ a b, x = nI a → y = nI b → a < W → b < H → post (lb (b * 16 + a)))
    (h0 : (∀ a b, x = nI a → y = nI b → a < W → b < H → False) → post (-1)) : wpX_labelAt post (nI W, nI H, tr, tt, px, fl, lb, qu, kn, pa, st, ln, ar, ii) x y := by
  unfold wpX_labelAt
  refine x_pix hW hH (fun a b ex ey ha hb => br_f bd_10 ?_) (fun hn => br_t rfl (h0 hn))
  have hl := h1 a b ex ey ha hb
  subst ex ey
  refine x_ri ⟨vp_in_nI (by omega) (by omega), ?_⟩
  rw [nI_clamp (by omega)]
  exact hl
theorem x_stepX {post : Int32 → Prop} {s : Nat} (hs : s < 8) (h : post (bd_cd (bd_sx s))) : wpX_stepX post (nI s) := by
  have hc : s = 0 ∨ s = 1 ∨ s = 2 ∨ s = 3 ∨ s = 4 ∨ s = 5 ∨ s = 6 ∨ s = 7 := by omega
  rcases hc with rfl | rfl | rfl | rfl | rfl | rfl | rfl | rfl <;>
    repeat (first | exact h | refine br_t (by decide +kernel) ?_ | refine br_f (by decide +kernel) ?_)
theorem x_stepY {post : Int32 → Prop} {s : Nat} (hs : s < 8) (h : post (bd_cd (bd_sy s))) : wpX_stepY post (nI s) := by
  have hc : s = 0 ∨ s = 1 ∨ s = 2 ∨ s = 3 ∨ s = 4 ∨ s = 5 ∨ s = 6 ∨ s = 7 := by omega
  rcases hc with rfl | rfl | rfl | rfl | rfl | rfl | rfl | rfl <;>
    repeat (first | exact h | refine br_t (by decide +kernel) ?_ | refine br_f (by decide +kernel) ?_)
theorem x_isC {post : Int32 → Prop} {x : Int32} {t : Nat} (ht : t ≤ 256) (h1 : ∀ k, x = nI k → k < t → post 1) (h0 : (∀ k, x = nI k → k < t → False) → post 0) : wpX_isContour post (nI W, nI H, tr, nI t, px, fl, lb, qu, kn, pa, st, ln, ar, ii) x := by
  rcases pk_ix x (n := t) (by omega) with hx | hx | ⟨a, ha, rfl⟩
  · exact br_t hx (h0 fun a e ha => nI_pos (n := a) (by omega) (e ▸ hx))
  · refine br_c (fun _ => h0 ?_) (fun _ => br_t hx (h0 ?_)) <;> exact fun a e ha => nI_ge ha (by omega) (e ▸ hx)
  · exact br_f (nI_pos (by omega)) (br_f (nI_ge ha (by omega)) (h1 a rfl ha))
theorem y_val {post : Int32 → Prop} {x : Int32} {t : Nat} (ht : t ≤ 256) (h1 : tr ≠ 0 → ∀ k, x = nI k → k < t → post 1) (h0 : (tr ≠ 0 → ∀ k, x = nI k → k < t → False) → post 0) : wpY_valid post (nI W, nI H, tr, nI t, px, fl, fg, bg, kn, st, pa) x := by
  refine br_c (fun z => h0 fun y => absurd z y) (fun z => ?_)
  rcases pk_ix x (n := t) (by omega) with hx | hx | ⟨a, ha, rfl⟩
  · exact br_t hx (h0 fun _ a e ha => nI_pos (n := a) (by omega) (e ▸ hx))
  · refine br_c (fun _ => h0 ?_) (fun _ => br_t hx (h0 ?_)) <;> exact fun _ a e ha => nI_ge ha (by omega) (e ▸ hx)
  · exact br_f (nI_pos (by omega)) (br_f (nI_ge ha (by omega)) (h1 z a rfl ha))
/-! clearing -/
theorem x_clr2 {post : SX → Prop} (h : post (nI W, nI H, tr, tt, px, fun _ => 0, lb, qu, kn, pa, st, ln, ar, ii)) : ∀ d i, i + d = 256 → ∀ n, d < n → ∀ fl : Nat → Int32, (∀ j, j < i → fl j = 0) → (∀ j, 256 ≤ j → fl j = 0) → wX_clearFill_2 post (nI W) (nI H) tr tt n (nI i) px fl lb qu kn pa st ln ar ii := by
  intro d
  induction d with
  | zero =>
    intro i hi n hn fl h0 h1
    obtain ⟨n, rfl⟩ : ∃ m, n = m + 1 := ⟨n - 1, by omega⟩
    have e : fl = fun _ => 0 := by
      funext j
      rcases Nat.lt_or_ge j 256 with z | z
      · exact h0 j (by omega)
      · exact h1 j z
    subst e
    exact br_t (nI_le (a := 256) (by omega) (by omega)) h
  | succ d ih =>
    intro i hi n hn fl h0 h1
    obtain ⟨n, rfl⟩ : ∃ m, n = m + 1 := ⟨n - 1, by omega⟩
    refine br_f (nI_ge (b := 256) (by omega) (by omega)) ⟨vp_in_nI (by omega) (by omega), nm_r (congrArg (fun z => upd fl z 0) (nI_clamp (by omega))) (nm_r (nI_1 i) (ih (i + 1) (by omega) n (by omega) _ ?_ ?_))⟩
    · intro j hj
      by_cases e : j = i
      · subst e; exact pk_us
      · exact (pk_un e).trans (h0 j (by omega))
    · intro j hj
      exact (pk_un (by omega)).trans (h1 j hj)
theorem x_clr {post : SX → Prop} (h : post (nI W, nI H, tr, tt, px, fun _ => 0, lb, qu, kn, pa, st, ln, ar, ii)) (h1 : ∀ j, 256 ≤ j → fl j = 0) : wpX_clearFill post (nI W, nI H, tr, tt, px, fl, lb, qu, kn, pa, st, ln, ar, ii) :=
  ⟨257, x_clr2 h 256 0 rfl 257 (by omega) fl (fun j hj => absurd hj (Nat.not_lt_zero j)) h1⟩
theorem y_clr2 {post : SY → Prop} (h : post (nI W, nI H, tr, tt, px, fun _ => 0, fg, bg, kn, st, pa)) : ∀ d i, i + d = 256 → ∀ n, d < n → ∀ fl : Nat → Int32, (∀ j, j < i → fl j = 0) → (∀ j, 256 ≤ j → fl j = 0) → wY_invalidate_12 post (nI W) (nI H) tr tt n (nI i) px fl fg bg kn st pa := by
  intro d
  induction d with
  | zero =>
    intro i hi n hn fl h0 h1
    obtain ⟨n, rfl⟩ : ∃ m, n = m + 1 := ⟨n - 1, by omega⟩
    have e : fl = fun _ => 0 := by
      funext j
      rcases Nat.lt_or_ge j 256 with z | z
      · exact h0 j (by omega)
      · exact h1 j z
    subst e
    exact br_t (nI_le (a := 256) (by omega) (by omega)) h
  | succ d ih =>
    intro i hi n hn fl h0 h1
    obtain ⟨n, rfl⟩ : ∃ m, n = m + 1 := ⟨n - 1, by omega⟩
    refine br_f (nI_ge (b := 256) (by omega) (by omega)) ⟨vp_in_nI (by omega) (by omega), nm_r (congrArg (fun z => upd fl z 0) (nI_clamp (by omega))) (nm_r (nI_1 i) (ih (i + 1) (by omega) n (by omega) _ ?_ ?_))⟩
    · intro j hj
      by_cases e : j = i
      · subst e; exact pk_us
      · exact (pk_un e).trans (h0 j (by omega))
    · intro j hj
      exact (pk_un (by omega)).trans (h1 j hj)
theorem y_inv {post : SY → Prop} (h : post (nI W, nI H, 0, 0, px, fun _ => 0, fg, bg, kn, st, pa)) (h1 : ∀ j, 256 ≤ j → fl j = 0) : wpY_invalidate post (nI W, nI H, tr, tt, px, fl, fg, bg, kn, st, pa) :=
  ⟨257, y_clr2 h 256 0 rfl 257 (by omega) fl (fun j hj => absurd hj (Nat.not_lt_zero j)) h1⟩
theorem x_inv {post : SX → Prop} (h : post (nI W, nI H, 0, 0, px, fun _ => 0, lb, qu, kn, pa, st, ln, ar, ii)) (h1 : ∀ j, 256 ≤ j → fl j = 0) : wpX_invalidate post (nI W, nI H, tr, tt, px, fl, lb, qu, kn, pa, st, ln, ar, ii) := by
  unfold wpX_invalidate
  exact x_clr h h1
end
end
section
/-! labelComponent: the flood -/
theorem bd_d4 {s : Nat} (h : s < 4) : bd_sx s = 1 ∨ bd_sy s = 1 := by
  have hc : s = 0 ∨ s = 1 ∨ s = 2 ∨ s = 3 := by omega
  rcases hc with rfl | rfl | rfl | rfl
  · exact Or.inl rfl
  · exact Or.inr rfl
  · exact Or.inl rfl
  · exact Or.inr rfl
theorem bd_d8 {s : Nat} (h : s < 8) : bd_sx s ≤ 2 ∧ bd_sy s ≤ 2 := by
  have hc : s = 0 ∨ s = 1 ∨ s = 2 ∨ s = 3 ∨ s = 4 ∨ s = 5 ∨ s = 6 ∨ s = 7 := by omega
  rcases hc with rfl | rfl | rfl | rfl | rfl | rfl | rfl | rfl <;> decide
def bd_D (v : Int32) : Nat := if v = 1 then 8 else 4
theorem bd_D8 (v : Int32) : bd_D v ≤ 8 := by
  unfold bd_D
  by_cases h : v = 1
  · rw [if_pos h]; omega
  · rw [if_neg h]; omega
/-- the neighbours of c in the directions below s are labelled -/
def bd_Q (W H : Nat) (p lab : Nat → Int32) (c s : Nat) : Prop :=
  ∀ r, r < s → ∀ d, bd_in W H d → p d = p c → d % 16 + 1 = c % 16 + bd_sx r → d / 16 + 1 = c / 16 + bd_sy r → lab d ≠ -2
section
variable {W H : Nat} {tr tt : Int32} {px fl lb qu kn pa st ln ar ii fg bg : Nat → Int32} {lab0 : Nat → Int32} {f : Nat} {v : Int32}
theorem x_fl70 {post : SX → Prop} {J : Int32 → Int32 → (Nat → Int32) → (Nat → Int32) → (Nat → Int32) → (Nat → Int32) → (Nat → Int32) → (Nat → Int32) → (Nat → Int32) → (Nat → Int32) → (Nat → Int32) → (Nat → Int32) → Prop}
    (hW : W ≤ 16) (hH : H ≤ 16) (h01 : ∀ i, px i = 0 ∨ px i = 1) (hv : v ≠ -2) {m c : Nat} (hm : m < 256) (hci : bd_in W H c) (hcf : bd_cn W H px f c)
    (hJ : ∀ q lb qu, bd_FI W H px lab0 f v lb qu q → bd_FP W H px lb qu (m + 1) → m + 1 ≤ q → J (nI q) (nI (m + 1)) px fl lb qu kn pa st ln ar ii) :
    ∀ e s, s + e = bd_D (px f) → ∀ n, e < n → ∀ q lb qu, bd_FI W H px lab0 f v lb qu q → bd_FP W H px lb qu m → m < q → qu m = nI c → bd_Q W H px lb c s →
      wX_labelComponent_70 post J v (px f) (nI (bd_D (px f))) (nI m) (nI W) (nI H) tr tt n (nI q) (nI s) px fl lb qu kn pa st ln ar ii := by
  have hD := bd_D8 (px f)
  have hc256 : c < 256 := by
    obtain ⟨a, b⟩ := hci
    omega
  have hpc : px c = px f := bd_cn_p hcf
  intro e
  induction e with
  | zero =>
    intro s hs n hn q lb qu hI hP hq hqm hQ
    obtain ⟨n, rfl⟩ : ∃ m, n = m + 1 := ⟨n - 1, by omega⟩
    refine br_t (nI_le (by omega) (by omega)) (nm_r (nI_1 m) (hJ q lb qu hI ?_ (by omega)))
    intro k hk x hx ex d hd
    by_cases ek : k = m
    · subst ek
      rw [hqm] at ex
      have exc : x = c := by
        rw [nI_eq (by omega) (by omega)] at ex
        exact ex.symm
      subst exc
      rcases bd_adj_dir hd (h01 x) with e1 | ⟨r, r1, r2, r3⟩
      · subst e1
        obtain ⟨y, y1, y2, y3⟩ := hI.2.1 k hq
        rw [hqm] at y1
        have hyi := bd_cn_in hcf
        have : d = y := by
          have hy : y < 256 := by
            have h1 := bd_cn_in (bd_cn_trans (bd_cn_symm hcf) y2) hci
            obtain ⟨a, b⟩ := h1
            omega
          rw [nI_eq (by omega) (by omega)] at y1
          exact y1
        subst this
        rw [y3]
        exact hv
      · refine hQ r ?_ d hd.2.1 hd.2.2.1.symm r2 r3
        rw [hpc] at r1
        unfold bd_D at hs
        omega
    · exact hP k (by omega) x hx ex d hd
  | succ e ih =>
    intro s hs n hn q lb qu hI hP hq hqm hQ
    obtain ⟨n, rfl⟩ : ∃ m, n = m + 1 := ⟨n - 1, by omega⟩
    have hs8 : s < 8 := by omega
    have hsd := bd_d8 hs8
    have hvm : vp_in (nI m) 256 := vp_in_nI hm (by omega)
    have next : ∀ q lb qu, bd_FI W H px lab0 f v lb qu q → bd_FP W H px lb qu m → m < q → qu m = nI c → bd_Q W H px lb c (s + 1) → ∀ z, z = nI s + 1 →
        wX_labelComponent_70 post J v (px f) (nI (bd_D (px f))) (nI m) (nI W) (nI H) tr tt n (nI q) z px fl lb qu kn pa st ln ar ii := by
      intro q lb qu a1 a2 a3 a4 a5 z ez
      rw [ez, nI_1]
      exact ih (s + 1) (by omega) n (by omega) q lb qu a1 a2 a3 a4 a5
    have hx : (qu (nI m).toNatClampNeg - qu (nI m).toNatClampNeg / 16 * 16) + bd_cd (bd_sx s) = bd_cd (c % 16 + bd_sx s) := by
      rw [nI_clamp (by omega), hqm, show (16 : Int32) = nI 16 from rfl, pk_rem (by omega) (by omega) (by omega), bd_add]
    have hy : (qu (nI m).toNatClampNeg / 16) + bd_cd (bd_sy s) = bd_cd (c / 16 + bd_sy s) := by
      rw [nI_clamp (by omega), hqm, show (16 : Int32) = nI 16 from rfl, pk_div (by omega) (by omega) (by omega), bd_add]
    refine br_f (nI_ge (by omega) (by omega)) ⟨hvm, bd_16, x_stepX hs8 (nm_r hx ⟨hvm, bd_16, x_stepY hs8 (nm_r hy ?_)⟩)⟩
    have hQn : ∀ lb, bd_Q W H px lb c s → (∀ d, bd_in W H d → px d = px c → d % 16 + 1 = c % 16 + bd_sx s → d / 16 + 1 = c / 16 + bd_sy s → lb d ≠ -2) → bd_Q W H px lb c (s + 1) := by
      intro lb b1 b2 r hr d d1 d2 d3 d4
      by_cases er : r = s
      · subst er
        exact b2 d d1 d2 d3 d4
      · exact b1 r (by omega) d d1 d2 d3 d4
    by_cases hq2 : q < 256
    · refine br_f (nI_ge (b := 256) hq2 (by omega)) (x_unl hW hH (fun a b ea eb ha hb e1 e2 => br_f bd_10 ?_) (fun hno => br_t rfl (next q lb qu hI hP hq hqm (hQn lb hQ ?_))))
      · rw [bd_cd_nI (by omega) (by omega)] at ea eb
        have d1 : (b * 16 + a) % 16 = a := by omega
        have d2 : (b * 16 + a) / 16 = b := by omega
        have hdi : bd_in W H (b * 16 + a) := ⟨by omega, by omega⟩
        have hadj : bd_adj W H px c (b * 16 + a) := by
          refine ⟨hci, hdi, hpc.trans e1.symm, ⟨by omega, by omega, by omega, by omega⟩, fun z => ?_⟩
          have : s < 4 := by
            rw [hpc] at z
            unfold bd_D at hs
            rw [z, if_neg bd_01] at hs
            omega
          rcases bd_d4 this with y | y
          · exact Or.inl (by omega)
          · exact Or.inr (by omega)
        have hcd := bd_cn_step hcf hadj
        have hd256 : b * 16 + a < 256 := by omega
        have hvq : vp_in (nI q) 256 := vp_in_nI hq2 (by omega)
        have hu : upd qu q (nI (b * 16 + a)) (nI q).toNatClampNeg = nI (b * 16 + a) := by
          rw [nI_clamp (by omega)]
          exact pk_us
        rw [ea, eb, bd_cd_s, bd_cd_s]
        refine x_ri ⟨hvq, nm_r (congrArg (fun z => upd qu z (nI (b * 16 + a))) (nI_clamp (by omega))) ⟨hvq, ?_⟩⟩
        rw [hu]
        refine ⟨vp_in_nI hd256 (by omega), nm_r (congrArg (fun z => upd lb z v) (nI_clamp (by omega))) (nm_r (nI_1 q) ?_)⟩
        refine next (q + 1) _ _ (bd_FI_push hv hI hd256 hcd e2) (bd_FP_push hv (by omega) hP) (by omega) ((pk_un (by omega)).trans hqm) ?_
        have hk : ∀ d, lb d ≠ -2 → upd lb (b * 16 + a) v d ≠ -2 := by
          intro d hd
          by_cases e3 : d = b * 16 + a
          · rw [e3, pk_us]; exact hv
          · rw [pk_un e3]; exact hd
        refine hQn _ (fun r hr d x1 x2 x3 x4 => hk d (hQ r hr d x1 x2 x3 x4)) (fun d x1 x2 x3 x4 => ?_)
        have : d = b * 16 + a := by omega
        rw [this, pk_us]
        exact hv
      · intro d x1 x2 x3 x4 x5
        have x6 : d / 16 * 16 + d % 16 = d := by omega
        refine hno (d % 16) (d / 16) ?_ ?_ x1.1 x1.2 ?_ ?_
        · rw [← x3, bd_cd_s]
        · rw [← x4, bd_cd_s]
        · rw [x6]; exact x2.trans hpc
        · rw [x6]; exact x5
    · refine br_t (nI_le (a := 256) (by omega) (by have := hI.2.2.2.1; omega)) (next q lb qu hI hP hq hqm (hQn lb hQ ?_))
      intro d x1 x2 x3 x4 x5
      have : d < 256 := by
        obtain ⟨a, b⟩ := x1
        omega
      exact hq2 (bd_FI_lt hI this x5)
theorem x_fl52 {post : SX → Prop} (hW : W ≤ 16) (hH : H ≤ 16) (h01 : ∀ i, px i = 0 ∨ px i = 1) (hv : v ≠ -2) (hf : bd_in W H f)
    (hp : ∀ q m lb qu, bd_FI W H px lab0 f v lb qu q → bd_FP W H px lb qu m → q ≤ m → post (nI W, nI H, tr, tt, px, fl, lb, qu, kn, pa, st, ln, ar, ii)) :
    ∀ e m, m + e = 256 → ∀ n, e < n → ∀ q lb qu, bd_FI W H px lab0 f v lb qu q → bd_FP W H px lb qu m → m ≤ q →
      wX_labelComponent_52 post v (px f) (nI (bd_D (px f))) (nI W) (nI H) tr tt n (nI q) (nI m) px fl lb qu kn pa st ln ar ii := by
  intro e
  induction e with
  | zero =>
    intro m hm n hn q lb qu hI hP hq
    obtain ⟨n, rfl⟩ : ∃ m, n = m + 1 := ⟨n - 1, by omega⟩
    exact br_t (nI_le (a := 256) (by omega) (by omega)) (hp q m lb qu hI hP (by have := hI.2.2.2.1; omega))
  | succ e ih =>
    intro m hm n hn q lb qu hI hP hq
    obtain ⟨n, rfl⟩ : ∃ m, n = m + 1 := ⟨n - 1, by omega⟩
    refine br_f (nI_ge (b := 256) (by omega) (by omega)) ?_
    have hq256 : q ≤ 256 := by have := hI.2.2.2.1; omega
    by_cases hqm : q ≤ m
    · exact br_t (nI_le hqm (by omega)) (hp q m lb qu hI hP hqm)
    · obtain ⟨c, c1, c2, c3⟩ := hI.2.1 m (by omega)
      refine br_f (nI_ge (by omega) (by omega)) ⟨9, ?_⟩
      have hD := bd_D8 (px f)
      refine x_fl70 (lab0 := lab0) hW hH h01 hv (by omega) (bd_cn_in c2 hf) c2 (fun q lb qu a1 a2 a3 => ?_) (bd_D (px f)) 0 (by omega) 9 (by omega) q lb qu hI hP (by omega) c1 (fun r hr => absurd hr (Nat.not_lt_zero r))
      exact ih (m + 1) (by omega) n (by omega) q lb qu a1 a2 a3
theorem x_flood {post : SX → Prop} {a b : Nat} (hW : W ≤ 16) (hH : H ≤ 16) (h01 : ∀ i, px i = 0 ∨ px i = 1) (hv : v ≠ -2) (ha : a < W) (hb : b < H)
    (h0 : ∀ j, bd_cn W H px (b * 16 + a) j → lb j = -2)
    (hp : ∀ lb' qu', (∀ j, (bd_cn W H px (b * 16 + a) j → lb' j = v) ∧ (¬ bd_cn W H px (b * 16 + a) j → lb' j = lb j)) → post (nI W, nI H, tr, tt, px, fl, lb', qu', kn, pa, st, ln, ar, ii)) :
    wpX_labelComponent post (nI W, nI H, tr, tt, px, fl, lb, qu, kn, pa, st, ln, ar, ii) (nI a) (nI b) v := by
  have hf : bd_in W H (b * 16 + a) := ⟨by omega, by omega⟩
  have hin : ∀ j, bd_cn W H px (b * 16 + a) j → j < 256 := fun j hj => by
    obtain ⟨x, y⟩ := bd_cn_in hj hf
    omega
  have hvi : vp_in (nI (b * 16 + a)) 256 := vp_in_nI (by omega) (by omega)
  have main : wX_labelComponent_28 post v (nI (b * 16 + a)) (px (b * 16 + a)) (nI (bd_D (px (b * 16 + a)))) (nI W) (nI H) tr tt px fl lb qu kn pa st ln ar ii := by
    refine ⟨hvi, nm_r (congrArg (fun z => upd lb z v) (nI_clamp (by omega))) (nm_e ⟨257, ?_⟩)⟩
    exact x_fl52 (lab0 := lb) (f := b * 16 + a) hW hH h01 hv hf (fun q m lb' qu' hI hP hq => hp lb' qu' (bd_FI_end hin h0 hv hI hP hq)) 256 0 rfl 257 (by omega) 1 _ _ (bd_FI_0 (hin _ bd_cn_refl) h0 hv qu) (fun k hk => absurd hk (Nat.not_lt_zero k)) (by omega)
  unfold wpX_labelComponent
  refine x_ri ⟨hvi, nm_r (congrArg px (nI_clamp (by omega))) ?_⟩
  unfold bd_D at main
  rcases h01 (b * 16 + a) with e | e
  · refine br_f (by rw [e]; exact bd_01) ?_
    rw [if_neg (by rw [e]; exact bd_01)] at main
    exact main
  · refine br_t e ?_
    rw [if_pos e] at main
    exact main
end
end
section
/-! labelOutside -/
def bd_O (W H : Nat) (p : Nat → Int32) (L : Nat → Nat) (c : Nat) (lb : Nat → Int32) : Prop :=
  (∀ j, j < 256 → lb j = -2 ∨ (lb j = -1 ∧ bd_in W H j ∧ p j = 0 ∧ L j = 0)) ∧
  (∀ a b, bd_adj W H p a b → lb a = -1 → lb b = -1) ∧
  (∀ r, r < c → bd_in W H r → bd_rim W H r → p r = 0 → lb r = -1)
section
variable {W H : Nat} {px : Nat → Int32} {L : Nat → Nat}
theorem bd_O_end (hC : bd_C W H px L) {lb : Nat → Int32} (h : bd_O W H px L 256 lb) {j : Nat} (hj : j < 256) : lb j = bd_lab W H px L 0 j := by
  obtain ⟨o1, o2, o3⟩ := h
  by_cases hi : bd_in W H j ∧ L j = 0
  · rw [bd_lab_t hi.1 (Or.inl hi.2), bd_ow_0 hi.2, bd_cd_0]
    rcases hC.2.2.2.2.2.2.1 j hi.1 with ⟨e0, _, r, hr, rin, rr⟩ | ⟨r, e1, _⟩
    · have h1 := o3 r (bd_in_lt hC rin) rin rr ((bd_cn_p hr).trans e0)
      exact bd_cn_symm hr (fun x => lb x = -1) h1 (fun c d hc e => o2 c d e hc)
    · omega
  · rw [bd_lab_f (fun z => z.2.elim (fun y => hi ⟨z.1, y⟩) (Nat.not_lt_zero _))]
    rcases o1 j hj with z | z
    · exact z
    · exact absurd ⟨z.2.1, z.2.2.2⟩ hi
theorem bd_O_no {c : Nat} {lb : Nat → Int32} (h : bd_O W H px L c lb) (hn : bd_in W H c → bd_rim W H c → px c = 0 → lb c = -1) : bd_O W H px L (c + 1) lb := by
  obtain ⟨o1, o2, o3⟩ := h
  refine ⟨o1, o2, fun r hr a b d => ?_⟩
  by_cases e : r = c
  · subst e; exact hn a b d
  · exact o3 r (by omega) a b d
theorem bd_O_skip {lb : Nat → Int32} {y : Nat} : ∀ d x, W ≤ x → x + d = 16 → bd_O W H px L (y * 16 + x) lb → bd_O W H px L ((y + 1) * 16) lb := by
  intro d
  induction d with
  | zero =>
    intro x _ hx h
    rw [show (y + 1) * 16 = y * 16 + x from by omega]
    exact h
  | succ d ih =>
    intro x hw hx h
    exact ih (x + 1) (by omega) (by omega) (bd_O_no (c := y * 16 + x) h (fun z => absurd z.1 (by omega)))
theorem bd_O_rows {lb : Nat → Int32} {y : Nat} : ∀ d, bd_O W H px L (H * 16) lb → bd_O W H px L (H * 16 + d) lb := by
  intro d h
  induction d with
  | zero => exact h
  | succ d ih => exact bd_O_no (c := H * 16 + d) ih (fun z => absurd z.2 (by omega))
theorem bd_O_fl (hC : bd_C W H px L) {c : Nat} {lb lb' : Nat → Int32} (h : bd_O W H px L c lb) (hi : bd_in W H c) (hr : bd_rim W H c) (h0 : px c = 0)
    (hf : ∀ j, (bd_cn W H px c j → lb' j = -1) ∧ (¬ bd_cn W H px c j → lb' j = lb j)) : bd_O W H px L (c + 1) lb' := by
  obtain ⟨o1, o2, o3⟩ := h
  have hL : L c = 0 := hC.2.2.2.2.2.2.2 c hi h0 hr
  refine ⟨fun j hj => ?_, fun a b e ha => ?_, fun r hr' a b d => ?_⟩
  · by_cases hc : bd_cn W H px c j
    · exact Or.inr ⟨(hf j).1 hc, bd_cn_in hc hi, (bd_cn_p hc).trans h0, (bd_L_cn hC hc).symm.trans hL⟩
    · rw [(hf j).2 hc]; exact o1 j hj
  · by_cases hb : bd_cn W H px c b
    · exact (hf b).1 hb
    · rw [(hf b).2 hb]
      refine o2 a b e ?_
      rw [← (hf a).2 (fun z => hb (bd_cn_step z e))]
      exact ha
  · by_cases hc : bd_cn W H px c r
    · exact (hf r).1 hc
    · rw [(hf r).2 hc]
      by_cases e : r = c
      · subst e; exact absurd bd_cn_refl hc
      · exact o3 r (by omega) a b d
theorem bd_O_un (hC : bd_C W H px L) {c : Nat} {lb : Nat → Int32} (h : bd_O W H px L c lb) (hi : bd_in W H c) (h2 : lb c = -2) : ∀ j, bd_cn W H px c j → lb j = -2 := by
  intro j hj
  rcases h.1 j (bd_in_lt hC (bd_cn_in hj hi)) with z | z
  · exact z
  · have := bd_cn_symm hj (fun x => lb x = -1) z.1 (fun a b ha e => h.2.1 a b e ha)
    exact absurd (this.symm.trans h2) bd_m1_m2
end
section
variable {W H : Nat} {tr tt : Int32} {px fl lb qu kn pa st ln ar ii fg bg : Nat → Int32} {L : Nat → Nat}
theorem x_rim {post : Int32 → Prop} {x y : Nat} (hx : x < W) (hy : y < H) (hW : W ≤ 16) (hH : H ≤ 16) (h1 : bd_rim W H (y * 16 + x) → post 1) (h0 : ¬ bd_rim W H (y * 16 + x) → post 0) : wpX_isOnRim post (nI W, nI H, tr, tt, px, fl, lb, qu, kn, pa, st, ln, ar, ii) (nI x) (nI y) := by
  have e1 : nI W - 1 = nI (W - 1) := by
    rw [show (1 : Int32) = nI 1 from rfl, pk_sub (by omega)]
  have e2 : nI H - 1 = nI (H - 1) := by
    rw [show (1 : Int32) = nI 1 from rfl, pk_sub (by omega)]
  unfold wpX_isOnRim
  dsimp only
  rw [e1, e2]
  refine pk_eq x 0 (fun z => h1 (by omega)) (fun z1 => pk_eq x (W - 1) (fun z => h1 (by omega)) (fun z2 => pk_eq y 0 (fun z => h1 (by omega)) (fun z3 => pk_eq y (H - 1) (fun z => h1 (by omega)) (fun z4 => h0 (by omega)))))
theorem x_out12 {post : SX → Prop} {J : Int32 → Int32 → Int32 → Int32 → Int32 → (Nat → Int32) → (Nat → Int32) → (Nat → Int32) → (Nat → Int32) → (Nat → Int32) → (Nat → Int32) → (Nat → Int32) → (Nat → Int32) → (Nat → Int32) → (Nat → Int32) → Prop}
    (hC : bd_C W H px L) {y : Nat} (hy : y < H) (hJ : ∀ lb qu, bd_O W H px L ((y + 1) * 16) lb → J (nI (y + 1)) (nI W) (nI H) tr tt px fl lb qu kn pa st ln ar ii) :
    ∀ e x, x + e = W → ∀ n, e < n → ∀ lb qu, bd_O W H px L (y * 16 + x) lb → wX_labelOutside_12 post J (nI y) n (nI x) (nI W) (nI H) tr tt px fl lb qu kn pa st ln ar ii := by
  have hW := hC.2.1
  have hH := hC.2.2.2.1
  intro e
  induction e with
  | zero =>
    intro x hx n hn lb qu hO
    obtain ⟨n, rfl⟩ : ∃ m, n = m + 1 := ⟨n - 1, by omega⟩
    exact br_t (nI_le (by omega) (by omega)) (nm_r (nI_1 y) (hJ lb qu (bd_O_skip (16 - x) x (by omega) (by omega) hO)))
  | succ e ih =>
    intro x hx n hn lb qu hO
    obtain ⟨n, rfl⟩ : ∃ m, n = m + 1 := ⟨n - 1, by omega⟩
    have next : ∀ lb qu, bd_O W H px L (y * 16 + x + 1) lb → ∀ z, z = nI x + 1 → wX_labelOutside_12 post J (nI y) n z (nI W) (nI H) tr tt px fl lb qu kn pa st ln ar ii := by
      intro lb qu h z ez
      rw [ez, nI_1]
      exact ih (x + 1) (by omega) n (by omega) lb qu h
    have hi : bd_in W H (y * 16 + x) := ⟨by omega, by omega⟩
    refine br_f (nI_ge (by omega) (by omega)) (x_rim (by omega) hy hW hH (fun hr => br_f bd_10 ?_) (fun hr => br_t rfl (next lb qu (bd_O_no hO (fun _ z => absurd z hr)))))
    refine x_unl hW hH (fun a b ea eb ha hb e1 e2 => br_f bd_10 ?_) (fun hno => br_t rfl (next lb qu (bd_O_no hO (fun _ _ z => ?_))))
    · rw [nI_eq (by omega) (by omega)] at ea eb
      subst ea eb
      exact x_flood hW hH hC.2.2.2.2.1 bd_m1_m2 ha hb (bd_O_un hC hO hi e2) (fun lb' qu' hf => next lb' qu' (bd_O_fl hC hO hi hr e1 hf))
    · rcases hO.1 (y * 16 + x) (bd_in_lt hC hi) with w | w
      · exact (hno x y rfl rfl (by omega) hy z w).elim
      · exact w.1
theorem x_out2 {post : SX → Prop} (hC : bd_C W H px L) (hp : ∀ lb qu, (∀ j, j < 256 → lb j = bd_lab W H px L 0 j) → post (nI W, nI H, tr, tt, px, fl, lb, qu, kn, pa, st, ln, ar, ii)) :
    ∀ e y, y + e = H → ∀ n, e < n → ∀ lb qu, bd_O W H px L (y * 16) lb → wX_labelOutside_2 post n (nI y) (nI W) (nI H) tr tt px fl lb qu kn pa st ln ar ii := by
  have hW := hC.2.1
  have hH := hC.2.2.2.1
  intro e
  induction e with
  | zero =>
    intro y hy n hn lb qu hO
    obtain ⟨n, rfl⟩ : ∃ m, n = m + 1 := ⟨n - 1, by omega⟩
    have hy' : y = H := by omega
    subst hy'
    have hO' := bd_O_rows (y := 0) (256 - y * 16) hO
    rw [show y * 16 + (256 - y * 16) = 256 from by omega] at hO'
    exact br_t (nI_le (by omega) (by omega)) (hp lb qu (fun j hj => bd_O_end hC hO' hj))
  | succ e ih =>
    intro y hy n hn lb qu hO
    obtain ⟨n, rfl⟩ : ∃ m, n = m + 1 := ⟨n - 1, by omega⟩
    exact br_f (nI_ge (by omega) (by omega)) ⟨W + 1, x_out12 hC (by omega) (fun lb qu h => ih (y + 1) (by omega) n (by omega) lb qu h) W 0 (by omega) (W + 1) (by omega) lb qu hO⟩
theorem x_out {post : SX → Prop} (hC : bd_C W H px L) (h2 : ∀ j, j < 256 → lb j = -2) (hp : ∀ lb qu, (∀ j, j < 256 → lb j = bd_lab W H px L 0 j) → post (nI W, nI H, tr, tt, px, fl, lb, qu, kn, pa, st, ln, ar, ii)) : wpX_labelOutside post (nI W, nI H, tr, tt, px, fl, lb, qu, kn, pa, st, ln, ar, ii) := by
  refine ⟨H + 1, x_out2 hC hp H 0 (by omega) (H + 1) (by omega) lb qu ⟨fun j hj => Or.inl (h2 j hj), fun a b e ha => ?_, fun r hr => absurd hr (by omega)⟩⟩
  rw [h2 a (bd_in_lt hC e.1)] at ha
  exact absurd ha.symm bd_m1_m2
theorem x_cll2 {post : SX → Prop} (h : ∀ lb, (∀ j, j < 256 → lb j = -2) → post (nI W, nI H, tr, tt, px, fl, lb, qu, kn, pa, st, ln, ar, ii)) : ∀ d i, i + d = 256 → ∀ n, d < n → ∀ lb : Nat → Int32, (∀ j, j < i → lb j = -2) → wX_clearLabels_2 post (nI W) (nI H) tr tt n (nI i) px fl lb qu kn pa st ln ar ii := by
  intro d
  induction d with
  | zero =>
    intro i hi n hn lb h0
    obtain ⟨n, rfl⟩ : ∃ m, n = m + 1 := ⟨n - 1, by omega⟩
    exact br_t (nI_le (a := 256) (by omega) (by omega)) (h lb (fun j hj => h0 j (by omega)))
  | succ d ih =>
    intro i hi n hn lb h0
    obtain ⟨n, rfl⟩ : ∃ m, n = m + 1 := ⟨n - 1, by omega⟩
    refine br_f (nI_ge (b := 256) (by omega) (by omega)) ⟨vp_in_nI (by omega) (by omega), nm_r (congrArg (fun z => upd lb z (-2)) (nI_clamp (by omega))) (nm_r (nI_1 i) (ih (i + 1) (by omega) n (by omega) _ ?_))⟩
    intro j hj
    by_cases e : j = i
    · subst e; exact pk_us
    · exact (pk_un e).trans (h0 j (by omega))
theorem x_cll {post : SX → Prop} (h : ∀ lb, (∀ j, j < 256 → lb j = -2) → post (nI W, nI H, tr, tt, px, fl, lb, qu, kn, pa, st, ln, ar, ii)) : wpX_clearLabels post (nI W, nI H, tr, tt, px, fl, lb, qu, kn, pa, st, ln, ar, ii) :=
  ⟨257, x_cll2 h 256 0 rfl 257 (by omega) lb (fun j hj => absurd hj (Nat.not_lt_zero j))⟩
end
/-! formContoursWithKey -/
def bd_T (W H : Nat) (p : Nat → Int32) (L : Nat → Nat) (kn0 pa0 st0 ln0 ar0 : Nat → Int32) (c : Nat) (tt : Int32) (lb kn pa st ln ar : Nat → Int32) : Prop :=
  tt = nI (bd_N W H p L c) ∧ (∀ j, j < 256 → lb j = bd_lab W H p L c j) ∧ kn = bd_A W H p L (bd_kd W H p L) kn0 c ∧
  pa = bd_A W H p L (fun i => bd_cd (bd_pv W H p L i)) pa0 c ∧ st = bd_A W H p L nI st0 c ∧ ln = bd_A W H p L (fun _ => 0) ln0 c ∧ ar = bd_A W H p L (fun _ => 0) ar0 c
section
variable {W H : Nat} {tr tt : Int32} {px fl lb qu kn pa st ln ar ii fg bg : Nat → Int32} {L : Nat → Nat} {kn0 pa0 st0 ln0 ar0 : Nat → Int32}
theorem bd_T_no (hC : bd_C W H px L) {c : Nat} (h : bd_T W H px L kn0 pa0 st0 ln0 ar0 c tt lb kn pa st ln ar) (hn : ¬ bd_key W H px L c) : bd_T W H px L kn0 pa0 st0 ln0 ar0 (c + 1) tt lb kn pa st ln ar := by
  obtain ⟨h1, h2, h3, h4, h5, h6, h7⟩ := h
  refine ⟨?_, fun j hj => ?_, ?_, ?_, ?_, ?_, ?_⟩
  · rw [bd_N_no hn]; exact h1
  · rw [bd_lab_no hC hn]; exact h2 j hj
  · rw [bd_A_n hn]; exact h3
  · rw [bd_A_n hn]; exact h4
  · rw [bd_A_n hn]; exact h5
  · rw [bd_A_n hn]; exact h6
  · rw [bd_A_n hn]; exact h7
theorem bd_T_skip (hC : bd_C W H px L) {y : Nat} : ∀ d x, W ≤ x → x + d = 16 → bd_T W H px L kn0 pa0 st0 ln0 ar0 (y * 16 + x) tt lb kn pa st ln ar → bd_T W H px L kn0 pa0 st0 ln0 ar0 ((y + 1) * 16) tt lb kn pa st ln ar := by
  intro d
  induction d with
  | zero =>
    intro x _ hx h
    rw [show (y + 1) * 16 = y * 16 + x from by omega]
    exact h
  | succ d ih =>
    intro x hw hx h
    refine ih (x + 1) (by omega) (by omega) (bd_T_no hC (c := y * 16 + x) h (fun z => ?_))
    have := (bd_key_p hC z).1.1
    omega
theorem bd_T_rows (hC : bd_C W H px L) (d : Nat) (h : bd_T W H px L kn0 pa0 st0 ln0 ar0 (H * 16) tt lb kn pa st ln ar) : bd_T W H px L kn0 pa0 st0 ln0 ar0 (H * 16 + d) tt lb kn pa st ln ar := by
  induction d with
  | zero => exact h
  | succ d ih =>
    refine bd_T_no hC (c := H * 16 + d) ih (fun z => ?_)
    have := (bd_key_p hC z).1.2
    omega
theorem bd_T_fl (hC : bd_C W H px L) {c f : Nat} {lb' : Nat → Int32} (h : bd_T W H px L kn0 pa0 st0 ln0 ar0 c tt lb kn pa st ln ar) (hk : (bd_ok W H px L c ∧ f = c) ∨ (bd_hk W H px L c ∧ f = c + 1))
    (hf : ∀ j, (bd_cn W H px f j → lb' j = nI (bd_N W H px L c)) ∧ (¬ bd_cn W H px f j → lb' j = lb j)) :
    bd_T W H px L kn0 pa0 st0 ln0 ar0 (c + 1) (nI (bd_N W H px L c + 1)) lb' (upd kn (bd_N W H px L c) (bd_kd W H px L c)) (upd pa (bd_N W H px L c) (bd_cd (bd_pv W H px L c))) (upd st (bd_N W H px L c) (nI c)) (upd ln (bd_N W H px L c) 0) (upd ar (bd_N W H px L c) 0) := by
  obtain ⟨h1, h2, h3, h4, h5, h6, h7⟩ := h
  have key : bd_key W H px L c := hk.imp And.left And.left
  refine ⟨?_, fun j hj => ?_, ?_, ?_, ?_, ?_, ?_⟩
  · rw [bd_N_key key]
  · have hs := bd_lab_step hC hk j
    by_cases hc : bd_cn W H px f j
    · rw [(hf j).1 hc, (hs.1 hc).2]
    · rw [(hf j).2 hc, hs.2 hc, h2 j hj]
  · rw [bd_A_k key, h3]
  · rw [bd_A_k key, h4]
  · rw [bd_A_k key, h5]
  · rw [bd_A_k key, h6]
  · rw [bd_A_k key, h7]
theorem bd_T_un (hC : bd_C W H px L) {c f : Nat} (h : bd_T W H px L kn0 pa0 st0 ln0 ar0 c tt lb kn pa st ln ar) (hk : (bd_ok W H px L c ∧ f = c) ∨ (bd_hk W H px L c ∧ f = c + 1)) (hf : bd_in W H f) : ∀ j, bd_cn W H px f j → lb j = -2 := by
  intro j hj
  rw [h.2.1 j (bd_in_lt hC (bd_cn_in hj hf))]
  exact ((bd_lab_step hC hk j).1 hj).1
theorem x_add {post : Int32 → SX → Prop} {k a b : Nat} {kd : Int32} (hk : k < 256)
    (hp : post (nI k) (nI W, nI H, tr, nI (k + 1), px, fl, lb, qu, upd kn k kd, pa, upd st k (nI (b * 16 + a)), upd ln k 0, upd ar k 0, ii)) : wpX_addContour post (nI W, nI H, tr, nI k, px, fl, lb, qu, kn, pa, st, ln, ar, ii) kd (nI a) (nI b) := by
  have hv : vp_in (nI k) 256 := vp_in_nI hk (by omega)
  have hc : (nI k).toNatClampNeg = k := nI_clamp (by omega)
  refine br_f (nI_ge (b := 256) hk (by omega)) ⟨hv, nm_r (congrArg (fun z => upd kn z kd) hc) (x_ri ⟨hv, nm_r (congrArg (fun z => upd st z (nI (b * 16 + a))) hc) ⟨hv, nm_r (congrArg (fun z => upd ln z 0) hc) ⟨hv, nm_r (congrArg (fun z => upd ar z 0) hc) (nm_r (nI_1 k) hp)⟩⟩⟩)⟩
end
end
section
/-! formContoursWithKey and the loops of trace over it -/
theorem bd_sub1 : ∀ x : Nat, nI x - 1 = bd_cd x
  | 0 => by decide +kernel
  | x + 1 => nI_pred x
section
variable {W H : Nat} {tr tt : Int32} {px fl lb qu kn pa st ln ar ii fg bg : Nat → Int32} {L : Nat → Nat} {kn0 pa0 st0 ln0 ar0 : Nat → Int32}
theorem x_labL {post : Int32 → Prop} (hC : bd_C W H px L) {x y : Nat} (hx : x < W) (hy : y < H) (hl : ∀ j, j < 256 → lb j = bd_lab W H px L (y * 16 + x) j) (ho : bd_ok W H px L (y * 16 + x))
    (hp : post (bd_cd (bd_pv W H px L (y * 16 + x)))) : wpX_labelAt post (nI W, nI H, tr, tt, px, fl, lb, qu, kn, pa, st, ln, ar, ii) (nI x - 1) (nI y) := by
  have hW := hC.2.1
  have hH := hC.2.2.2.1
  unfold bd_pv at hp
  rw [if_pos ho] at hp
  rw [bd_sub1]
  refine x_labAt hW hH (fun a b ea eb ha hb => ?_) (fun hno => ?_)
  · rw [bd_cd_nI (by omega) (by omega)] at ea
    rw [nI_eq (by omega) (by omega)] at eb
    subst eb
    rw [if_neg (show ¬ (y * 16 + x) % 16 = 0 by omega), ← bd_lab_left hC ho (by omega), ← hl _ (by omega), show y * 16 + x - 1 = y * 16 + a from by omega] at hp
    exact hp
  · have hx0 : x = 0 := by
      rcases Nat.eq_zero_or_pos x with z | z
      · exact z
      · refine (hno (x - 1) y ?_ rfl (by omega) hy).elim
        rw [bd_cd_nI (by omega) (by omega)]
        omega
    rw [if_pos (show (y * 16 + x) % 16 = 0 by omega), bd_cd_0] at hp
    exact hp
theorem x_labS {post : Int32 → Prop} (hC : bd_C W H px L) {x y : Nat} (hx : x < W) (hy : y < H) (hl : ∀ j, j < 256 → lb j = bd_lab W H px L (y * 16 + x) j) (hh : bd_hk W H px L (y * 16 + x))
    (hp : post (bd_cd (bd_pv W H px L (y * 16 + x)))) : wpX_labelAt post (nI W, nI H, tr, tt, px, fl, lb, qu, kn, pa, st, ln, ar, ii) (nI x) (nI y) := by
  have hW := hC.2.1
  have hH := hC.2.2.2.1
  unfold bd_pv at hp
  rw [if_neg (bd_excl hC hh), ← bd_lab_self hC hh, ← hl _ (by omega)] at hp
  refine x_labAt hW hH (fun a b ea eb ha hb => ?_) (fun hno => (hno x y rfl rfl hx hy).elim)
  rw [nI_eq (by omega) (by omega)] at ea eb
  subst ea eb
  exact hp
theorem x_f53a {post : SX → Prop} (hC : bd_C W H px L) {x y : Nat} (hx : x < W) (hy : y < H) (hl : ∀ j, j < 256 → lb j = bd_lab W H px L (y * 16 + x + 1) j) (hp : post (nI W, nI H, tr, tt, px, fl, lb, qu, kn, pa, st, ln, ar, ii)) :
    wX_formContoursWithKey_53 post (nI x) (nI y) (nI W) (nI H) tr tt px fl lb qu kn pa st ln ar ii := by
  have hW := hC.2.1
  have hH := hC.2.2.2.1
  unfold wX_formContoursWithKey_53
  rw [nI_1 x]
  refine x_unl hW hH (fun a b ea eb ha hb e1 e2 => ?_) (fun _ => br_t rfl hp)
  rw [nI_eq (by omega) (by omega)] at ea eb
  subst ea eb
  rw [hl _ (by omega)] at e2
  exact absurd e2 (bd_lab_hk' hC (c := y * 16 + x) ⟨by omega, by omega⟩ (by omega) e1)
theorem x_f53b {post : SX → Prop} (hC : bd_C W H px L) {x y : Nat} (hx : x < W) (hy : y < H) (hT : bd_T W H px L kn0 pa0 st0 ln0 ar0 (y * 16 + x) tt lb kn pa st ln ar) (hno : ¬ bd_ok W H px L (y * 16 + x))
    (hp : ∀ tt lb qu kn pa st ln ar, bd_T W H px L kn0 pa0 st0 ln0 ar0 (y * 16 + x + 1) tt lb kn pa st ln ar → post (nI W, nI H, tr, tt, px, fl, lb, qu, kn, pa, st, ln, ar, ii)) :
    wX_formContoursWithKey_53 post (nI x) (nI y) (nI W) (nI H) tr tt px fl lb qu kn pa st ln ar ii := by
  have hW := hC.2.1
  have hH := hC.2.2.2.1
  have hi : bd_in W H (y * 16 + x) := ⟨by omega, by omega⟩
  have hN := bd_N_le (W := W) (H := H) (p := px) (L := L) (y * 16 + x)
  have htt := hT.1
  subst htt
  unfold wX_formContoursWithKey_53
  rw [nI_1 x]
  refine x_unl hW hH (fun a b ea eb ha hb e1 e2 => br_f bd_10 ?_) (fun hn => br_t rfl (hp _ _ _ _ _ _ _ _ (bd_T_no hC hT ?_)))
  · rw [nI_eq (by omega) (by omega)] at ea eb
    subst ea eb
    rw [hT.2.1 _ (by omega)] at e2
    have hh : bd_hk W H px L (y * 16 + x) := (bd_lab_hk hC hi (by omega) e1).mp e2
    refine x_add (by omega) ?_
    dsimp only
    refine x_labS hC hx hy hT.2.1 hh ⟨vp_in_nI (by omega) (by omega), nm_r (congrArg (fun z => upd pa z _) (nI_clamp (by omega))) ?_⟩
    refine x_flood hW hH hC.2.2.2.2.1 (bd_nI_m2 (by omega)) (by omega) hy (bd_T_un hC hT (Or.inr ⟨hh, rfl⟩) (bd_hk_in hC hh)) (fun lb' qu' hf => ?_)
    have hT' := bd_T_fl hC hT (Or.inr ⟨hh, rfl⟩) hf
    rw [show bd_kd W H px L (y * 16 + x) = 2 from if_neg hno] at hT'
    exact hp _ _ _ _ _ _ _ _ hT'
  · intro hk
    have hh : bd_hk W H px L (y * 16 + x) := hk.resolve_left hno
    refine hn (x + 1) y rfl rfl ?_ hy hh.2.2.1 ?_
    · have := hh.2.1
      omega
    · have h2 := (bd_lab_hk hC hi hh.2.1 hh.2.2.1).mpr hh
      rw [← hT.2.1 _ (by omega)] at h2
      exact h2
theorem x_form {post : SX → Prop} (hC : bd_C W H px L) {x y : Nat} (hx : x < W) (hy : y < H) (hT : bd_T W H px L kn0 pa0 st0 ln0 ar0 (y * 16 + x) tt lb kn pa st ln ar)
    (hp : ∀ tt lb qu kn pa st ln ar, bd_T W H px L kn0 pa0 st0 ln0 ar0 (y * 16 + x + 1) tt lb kn pa st ln ar → post (nI W, nI H, tr, tt, px, fl, lb, qu, kn, pa, st, ln, ar, ii)) :
    wpX_formContoursWithKey post (nI W, nI H, tr, tt, px, fl, lb, qu, kn, pa, st, ln, ar, ii) (nI x) (nI y) := by
  have hW := hC.2.1
  have hH := hC.2.2.2.1
  have hi : bd_in W H (y * 16 + x) := ⟨by omega, by omega⟩
  have hN := bd_N_le (W := W) (H := H) (p := px) (L := L) (y * 16 + x)
  unfold wpX_formContoursWithKey
  dsimp only
  refine x_ri ⟨vp_in_nI (by omega) (by omega), ?_⟩
  rw [nI_clamp (by omega)]
  refine br_c (fun e0 => hp _ _ _ _ _ _ _ _ (bd_T_no hC hT ?_)) (fun e0 => ?_)
  · intro z
    have := (bd_key_p hC z).2
    rw [e0] at this
    exact bd_01 this
  · have e1 : px (y * 16 + x) = 1 := (hC.2.2.2.2.1 (y * 16 + x)).resolve_left e0
    refine x_unl hW hH (fun a b ea eb ha hb _ e2 => br_f bd_10 ?_) (fun hn => br_t rfl (x_f53b hC hx hy hT (fun ho => ?_) hp))
    · rw [nI_eq (by omega) (by omega)] at ea eb
      subst ea eb
      rw [hT.2.1 _ (by omega)] at e2
      have ho : bd_ok W H px L (y * 16 + x) := (bd_lab_ok hC hi e1).mp e2
      have htt := hT.1
      subst htt
      refine x_add (by omega) ?_
      dsimp only
      refine x_labL hC hx hy hT.2.1 ho ⟨vp_in_nI (by omega) (by omega), nm_r (congrArg (fun z => upd pa z _) (nI_clamp (by omega))) ?_⟩
      refine x_flood hW hH hC.2.2.2.2.1 (bd_nI_m2 (by omega)) hx hy (bd_T_un hC hT (Or.inl ⟨ho, rfl⟩) hi) (fun lb' qu' hf => ?_)
      have hT' := bd_T_fl hC hT (Or.inl ⟨ho, rfl⟩) hf
      rw [show bd_kd W H px L (y * 16 + x) = 1 from if_pos ho] at hT'
      exact x_f53a hC hx hy hT'.2.1 (hp _ _ _ _ _ _ _ _ hT')
    · have h2 := (bd_lab_ok hC hi e1).mpr ho
      rw [← hT.2.1 _ (by omega)] at h2
      exact hn x y rfl rfl hx hy e1 h2
theorem x_tr29 {post : Int32 → SX → Prop} {J : Int32 → Int32 → Int32 → Int32 → Int32 → (Nat → Int32) → (Nat → Int32) → (Nat → Int32) → (Nat → Int32) → (Nat → Int32) → (Nat → Int32) → (Nat → Int32) → (Nat → Int32) → (Nat → Int32) → (Nat → Int32) → Prop}
    (hC : bd_C W H px L) {y : Nat} (hy : y < H) (hJ : ∀ tt lb qu kn pa st ln ar, bd_T W H px L kn0 pa0 st0 ln0 ar0 ((y + 1) * 16) tt lb kn pa st ln ar → J (nI (y + 1)) (nI W) (nI H) tr tt px fl lb qu kn pa st ln ar ii) :
    ∀ e x, x + e = W → ∀ n, e < n → ∀ tt lb qu kn pa st ln ar, bd_T W H px L kn0 pa0 st0 ln0 ar0 (y * 16 + x) tt lb kn pa st ln ar → wX_trace_29 post J (nI y) n (nI x) (nI W) (nI H) tr tt px fl lb qu kn pa st ln ar ii := by
  have hW := hC.2.1
  have hH := hC.2.2.2.1
  intro e
  induction e with
  | zero =>
    intro x hx n hn tt lb qu kn pa st ln ar hT
    obtain ⟨n, rfl⟩ : ∃ m, n = m + 1 := ⟨n - 1, by omega⟩
    exact br_t (nI_le (by omega) (by omega)) (nm_r (nI_1 y) (hJ _ _ _ _ _ _ _ _ (bd_T_skip hC (16 - x) x (by omega) (by omega) hT)))
  | succ e ih =>
    intro x hx n hn tt lb qu kn pa st ln ar hT
    obtain ⟨n, rfl⟩ : ∃ m, n = m + 1 := ⟨n - 1, by omega⟩
    refine br_f (nI_ge (by omega) (by omega)) (x_form hC (by omega) hy hT (fun tt lb qu kn pa st ln ar hT' => nm_r (nI_1 x) ?_))
    exact ih (x + 1) (by omega) n (by omega) _ _ _ _ _ _ _ _ hT'
theorem x_tr19 {post : Int32 → SX → Prop} (hC : bd_C W H px L)
    (hp : ∀ tt lb qu kn pa st ln ar, bd_T W H px L kn0 pa0 st0 ln0 ar0 256 tt lb kn pa st ln ar → wpX_countEdges (fun u => match u with | (a1, a2, a3, a4, a5, a6, a7, a8, a9, a10, a11, a12, a13, a14) => wpX_sumAreas (fun u => match u with | (b1, b2, b3, b4, b5, b6, b7, b8, b9, b10, b11, b12, b13, b14) => post b4 (b1, b2, 1, b4, b5, b6, b7, b8, b9, b10, b11, b12, b13, b14)) (a1, a2, a3, a4, a5, a6, a7, a8, a9, a10, a11, a12, a13, a14)) (nI W, nI H, tr, tt, px, fl, lb, qu, kn, pa, st, ln, ar, ii)) :
    ∀ e y, y + e = H → ∀ n, e < n → ∀ tt lb qu kn pa st ln ar, bd_T W H px L kn0 pa0 st0 ln0 ar0 (y * 16) tt lb kn pa st ln ar → wX_trace_19 post n (nI y) (nI W) (nI H) tr tt px fl lb qu kn pa st ln ar ii := by
  have hW := hC.2.1
  have hH := hC.2.2.2.1
  intro e
  induction e with
  | zero =>
    intro y hy n hn tt lb qu kn pa st ln ar hT
    obtain ⟨n, rfl⟩ : ∃ m, n = m + 1 := ⟨n - 1, by omega⟩
    have hy' : y = H := by omega
    subst hy'
    have hT' := bd_T_rows hC (256 - y * 16) hT
    rw [show y * 16 + (256 - y * 16) = 256 from by omega] at hT'
    exact br_t (nI_le (by omega) (by omega)) (hp _ _ _ _ _ _ _ _ hT')
  | succ e ih =>
    intro y hy n hn tt lb qu kn pa st ln ar hT
    obtain ⟨n, rfl⟩ : ∃ m, n = m + 1 := ⟨n - 1, by omega⟩
    exact br_f (nI_ge (by omega) (by omega)) ⟨W + 1, x_tr29 hC (by omega) (fun tt lb qu kn pa st ln ar h => ih (y + 1) (by omega) n (by omega) tt lb qu kn pa st ln ar h) W 0 (by omega) (W + 1) (by omega) _ _ _ _ _ _ _ _ hT⟩
end
end
section
/-! labelBeyond, isBorder, countEdges -/
theorem bd_far_in {W H : Nat} {ow : Nat → Nat} {x y s a b : Nat} (hx : x < W) (hy : y < H) (hW : W ≤ 16) (hs : s < 4) (ha : a < W) (hb : b < H) (ea : x + bd_sx s = a + 1) (eb : y + bd_sy s = b + 1) :
    bd_far W H ow (y * 16 + x) s = ow (b * 16 + a) := by
  have h1 : (y * 16 + x) % 16 = x := by omega
  have h2 : (y * 16 + x) / 16 = y := by omega
  unfold bd_far
  rw [h1, h2]
  have hc : s = 0 ∨ s = 1 ∨ s = 2 ∨ s = 3 := by omega
  rcases hc with rfl | rfl | rfl | rfl
  · have z1 : x + 1 = a + 1 := ea
    have z2 : y + 0 = b + 1 := eb
    rw [if_pos rfl, if_neg (by omega)]
    exact congrArg ow (by omega)
  · have z1 : x + 2 = a + 1 := ea
    have z2 : y + 1 = b + 1 := eb
    rw [if_neg (by omega), if_pos rfl, if_pos (by omega)]
    exact congrArg ow (by omega)
  · have z1 : x + 1 = a + 1 := ea
    have z2 : y + 2 = b + 1 := eb
    rw [if_neg (by omega), if_neg (by omega), if_pos rfl, if_pos (by omega)]
    exact congrArg ow (by omega)
  · have z1 : x + 0 = a + 1 := ea
    have z2 : y + 1 = b + 1 := eb
    rw [if_neg (by omega), if_neg (by omega), if_neg (by omega), if_neg (by omega)]
    exact congrArg ow (by omega)
theorem bd_far_out {W H : Nat} {ow : Nat → Nat} {x y s : Nat} (hx : x < W) (hy : y < H) (hW : W ≤ 16) (hs : s < 4) (hno : ∀ a b, x + bd_sx s = a + 1 → y + bd_sy s = b + 1 → a < W → b < H → False) :
    bd_far W H ow (y * 16 + x) s = 0 := by
  have h1 : (y * 16 + x) % 16 = x := by omega
  have h2 : (y * 16 + x) / 16 = y := by omega
  unfold bd_far
  rw [h1, h2]
  have hc : s = 0 ∨ s = 1 ∨ s = 2 ∨ s = 3 := by omega
  rcases hc with rfl | rfl | rfl | rfl
  · have z : y = 0 := by
      rcases Nat.eq_zero_or_pos y with z | z
      · exact z
      · exact (hno x (y - 1) rfl (by show y + 0 = y - 1 + 1; omega) hx (by omega)).elim
    rw [if_pos rfl, if_pos z]
  · have z : ¬ x + 1 < W := fun z => hno (x + 1) y rfl rfl z hy
    rw [if_neg (by omega), if_pos rfl, if_neg z]
  · have z : ¬ y + 1 < H := fun z => hno x (y + 1) rfl rfl hx z
    rw [if_neg (by omega), if_neg (by omega), if_pos rfl, if_neg z]
  · have z : x = 0 := by
      rcases Nat.eq_zero_or_pos x with z | z
      · exact z
      · exact (hno (x - 1) y (by show x + 0 = x - 1 + 1; omega) rfl (by omega) hy).elim
    rw [if_neg (by omega), if_neg (by omega), if_neg (by omega), if_pos z]
/-- what the component's tables hold when the contours are formed -/
def bd_F (W H : Nat) (p : Nat → Int32) (L : Nat → Nat) (t : Nat) (lb kn pa st : Nat → Int32) : Prop :=
  bd_C W H p L ∧ t = bd_N W H p L 256 ∧ (∀ j, j < 256 → lb j = bd_lab W H p L 256 j) ∧
  (∀ c, bd_key W H p L c → kn (bd_N W H p L c) = bd_kd W H p L c ∧ st (bd_N W H p L c) = nI c ∧ pa (bd_N W H p L c) = bd_cd (bd_pv W H p L c))
section
variable {W H : Nat} {tr tt : Int32} {px fl lb qu kn pa st ln ar ii fg bg : Nat → Int32} {L : Nat → Nat} {t : Nat}
theorem bd_F_t (hF : bd_F W H px L t lb kn pa st) : t ≤ 256 := by
  rw [hF.2.1]
  exact bd_N_le 256
theorem bd_key_lt (hC : bd_C W H px L) {c : Nat} (h : bd_key W H px L c) : c < 256 := bd_in_lt hC (bd_key_p hC h).1
theorem bd_F_k (hF : bd_F W H px L t lb kn pa st) {c : Nat} (h : bd_key W H px L c) : bd_N W H px L c < t := by
  rw [hF.2.1]
  exact bd_N_lt h (bd_key_lt hF.1 h)
theorem bd_F_c (hF : bd_F W H px L t lb kn pa st) {k : Nat} (h : k < t) : ∃ c, bd_key W H px L c ∧ k = bd_N W H px L c := by
  rw [hF.2.1] at h
  obtain ⟨c, _, h2, h3⟩ := bd_N_ex h
  exact ⟨c, h2, h3.symm⟩
theorem bd_F_lb (hF : bd_F W H px L t lb kn pa st) {i : Nat} (h : bd_in W H i) : lb i = bd_cd (bd_ow W H px L i) := by
  rw [hF.2.2.1 i (bd_in_lt hF.1 h)]
  exact bd_lab_256 hF.1 h
theorem bd_F_ow (hF : bd_F W H px L t lb kn pa st) {i : Nat} (h : bd_in W H i) : bd_ow W H px L i ≤ t := by
  rw [hF.2.1]
  exact bd_ow_le hF.1 h
theorem bd_far_le (hF : bd_F W H px L t lb kn pa st) {x y s : Nat} (hx : x < W) (hy : y < H) (hs : s < 4) : bd_far W H (bd_ow W H px L) (y * 16 + x) s ≤ t := by
  have hW := hF.1.2.1
  by_cases h : ∃ a b, x + bd_sx s = a + 1 ∧ y + bd_sy s = b + 1 ∧ a < W ∧ b < H
  · obtain ⟨a, b, h1, h2, h3, h4⟩ := h
    rw [bd_far_in hx hy hW hs h3 h4 h1 h2]
    exact bd_F_ow hF ⟨by omega, by omega⟩
  · rw [bd_far_out hx hy hW hs (fun a b h1 h2 h3 h4 => h ⟨a, b, h1, h2, h3, h4⟩)]
    omega
theorem x_bey {post : Int32 → Prop} (hF : bd_F W H px L t lb kn pa st) {x y s : Nat} (hx : x < W) (hy : y < H) (hs : s < 4)
    (hp : post (bd_cd (bd_far W H (bd_ow W H px L) (y * 16 + x) s))) : wpX_labelBeyond post (nI W, nI H, tr, tt, px, fl, lb, qu, kn, pa, st, ln, ar, ii) (nI x) (nI y) (nI s) := by
  have hW := hF.1.2.1
  have hH := hF.1.2.2.2.1
  have hd := bd_d8 (s := s) (by omega)
  unfold wpX_labelBeyond
  dsimp only
  refine x_stepX (s := s) (by omega) (nm_r (bd_add x (bd_sx s)) (x_stepY (s := s) (by omega) (nm_r (bd_add y (bd_sy s)) (x_labAt hW hH (fun a b ea eb ha hb => ?_) (fun hno => ?_)))))
  · rw [bd_cd_nI (by omega) (by omega)] at ea eb
    rw [bd_far_in hx hy hW hs ha hb ea eb, ← bd_F_lb hF ⟨by omega, by omega⟩] at hp
    exact hp
  · rw [bd_far_out hx hy hW hs (fun a b h1 h2 h3 h4 => hno a b (by rw [h1]; rfl) (by rw [h2]; rfl) h3 h4)] at hp
    exact hp
theorem x_isB {post : Int32 → Prop} (hF : bd_F W H px L t lb kn pa st) {c a b : Nat} (h : bd_key W H px L c) (ha : a ≤ t) (hb : b ≤ t) (h1 : bd_E W H px L a b c → post 1) (h0 : ¬ bd_E W H px L a b c → post 0) :
    wpX_isBorder post (nI W, nI H, tr, tt, px, fl, lb, qu, kn, pa, st, ln, ar, ii) (nI (bd_N W H px L c)) (bd_cd a) (bd_cd b) := by
  have ht := bd_F_t hF
  have hk := bd_F_k hF h
  have hq := bd_pv_le hF.1 h
  have hv : vp_in (nI (bd_N W H px L c)) 256 := vp_in_nI (by omega) (by omega)
  refine ⟨hv, ?_⟩
  rw [nI_clamp (by omega), (hF.2.2.2 c h).1, (hF.2.2.2 c h).2.2]
  have hi := bd_isb (a := a) (b := b) hF.1 h
  by_cases hd : bd_kd W H px L c = 1
  · have hi := hi.1 hd
    refine br_t hd (br_c (fun e1 => ⟨hv, br_c (fun e2 => h1 (hi.mp ?_)) (fun e2 => h0 fun z => e2 ?_)⟩) (fun e1 => h0 fun z => e1 ?_))
    · rw [bd_cd_nI (by omega) (by omega)] at e1
      rw [bd_cd_eq (by omega) (by omega)] at e2
      exact ⟨e1, e2⟩
    · rw [bd_cd_eq (by omega) (by omega)]
      exact (hi.mpr z).2
    · rw [bd_cd_nI (by omega) (by omega)]
      exact (hi.mpr z).1
  · have hi := hi.2 hd
    refine br_f hd ⟨hv, br_c (fun e1 => br_c (fun e2 => h1 (hi.mp ?_)) (fun e2 => h0 fun z => e2 ?_)) (fun e1 => h0 fun z => e1 ?_)⟩
    · rw [bd_cd_nI (by omega) (by omega)] at e2
      rw [bd_cd_eq (by omega) (by omega)] at e1
      exact ⟨e1, e2⟩
    · rw [bd_cd_nI (by omega) (by omega)]
      exact (hi.mpr z).2
    · rw [bd_cd_eq (by omega) (by omega)]
      exact (hi.mpr z).1
theorem x_cE28 {post : SX → Prop} (hF : bd_F W H px L t lb kn pa st) {a b : Nat} (ha : a ≤ t) (hb : b ≤ t) {l1 : Nat → Int32}
    (h1 : bd_inc (∃ c, bd_key W H px L c ∧ a = bd_N W H px L c + 1 ∧ bd_E W H px L a b c) (a - 1) ln l1)
    (hp : ∀ l2, (∀ c, bd_key W H px L c → (bd_E W H px L a b c → l2 (bd_N W H px L c) = ln (bd_N W H px L c) + 1) ∧ (¬ bd_E W H px L a b c → l2 (bd_N W H px L c) = ln (bd_N W H px L c))) → post (nI W, nI H, tr, nI t, px, fl, lb, qu, kn, pa, st, l2, ar, ii)) :
    wX_countEdge_28 post (bd_cd a) (bd_cd b) (nI W) (nI H) tr (nI t) px fl lb qu kn pa st l1 ar ii := by
  have ht := bd_F_t hF
  have hC := hF.1
  have fin : ∀ l2, bd_inc (∃ c, bd_key W H px L c ∧ b = bd_N W H px L c + 1 ∧ bd_E W H px L a b c) (b - 1) l1 l2 → post (nI W, nI H, tr, nI t, px, fl, lb, qu, kn, pa, st, l2, ar, ii) := fun l2 h2 => hp l2 (fun c hc => bd_len hC h1 h2 hc)
  refine x_isC ht (fun k ek hk => br_f bd_10 ?_) (fun hno => br_t rfl (fin l1 ⟨fun z => ?_, fun _ => rfl⟩))
  · rw [bd_cd_nI (by omega) (by omega)] at ek
    obtain ⟨c, hc, rfl⟩ := bd_F_c hF hk
    subst ek
    have hv : vp_in (bd_cd (bd_N W H px L c + 1)) 256 := vp_in_nI (by omega) (by omega)
    refine x_isB (c := c) hF hc ha hb (fun he => br_f bd_10 ⟨hv, hv, nm_r (congrArg (fun z => upd l1 z (l1 z + 1)) (nI_clamp (n := bd_N W H px L c) (by omega))) (fin _ ⟨fun _ => rfl, fun z => absurd ⟨c, hc, rfl, he⟩ z⟩)⟩) (fun he => br_t rfl (fin l1 ⟨fun z => ?_, fun _ => rfl⟩))
    obtain ⟨d, hd, e1, e2⟩ := z
    have : c = d := bd_N_inj hc hd (by omega)
    subst this
    exact absurd e2 he
  · obtain ⟨c, hc, e1, e2⟩ := z
    exact (hno (bd_N W H px L c) (by rw [e1]; rfl) (bd_F_k hF hc)).elim
theorem x_cE {post : SX → Prop} (hF : bd_F W H px L t lb kn pa st) {a b : Nat} (ha : a ≤ t) (hb : b ≤ t)
    (hp : ∀ l2, (∀ c, bd_key W H px L c → (bd_E W H px L a b c → l2 (bd_N W H px L c) = ln (bd_N W H px L c) + 1) ∧ (¬ bd_E W H px L a b c → l2 (bd_N W H px L c) = ln (bd_N W H px L c))) → post (nI W, nI H, tr, nI t, px, fl, lb, qu, kn, pa, st, l2, ar, ii)) :
    wpX_countEdge post (nI W, nI H, tr, nI t, px, fl, lb, qu, kn, pa, st, ln, ar, ii) (bd_cd a) (bd_cd b) := by
  have ht := bd_F_t hF
  have fin : ∀ l1, bd_inc (∃ c, bd_key W H px L c ∧ a = bd_N W H px L c + 1 ∧ bd_E W H px L a b c) (a - 1) ln l1 → wX_countEdge_28 post (bd_cd a) (bd_cd b) (nI W) (nI H) tr (nI t) px fl lb qu kn pa st l1 ar ii := fun l1 h1 => x_cE28 hF ha hb h1 hp
  unfold wpX_countEdge
  dsimp only
  refine x_isC ht (fun k ek hk => br_f bd_10 ?_) (fun hno => br_t rfl (fin ln ⟨fun z => ?_, fun _ => rfl⟩))
  · rw [bd_cd_nI (by omega) (by omega)] at ek
    obtain ⟨c, hc, rfl⟩ := bd_F_c hF hk
    subst ek
    have hv : vp_in (bd_cd (bd_N W H px L c + 1)) 256 := vp_in_nI (by omega) (by omega)
    refine x_isB (c := c) hF hc ha hb (fun he => br_f bd_10 ⟨hv, hv, nm_r (congrArg (fun z => upd ln z (ln z + 1)) (nI_clamp (n := bd_N W H px L c) (by omega))) (fin _ ⟨fun _ => rfl, fun z => absurd ⟨c, hc, rfl, he⟩ z⟩)⟩) (fun he => br_t rfl (fin ln ⟨fun z => ?_, fun _ => rfl⟩))
    obtain ⟨d, hd, e1, e2⟩ := z
    have : c = d := bd_N_inj hc hd (by omega)
    subst this
    exact absurd e2 he
  · obtain ⟨c, hc, e1, e2⟩ := z
    exact (hno (bd_N W H px L c) (by rw [e1]; rfl) (bd_F_k hF hc)).elim
theorem x_ce34 {post : SX → Prop} {J2 J12 : Int32 → Int32 → Int32 → Int32 → Int32 → (Nat → Int32) → (Nat → Int32) → (Nat → Int32) → (Nat → Int32) → (Nat → Int32) → (Nat → Int32) → (Nat → Int32) → (Nat → Int32) → (Nat → Int32) → (Nat → Int32) → Prop}
    (hF : bd_F W H px L t lb kn pa st) {x y : Nat} (hx : x < W) (hy : y < H)
    (hJ : ∀ ln, (∀ c, bd_key W H px L c → ln (bd_N W H px L c) = nI (bd_ct (bd_ed W H px L c) (4 * (y * 16 + x) + 4))) → J12 (nI (x + 1)) (nI W) (nI H) tr (nI t) px fl lb qu kn pa st ln ar ii) :
    ∀ e s, s + e = 4 → ∀ n, e < n → ∀ ln, (∀ c, bd_key W H px L c → ln (bd_N W H px L c) = nI (bd_ct (bd_ed W H px L c) (4 * (y * 16 + x) + s))) →
      wX_countEdges_34 post J2 J12 (nI y) (nI x) (bd_cd (bd_ow W H px L (y * 16 + x))) n (nI s) (nI W) (nI H) tr (nI t) px fl lb qu kn pa st ln ar ii := by
  have hW := hF.1.2.1
  have hin : bd_in W H (y * 16 + x) := ⟨by omega, by omega⟩
  intro e
  induction e with
  | zero =>
    intro s hs n hn ln h
    obtain ⟨n, rfl⟩ : ∃ m, n = m + 1 := ⟨n - 1, by omega⟩
    have : s = 4 := by omega
    subst this
    exact br_t (nI_le (a := 4) (by omega) (by omega)) (nm_r (nI_1 x) (hJ ln h))
  | succ e ih =>
    intro s hs n hn ln h
    obtain ⟨n, rfl⟩ : ∃ m, n = m + 1 := ⟨n - 1, by omega⟩
    refine br_f (nI_ge (b := 4) (by omega) (by omega)) (x_bey hF hx hy (by omega) (x_cE hF (bd_F_ow hF hin) (bd_far_le hF hx hy (by omega)) (fun l2 h2 => nm_r (nI_1 s) (ih (s + 1) (by omega) n (by omega) l2 (fun c hc => ?_)))))
    have q1 : (4 * (y * 16 + x) + s) / 4 = y * 16 + x := by omega
    have q2 : (4 * (y * 16 + x) + s) % 4 = s := by omega
    have hed : bd_ed W H px L c (4 * (y * 16 + x) + s) ↔ bd_E W H px L (bd_ow W H px L (y * 16 + x)) (bd_far W H (bd_ow W H px L) (y * 16 + x) s) c := by
      unfold bd_ed bd_E
      rw [q1, q2]
      exact ⟨fun z => z.2, fun z => ⟨hin, z⟩⟩
    rw [← Nat.add_assoc]
    by_cases he : bd_ed W H px L c (4 * (y * 16 + x) + s)
    · rw [bd_ct_t he, (h2 c hc).1 (hed.mp he), h c hc, nI_1]
    · rw [bd_ct_f he, (h2 c hc).2 (fun z => he (hed.mpr z)), h c hc]
theorem bd_ed_no {c i : Nat} (hi : ¬ bd_in W H i) : bd_ct (bd_ed W H px L c) (4 * (i + 1)) = bd_ct (bd_ed W H px L c) (4 * i) := by
  have h : ∀ s, s < 4 → ¬ bd_ed W H px L c (4 * i + s) := fun s hs z => hi (by
    have := z.1
    rw [show (4 * i + s) / 4 = i from by omega] at this
    exact this)
  rw [show 4 * (i + 1) = 4 * i + 0 + 1 + 1 + 1 + 1 from by omega, bd_ct_f (h 3 (by omega)), bd_ct_f (h 2 (by omega)), bd_ct_f (h 1 (by omega)), bd_ct_f (h 0 (by omega))]
  rfl
theorem bd_ed_skip {c y : Nat} : ∀ d x, W ≤ x → x + d = 16 → bd_ct (bd_ed W H px L c) (4 * ((y + 1) * 16)) = bd_ct (bd_ed W H px L c) (4 * (y * 16 + x)) := by
  intro d
  induction d with
  | zero =>
    intro x _ hx
    rw [show (y + 1) * 16 = y * 16 + x from by omega]
  | succ d ih =>
    intro x hw hx
    rw [ih (x + 1) (by omega) (by omega)]
    exact bd_ed_no (i := y * 16 + x) (fun z => absurd z.1 (by omega))
theorem bd_ed_rows {c : Nat} (d : Nat) : bd_ct (bd_ed W H px L c) (4 * (H * 16 + d)) = bd_ct (bd_ed W H px L c) (4 * (H * 16)) := by
  induction d with
  | zero => rfl
  | succ d ih =>
    rw [← ih]
    exact bd_ed_no (i := H * 16 + d) (fun z => absurd z.2 (by omega))
theorem x_ce12 {post : SX → Prop} {J2 : Int32 → Int32 → Int32 → Int32 → Int32 → (Nat → Int32) → (Nat → Int32) → (Nat → Int32) → (Nat → Int32) → (Nat → Int32) → (Nat → Int32) → (Nat → Int32) → (Nat → Int32) → (Nat → Int32) → (Nat → Int32) → Prop}
    (hF : bd_F W H px L t lb kn pa st) {y : Nat} (hy : y < H)
    (hJ : ∀ ln, (∀ c, bd_key W H px L c → ln (bd_N W H px L c) = nI (bd_ct (bd_ed W H px L c) (4 * ((y + 1) * 16)))) → J2 (nI (y + 1)) (nI W) (nI H) tr (nI t) px fl lb qu kn pa st ln ar ii) :
    ∀ e x, x + e = W → ∀ n, e < n → ∀ ln, (∀ c, bd_key W H px L c → ln (bd_N W H px L c) = nI (bd_ct (bd_ed W H px L c) (4 * (y * 16 + x)))) →
      wX_countEdges_12 post J2 (nI y) n (nI x) (nI W) (nI H) tr (nI t) px fl lb qu kn pa st ln ar ii := by
  have hW := hF.1.2.1
  have hH := hF.1.2.2.2.1
  intro e
  induction e with
  | zero =>
    intro x hx n hn ln h
    obtain ⟨n, rfl⟩ : ∃ m, n = m + 1 := ⟨n - 1, by omega⟩
    refine br_t (nI_le (by omega) (by omega)) (nm_r (nI_1 y) (hJ ln (fun c hc => ?_)))
    rw [bd_ed_skip (16 - x) x (by omega) (by omega)]
    exact h c hc
  | succ e ih =>
    intro x hx n hn ln h
    obtain ⟨n, rfl⟩ : ∃ m, n = m + 1 := ⟨n - 1, by omega⟩
    have hin : bd_in W H (y * 16 + x) := ⟨by omega, by omega⟩
    refine br_f (nI_ge (by omega) (by omega)) (x_ri ⟨vp_in_nI (by omega) (by omega), nm_r ((congrArg lb (nI_clamp (by omega))).trans (bd_F_lb hF hin)) ⟨5, ?_⟩⟩)
    refine x_ce34 hF (by omega) hy (fun ln h => ?_) 4 0 rfl 5 (by omega) ln h
    exact ih (x + 1) (by omega) n (by omega) ln h
theorem x_ce2 {post : SX → Prop} (hF : bd_F W H px L t lb kn pa st)
    (hp : ∀ ln, (∀ c, bd_key W H px L c → ln (bd_N W H px L c) = nI (bd_ct (bd_ed W H px L c) 1024)) → post (nI W, nI H, tr, nI t, px, fl, lb, qu, kn, pa, st, ln, ar, ii)) :
    ∀ e y, y + e = H → ∀ n, e < n → ∀ ln, (∀ c, bd_key W H px L c → ln (bd_N W H px L c) = nI (bd_ct (bd_ed W H px L c) (4 * (y * 16)))) →
      wX_countEdges_2 post n (nI y) (nI W) (nI H) tr (nI t) px fl lb qu kn pa st ln ar ii := by
  have hW := hF.1.2.1
  have hH := hF.1.2.2.2.1
  intro e
  induction e with
  | zero =>
    intro y hy n hn ln h
    obtain ⟨n, rfl⟩ : ∃ m, n = m + 1 := ⟨n - 1, by omega⟩
    have hy' : y = H := by omega
    subst hy'
    refine br_t (nI_le (by omega) (by omega)) (hp ln (fun c hc => ?_))
    rw [h c hc, ← bd_ed_rows (256 - y * 16), show 4 * (y * 16 + (256 - y * 16)) = 1024 from by omega]
  | succ e ih =>
    intro y hy n hn ln h
    obtain ⟨n, rfl⟩ : ∃ m, n = m + 1 := ⟨n - 1, by omega⟩
    exact br_f (nI_ge (by omega) (by omega)) ⟨W + 1, x_ce12 hF (by omega) (fun ln h => ih (y + 1) (by omega) n (by omega) ln h) W 0 (by omega) (W + 1) (by omega) ln h⟩
theorem x_edges {post : SX → Prop} (hF : bd_F W H px L t lb kn pa st) (h0 : ∀ c, bd_key W H px L c → ln (bd_N W H px L c) = 0)
    (hp : ∀ ln, (∀ c, bd_key W H px L c → ln (bd_N W H px L c) = nI (bd_ct (bd_ed W H px L c) 1024)) → post (nI W, nI H, tr, nI t, px, fl, lb, qu, kn, pa, st, ln, ar, ii)) : wpX_countEdges post (nI W, nI H, tr, nI t, px, fl, lb, qu, kn, pa, st, ln, ar, ii) :=
  ⟨H + 1, x_ce2 hF hp H 0 (by omega) (H + 1) (by omega) ln (fun c hc => h0 c hc)⟩
end
end
section
/-! sumAreas, and trace of the component whole -/
noncomputable def bd_arN (W H : Nat) (p : Nat → Int32) (L : Nat → Nat) (pa : Nat → Int32) (k : Nat) : Nat :=
  bd_ct (fun i => bd_in W H i ∧ bd_a (fun j => bd_dc (pa j)) k (bd_ow W H p L i) = true) 256
noncomputable def bd_fin (W H : Nat) (p : Nat → Int32) (L : Nat → Nat) (kn pa : Nat → Int32) (k : Nat) : Int32 :=
  if kn k = 2 then -nI (bd_arN W H p L pa k) else nI (bd_arN W H p L pa k)
section
variable {W H : Nat} {tr tt : Int32} {px fl lb qu kn pa st ln ar ii fg bg : Nat → Int32} {L : Nat → Nat} {t : Nat}
theorem bd_pp (hF : bd_F W H px L t lb kn pa st) {k : Nat} (hk : k < t) : pa k = bd_cd (bd_dc (pa k)) ∧ bd_dc (pa k) ≤ k := by
  obtain ⟨c, hc, rfl⟩ := bd_F_c hF hk
  have hp := bd_pv_le hF.1 hc
  have ht := bd_F_t hF
  rw [(hF.2.2.2 c hc).2.2, bd_dc_cd (by omega)]
  exact ⟨rfl, hp⟩
theorem bd_ppl (hF : bd_F W H px L t lb kn pa st) : ∀ j, j < t → (fun j => bd_dc (pa j)) j ≤ j := fun _ hj => (bd_pp hF hj).2
theorem bd_gc_ar (hF : bd_F W H px L t lb kn pa st) {k : Nat} (hk : k < t) : bd_gc (fun i => bd_in W H i) (fun j => bd_dc (pa j)) t (bd_ow W H px L) (t - 1 - k) k = bd_arN W H px L pa k :=
  bd_ct_eq fun i _ => ⟨fun z => ⟨z.1, (bd_g_end (bd_ppl hF) hk (bd_F_ow hF z.1)).mpr z.2⟩, fun z => ⟨z.1, (bd_g_end (bd_ppl hF) hk (bd_F_ow hF z.1)).mp z.2⟩⟩
theorem bd_lb_C (hF : bd_F W H px L t lb kn pa st) {i k : Nat} (hi : i < 256) (hk : k < t) (e : lb i = nI k) : bd_in W H i ∧ bd_ow W H px L i = k + 1 := by
  have ht := bd_F_t hF
  by_cases h : bd_in W H i
  · rw [bd_F_lb hF h, bd_cd_nI (bd_ow_lt hF.1 h) (by omega)] at e
    exact ⟨h, e⟩
  · rw [hF.2.2.1 i hi, bd_lab_out h] at e
    exact absurd e.symm (bd_nI_m2 (by omega))
def bd_S2 (W H : Nat) (p : Nat → Int32) (L : Nat → Nat) (kn pa : Nat → Int32) (t q : Nat) (ar : Nat → Int32) : Prop :=
  (∀ k, k < q → ar k = nI (bd_gc (fun i => bd_in W H i) (fun j => bd_dc (pa j)) t (bd_ow W H p L) (t - q) k)) ∧
  (∀ k, q ≤ k → k < t → ar k = bd_fin W H p L kn pa k)
theorem x_sa87 {post : SX → Prop} {J : Int32 → (Nat → Int32) → (Nat → Int32) → (Nat → Int32) → (Nat → Int32) → (Nat → Int32) → (Nat → Int32) → (Nat → Int32) → (Nat → Int32) → (Nat → Int32) → (Nat → Int32) → Prop}
    {q : Nat} (hq : q < 256) (h2 : kn q = 2 → J (bd_cd q) px fl lb qu kn pa st ln (upd ar q (-(ar q))) ii) (h1 : ¬ kn q = 2 → J (bd_cd q) px fl lb qu kn pa st ln ar ii) : wX_sumAreas_87 post J (nI q) (nI W) (nI H) tr tt px fl lb qu kn pa st ln ar ii := by
  have hv : vp_in (nI q) 256 := vp_in_nI hq (by omega)
  have hc : (nI q).toNatClampNeg = q := nI_clamp (by omega)
  refine ⟨hv, ?_⟩
  rw [hc]
  exact br_c (fun e => ⟨hv, hv, nm_e (nm_r (bd_add q 0) (h2 e))⟩) (fun e => nm_r (bd_add q 0) (h1 e))
theorem x_sa50 {post : SX → Prop} (hF : bd_F W H px L t lb kn pa st) (hp : ∀ ar, (∀ k, k < t → ar k = bd_fin W H px L kn pa k) → post (nI W, nI H, tr, nI t, px, fl, lb, qu, kn, pa, st, ln, ar, ii)) :
    ∀ q, q ≤ t → ∀ n, q < n → ∀ ar, bd_S2 W H px L kn pa t q ar → wX_sumAreas_50 post (nI W) (nI H) tr (nI t) n (bd_cd q) px fl lb qu kn pa st ln ar ii := by
  have ht := bd_F_t hF
  intro q
  induction q with
  | zero =>
    intro _ n hn ar h
    obtain ⟨n, rfl⟩ : ∃ m, n = m + 1 := ⟨n - 1, by omega⟩
    exact br_t (by decide) (hp ar (fun k hk => h.2 k (by omega) hk))
  | succ q ih =>
    intro hq n hn ar h
    obtain ⟨n, rfl⟩ : ∃ m, n = m + 1 := ⟨n - 1, by omega⟩
    obtain ⟨s1, s2⟩ := h
    have hv : vp_in (nI q) 256 := vp_in_nI (by omega) (by omega)
    obtain ⟨hpa, hpl⟩ := bd_pp hF (k := q) (by omega)
    have hd1 : t - (q + 1) < t := by omega
    have hd2 : t - 1 - (t - (q + 1)) = q := by omega
    have hd3 : t - (q + 1) + 1 = t - q := by omega
    have fin : ∀ ar1 : Nat → Int32, (∀ k, k < q → ar1 k = nI (bd_gc (fun i => bd_in W H i) (fun j => bd_dc (pa j)) t (bd_ow W H px L) (t - q) k)) →
        ar1 q = nI (bd_gc (fun i => bd_in W H i) (fun j => bd_dc (pa j)) t (bd_ow W H px L) (t - (q + 1)) q) → (∀ k, q + 1 ≤ k → k < t → ar1 k = bd_fin W H px L kn pa k) →
        wX_sumAreas_87 post (wX_sumAreas_50 post (nI W) (nI H) tr (nI t) n) (nI q) (nI W) (nI H) tr (nI t) px fl lb qu kn pa st ln ar1 ii := by
      intro ar1 a1 a2 a3
      have hq' := bd_gc_ar hF (k := q) (by omega)
      rw [show t - 1 - q = t - (q + 1) from by omega] at hq'
      rw [hq'] at a2
      refine x_sa87 (by omega) (fun e => ih (by omega) n (by omega) _ ⟨fun k hk => ?_, fun k hk1 hk2 => ?_⟩) (fun e => ih (by omega) n (by omega) _ ⟨a1, fun k hk1 hk2 => ?_⟩)
      · rw [pk_un (by omega)]; exact a1 k hk
      · by_cases ek : k = q
        · subst ek
          rw [pk_us, a2]
          unfold bd_fin
          rw [if_pos e]
        · rw [pk_un ek]; exact a3 k (by omega) hk2
      · by_cases ek : k = q
        · subst ek
          rw [a2]
          unfold bd_fin
          rw [if_neg e]
        · exact a3 k (by omega) hk2
    have hc : (nI q).toNatClampNeg = q := nI_clamp (by omega)
    rw [bd_cd_s]
    refine br_f (nI_pos (by omega)) ⟨hv, ?_⟩
    rw [hc]
    refine x_isC ht (fun m em hm => br_f bd_10 ?_) (fun hno => br_t rfl (fin ar (fun k hk => ?_) (s1 q (by omega)) s2))
    · have em' := em
      rw [hpa, bd_cd_nI (by omega) (by omega)] at em'
      have hvm : vp_in (nI m) 256 := vp_in_nI (by omega) (by omega)
      rw [em]
      refine ⟨hv, hvm, hv, hvm, nm_r (congrArg (fun z => upd ar z (ar z + ar q)) (nI_clamp (n := m) (by omega))) (fin _ (fun k hk => ?_) ?_ (fun k hk1 hk2 => ?_))⟩
      · by_cases ek : k = m
        · subst ek
          rw [pk_us, s1 k (by omega), s1 q (by omega), nI_add, ← hd3]
          have := bd_gc_t (I := fun i => bd_in W H i) (pp := fun j => bd_dc (pa j)) (own := bd_ow W H px L) (m := k) hd1 (by omega) (by rw [hd2]; exact em')
          rw [this, hd2]
        · rw [pk_un ek, s1 k (by omega), ← hd3]
          have := bd_gc_f (I := fun i => bd_in W H i) (pp := fun j => bd_dc (pa j)) (own := bd_ow W H px L) (m := k) hd1 (by omega) (by rw [hd2]; show bd_dc (pa q) ≠ k + 1; omega)
          rw [this]
      · rw [pk_un (by omega)]; exact s1 q (by omega)
      · rw [pk_un (by omega)]; exact s2 k hk1 hk2
    · have h0 : bd_dc (pa q) = 0 := by
        rcases Nat.eq_zero_or_pos (bd_dc (pa q)) with z | z
        · exact z
        · refine (hno (bd_dc (pa q) - 1) ?_ (by omega)).elim
          have := (bd_cd_nI (a := bd_dc (pa q)) (k := bd_dc (pa q) - 1) (by omega) (by omega)).mpr (by omega)
          exact hpa.trans this
      rw [s1 k (by omega), ← hd3]
      have := bd_gc_f (I := fun i => bd_in W H i) (pp := fun j => bd_dc (pa j)) (own := bd_ow W H px L) (m := k) hd1 (by omega) (by rw [hd2]; show bd_dc (pa q) ≠ k + 1; omega)
      rw [this]
theorem x_sa2 {post : SX → Prop} (hF : bd_F W H px L t lb kn pa st) (hp : ∀ ar, (∀ k, k < t → ar k = bd_fin W H px L kn pa k) → post (nI W, nI H, tr, nI t, px, fl, lb, qu, kn, pa, st, ln, ar, ii)) :
    ∀ d i, i + d = 256 → ∀ n, d < n → ∀ ar, (∀ k, k < t → ar k = nI (bd_ct (fun j => bd_in W H j ∧ bd_ow W H px L j = k + 1) i)) → wX_sumAreas_2 post (nI W) (nI H) tr (nI t) n (nI i) px fl lb qu kn pa st ln ar ii := by
  have ht := bd_F_t hF
  intro d
  induction d with
  | zero =>
    intro i hi n hn ar h
    obtain ⟨n, rfl⟩ : ∃ m, n = m + 1 := ⟨n - 1, by omega⟩
    have : i = 256 := by omega
    subst this
    refine br_t (nI_le (a := 256) (by omega) (by omega)) (nm_r (bd_sub1 t) ⟨t + 1, x_sa50 hF hp t (Nat.le_refl t) (t + 1) (by omega) ar ⟨fun k hk => ?_, fun k h1 h2 => absurd h2 (by omega)⟩⟩)
    rw [Nat.sub_self]
    exact h k hk
  | succ d ih =>
    intro i hi n hn ar h
    obtain ⟨n, rfl⟩ : ∃ m, n = m + 1 := ⟨n - 1, by omega⟩
    have hv : vp_in (nI i) 256 := vp_in_nI (by omega) (by omega)
    refine br_f (nI_ge (b := 256) (by omega) (by omega)) ⟨hv, ?_⟩
    rw [nI_clamp (n := i) (by omega)]
    refine x_isC ht (fun k ek hk => br_f bd_10 ?_) (fun hno => br_t rfl (nm_r (nI_1 i) (ih (i + 1) (by omega) n (by omega) ar (fun k hk => ?_))))
    · obtain ⟨b1, b2⟩ := bd_lb_C hF (by omega) hk ek
      have hvk : vp_in (nI k) 256 := vp_in_nI (by omega) (by omega)
      rw [ek]
      refine ⟨hv, hvk, hvk, nm_r (congrArg (fun z => upd ar z (ar z + 1)) (nI_clamp (n := k) (by omega))) (nm_r (nI_1 i) (ih (i + 1) (by omega) n (by omega) _ (fun m hm => ?_)))⟩
      by_cases em : m = k
      · subst em
        rw [pk_us, h m hm, bd_ct_t (P := fun j => bd_in W H j ∧ bd_ow W H px L j = m + 1) ⟨b1, b2⟩, nI_1]
      · rw [pk_un em, h m hm, bd_ct_f (P := fun j => bd_in W H j ∧ bd_ow W H px L j = m + 1) (fun z => em (by have := z.2; omega))]
    · rw [h k hk, bd_ct_f (P := fun j => bd_in W H j ∧ bd_ow W H px L j = k + 1) (fun z => hno k (by rw [bd_F_lb hF z.1, z.2]; rfl) hk)]
theorem x_areas {post : SX → Prop} (hF : bd_F W H px L t lb kn pa st) (h0 : ∀ k, k < t → ar k = 0) (hp : ∀ ar, (∀ k, k < t → ar k = bd_fin W H px L kn pa k) → post (nI W, nI H, tr, nI t, px, fl, lb, qu, kn, pa, st, ln, ar, ii)) : wpX_sumAreas post (nI W, nI H, tr, nI t, px, fl, lb, qu, kn, pa, st, ln, ar, ii) :=
  ⟨257, x_sa2 hF hp 256 0 rfl 257 (by omega) ar (fun k hk => h0 k hk)⟩
theorem x_trace {post : Int32 → SX → Prop} (hC : bd_C W H px L) (hfl : ∀ j, 256 ≤ j → fl j = 0)
    (hp : ∀ lb qu ln ar, bd_F W H px L (bd_N W H px L 256) lb (bd_A W H px L (bd_kd W H px L) kn 256) (bd_A W H px L (fun i => bd_cd (bd_pv W H px L i)) pa 256) (bd_A W H px L nI st 256) →
      (∀ c, bd_key W H px L c → ln (bd_N W H px L c) = nI (bd_ct (bd_ed W H px L c) 1024)) →
      (∀ k, k < bd_N W H px L 256 → ar k = bd_fin W H px L (bd_A W H px L (bd_kd W H px L) kn 256) (bd_A W H px L (fun i => bd_cd (bd_pv W H px L i)) pa 256) k) →
      post (nI (bd_N W H px L 256)) (nI W, nI H, 1, nI (bd_N W H px L 256), px, fun _ => 0, lb, qu, bd_A W H px L (bd_kd W H px L) kn 256, bd_A W H px L (fun i => bd_cd (bd_pv W H px L i)) pa 256, bd_A W H px L nI st 256, ln, ar, ii)) :
    wpX_trace post (nI W, nI H, tr, tt, px, fl, lb, qu, kn, pa, st, ln, ar, ii) := by
  unfold wpX_trace
  dsimp only
  refine x_clr ?_ hfl
  dsimp only
  refine x_cll (fun lb h2 => ?_)
  dsimp only
  refine x_out hC h2 (fun lb qu hl => ?_)
  dsimp only
  refine ⟨H + 1, x_tr19 (kn0 := kn) (pa0 := pa) (st0 := st) (ln0 := ln) (ar0 := ar) hC (fun tt lb qu kn' pa' st' ln' ar' hT => ?_) H 0 (by omega) (H + 1) (by omega) _ _ _ _ _ _ _ _ ⟨rfl, fun j hj => hl j hj, rfl, rfl, rfl, rfl, rfl⟩⟩
  obtain ⟨rfl, t2, rfl, rfl, rfl, rfl, rfl⟩ := hT
  have hF : bd_F W H px L (bd_N W H px L 256) lb (bd_A W H px L (bd_kd W H px L) kn 256) (bd_A W H px L (fun i => bd_cd (bd_pv W H px L i)) pa 256) (bd_A W H px L nI st 256) := by
    refine ⟨hC, rfl, t2, fun c hc => ?_⟩
    have h := bd_key_lt hC hc
    exact ⟨bd_A_key hc h, bd_A_key hc h, bd_A_key hc h⟩
  refine x_edges hF (fun c hc => bd_A_key hc (bd_key_lt hC hc)) (fun ln hln => ?_)
  dsimp only
  refine x_areas hF (fun k hk => ?_) (fun ar har => ?_)
  · obtain ⟨c, hc, rfl⟩ := bd_F_c hF hk
    exact bd_A_key hc (bd_key_lt hC hc)
  · exact hp _ _ _ _ hF hln har
end
end
section
/-! toggles and fills: pure pictures, and the component's walks -/
def bd_tg (Q : Nat → Bool) (fl : Nat → Int32) (n : Nat) : Nat → Int32 := fun j => if j < n ∧ Q j = true then 1 - fl j else fl j
theorem bd_tg_0 (Q : Nat → Bool) (fl : Nat → Int32) : bd_tg Q fl 0 = fl := by
  funext j
  exact if_neg (fun z => absurd z.1 (Nat.not_lt_zero j))
theorem bd_tg_ge {Q : Nat → Bool} {fl : Nat → Int32} {n j : Nat} (h : n ≤ j) : bd_tg Q fl n j = fl j := if_neg (fun z => absurd z.1 (by omega))
theorem bd_tg_f {Q : Nat → Bool} {fl : Nat → Int32} {n : Nat} (h : Q n = false) : bd_tg Q fl (n + 1) = bd_tg Q fl n := by
  funext j
  unfold bd_tg
  by_cases e : j = n
  · subst e
    rw [if_neg (fun z => absurd (h.symm.trans z.2) (by decide)), if_neg (fun z => absurd z.1 (by omega))]
  · by_cases z : j < n ∧ Q j = true
    · rw [if_pos z, if_pos ⟨by omega, z.2⟩]
    · rw [if_neg z, if_neg (fun y => z ⟨by omega, y.2⟩)]
theorem bd_tg_t {Q : Nat → Bool} {fl : Nat → Int32} {n : Nat} (h : Q n = true) : upd (bd_tg Q fl n) n (1 - bd_tg Q fl n n) = bd_tg Q fl (n + 1) := by
  funext j
  by_cases e : j = n
  · subst e
    rw [pk_us, bd_tg_ge (Nat.le_refl j)]
    exact (if_pos ⟨by omega, h⟩).symm
  · rw [pk_un e]
    unfold bd_tg
    by_cases z : j < n ∧ Q j = true
    · rw [if_pos z, if_pos ⟨by omega, z.2⟩]
    · rw [if_neg z, if_neg (fun y => z ⟨by omega, y.2⟩)]
/-- is cell j inside contour k -/
def bd_Qk (W H : Nat) (p : Nat → Int32) (L : Nat → Nat) (pa : Nat → Int32) (k j : Nat) : Bool := decide (bd_in W H j) && bd_a (fun i => bd_dc (pa i)) k (bd_ow W H p L j)
def bd_fa (Q : Nat → Nat → Bool) : Nat → Nat → Int32
  | 0 => fun _ => 0
  | k + 1 => bd_tg (Q k) (bd_fa Q k) 256
def bd_sm (fl : Nat → Int32) : Nat → Int32
  | 0 => 0
  | n + 1 => bd_sm fl n + fl n
theorem bd_nb1 : vp_nar .boolean 1 = 1 := rfl
theorem bd_nb0 : vp_nar .boolean 0 = 0 := rfl
section
variable {W H : Nat} {tr tt : Int32} {px fl lb qu kn pa st ln ar ii fg bg : Nat → Int32} {L : Nat → Nat} {t : Nat}
theorem bd_Q_in {k j : Nat} (h : bd_in W H j) : bd_Qk W H px L pa k j = bd_a (fun i => bd_dc (pa i)) k (bd_ow W H px L j) := by
  unfold bd_Qk
  rw [decide_eq_true h, Bool.true_and]
theorem bd_Q_out {k j : Nat} (h : ¬ bd_in W H j) : bd_Qk W H px L pa k j = false := by
  unfold bd_Qk
  rw [decide_eq_false h, Bool.false_and]
theorem x_mk2 {post : SX → Prop} (hF : bd_F W H px L t lb kn pa st) {k : Nat} (hk : k < t) (hp : ∀ ii, (∀ j, j < t → (ii j = 0 ↔ bd_a (fun i => bd_dc (pa i)) k (j + 1) = false)) → post (nI W, nI H, tr, nI t, px, fl, lb, qu, kn, pa, st, ln, ar, ii)) :
    ∀ d i, i + d = t → ∀ n, d < n → ∀ ii, (∀ j, j < i → (ii j = 0 ↔ bd_a (fun i => bd_dc (pa i)) k (j + 1) = false)) → wX_markInterior_2 post (nI k) (nI W) (nI H) tr (nI t) n (nI i) px fl lb qu kn pa st ln ar ii := by
  have ht := bd_F_t hF
  intro d
  induction d with
  | zero =>
    intro i hi n hn ii h
    obtain ⟨n, rfl⟩ : ∃ m, n = m + 1 := ⟨n - 1, by omega⟩
    exact br_t (nI_le (by omega) (by omega)) (hp ii (fun j hj => h j (by omega)))
  | succ d ih =>
    intro i hi n hn ii h
    obtain ⟨n, rfl⟩ : ∃ m, n = m + 1 := ⟨n - 1, by omega⟩
    have hv : vp_in (nI i) 256 := vp_in_nI (by omega) (by omega)
    have hc : (nI i).toNatClampNeg = i := nI_clamp (by omega)
    have next : ∀ x : Int32, (x = 0 ↔ bd_a (fun i => bd_dc (pa i)) k (i + 1) = false) → ∀ a, a = upd ii i x → ∀ z, z = nI i + 1 → wX_markInterior_2 post (nI k) (nI W) (nI H) tr (nI t) n z px fl lb qu kn pa st ln ar a := by
      intro x hx a ea z ez
      rw [ea, ez, nI_1]
      refine ih (i + 1) (by omega) n (by omega) _ (fun j hj => ?_)
      by_cases e : j = i
      · subst e; rw [pk_us]; exact hx
      · rw [pk_un e]; exact h j (by omega)
    have ha := bd_a_s (bd_ppl hF) (k := k) (j := i) (by omega)
    obtain ⟨hpa, hpl⟩ := bd_pp hF (k := i) (by omega)
    refine br_f (nI_ge (by omega) (by omega)) ?_
    rw [hc]
    refine br_c (fun e => ⟨hv, next _ ?_⟩) (fun e => ⟨hv, ?_⟩)
    · rw [nI_eq (by omega) (by omega)] at e
      rw [if_pos e] at ha
      rw [ha]
      exact ⟨fun z => absurd z (by decide), fun z => absurd z (by decide)⟩
    · rw [nI_eq (by omega) (by omega)] at e
      rw [if_neg e] at ha
      refine x_isC ht (fun m em hm => br_f bd_10 ?_) (fun hno => br_t rfl ⟨hv, next _ ?_⟩)
      · have em' := em
        rw [hpa, bd_cd_nI (by omega) (by omega)] at em'
        have hvm : vp_in (nI m) 256 := vp_in_nI (by omega) (by omega)
        have hm' := h m (by omega)
        have ha' : bd_a (fun i => bd_dc (pa i)) k (i + 1) = bd_a (fun i => bd_dc (pa i)) k (m + 1) := by
          rw [ha]
          show bd_a (fun i => bd_dc (pa i)) k (bd_dc (pa i)) = _
          rw [em']
        rw [em, nI_clamp (n := m) (by omega)]
        refine ⟨hv, hvm, br_c (fun z => ⟨hv, next _ ?_⟩) (fun z => ⟨hv, next _ ?_⟩)⟩
        · rw [ha']
          exact ⟨fun _ => hm'.mp z, fun _ => rfl⟩
        · rw [ha']
          exact ⟨fun y => absurd y (by decide), fun y => absurd (hm'.mpr y) z⟩
      · have h0 : bd_dc (pa i) = 0 := by
          rcases Nat.eq_zero_or_pos (bd_dc (pa i)) with z | z
          · exact z
          · refine (hno (bd_dc (pa i) - 1) ?_ (by omega)).elim
            have := (bd_cd_nI (a := bd_dc (pa i)) (k := bd_dc (pa i) - 1) (by omega) (by omega)).mpr (by omega)
            exact hpa.trans this
        have ha' : bd_a (fun i => bd_dc (pa i)) k (i + 1) = false := by
          rw [ha]
          show bd_a (fun i => bd_dc (pa i)) k (bd_dc (pa i)) = _
          rw [h0]
          rfl
        exact ⟨fun _ => ha', fun _ => rfl⟩
theorem x_tg7 {post : SX → Prop} (hF : bd_F W H px L t lb kn pa st) {k : Nat} (hii : ∀ j, j < t → (ii j = 0 ↔ bd_a (fun i => bd_dc (pa i)) k (j + 1) = false)) (hp : post (nI W, nI H, tr, nI t, px, bd_tg (bd_Qk W H px L pa k) fl 256, lb, qu, kn, pa, st, ln, ar, ii)) :
    ∀ d i, i + d = 256 → ∀ n, d < n → wX_toggleInterior_7 post (nI W) (nI H) tr (nI t) n (nI i) px (bd_tg (bd_Qk W H px L pa k) fl i) lb qu kn pa st ln ar ii := by
  have ht := bd_F_t hF
  intro d
  induction d with
  | zero =>
    intro i hi n hn
    obtain ⟨n, rfl⟩ : ∃ m, n = m + 1 := ⟨n - 1, by omega⟩
    have : i = 256 := by omega
    subst this
    exact br_t (nI_le (a := 256) (by omega) (by omega)) hp
  | succ d ih =>
    intro i hi n hn
    obtain ⟨n, rfl⟩ : ∃ m, n = m + 1 := ⟨n - 1, by omega⟩
    have hv : vp_in (nI i) 256 := vp_in_nI (by omega) (by omega)
    have next := ih (i + 1) (by omega) n (by omega)
    refine br_f (nI_ge (b := 256) (by omega) (by omega)) ⟨hv, ?_⟩
    rw [nI_clamp (n := i) (by omega)]
    refine x_isC ht (fun m em hm => br_f bd_10 ?_) (fun hno => br_t rfl (nm_r (nI_1 i) ?_))
    · obtain ⟨b1, b2⟩ := bd_lb_C hF (by omega) hm em
      have hvm : vp_in (nI m) 256 := vp_in_nI (by omega) (by omega)
      have hQ : bd_Qk W H px L pa k i = bd_a (fun i => bd_dc (pa i)) k (m + 1) := by rw [bd_Q_in b1, b2]
      rw [em, nI_clamp (n := m) (by omega)]
      refine ⟨hv, hvm, br_c (fun z => nm_r (nI_1 i) ?_) (fun z => ⟨hv, hv, nm_r (bd_tg_t (hQ.trans ?_)) (nm_r (nI_1 i) next)⟩)⟩
      · rw [bd_tg_f (hQ.trans ((hii m hm).mp z))] at next
        exact next
      · exact eq_true_of_ne_false (fun y => z ((hii m hm).mpr y))
    · have hQ : bd_Qk W H px L pa k i = false := by
        by_cases hin : bd_in W H i
        · have h0 : bd_ow W H px L i = 0 := by
            have hle := bd_F_ow hF hin
            rcases Nat.eq_zero_or_pos (bd_ow W H px L i) with z | z
            · exact z
            · refine (hno (bd_ow W H px L i - 1) ?_ (by omega)).elim
              have := (bd_cd_nI (a := bd_ow W H px L i) (k := bd_ow W H px L i - 1) (by omega) (by omega)).mpr (by omega)
              exact (bd_F_lb hF hin).trans this
          rw [bd_Q_in hin, h0]
          rfl
        · exact bd_Q_out hin
      rw [bd_tg_f hQ] at next
      exact next
theorem x_tog {post : SX → Prop} (hF : bd_F W H px L t lb kn pa st) {k : Nat} (hk : k < t) (hp : ∀ ii, post (nI W, nI H, tr, nI t, px, bd_tg (bd_Qk W H px L pa k) fl 256, lb, qu, kn, pa, st, ln, ar, ii)) : wpX_toggleInterior post (nI W, nI H, tr, nI t, px, fl, lb, qu, kn, pa, st, ln, ar, ii) (nI k) := by
  unfold wpX_toggleInterior
  dsimp only
  refine ⟨t + 1, x_mk2 hF hk (fun ii hii => ⟨257, ?_⟩) t 0 (by omega) (t + 1) (by omega) ii (fun j hj => absurd hj (Nat.not_lt_zero j))⟩
  have := x_tg7 (qu := qu) (ln := ln) (ar := ar) (tr := tr) (fl := fl) (post := post) hF hii (hp ii) 256 0 rfl 257 (by omega)
  rw [bd_tg_0] at this
  exact this
theorem x_cf4 {post : Int32 → Prop} (hp : post (bd_sm fl 256)) : ∀ d i, i + d = 256 → ∀ n, d < n → wX_countFilled_4 post (nI W) (nI H) tr tt px fl lb qu kn pa st ln ar ii n (bd_sm fl i) (nI i) := by
  intro d
  induction d with
  | zero =>
    intro i hi n hn
    obtain ⟨n, rfl⟩ : ∃ m, n = m + 1 := ⟨n - 1, by omega⟩
    have : i = 256 := by omega
    subst this
    exact br_t (nI_le (a := 256) (by omega) (by omega)) hp
  | succ d ih =>
    intro i hi n hn
    obtain ⟨n, rfl⟩ : ∃ m, n = m + 1 := ⟨n - 1, by omega⟩
    refine br_f (nI_ge (b := 256) (by omega) (by omega)) ⟨vp_in_nI (by omega) (by omega), nm_r (congrArg (fun z => bd_sm fl i + fl z) (nI_clamp (n := i) (by omega))) (nm_r (nI_1 i) (ih (i + 1) (by omega) n (by omega)))⟩
theorem x_cf {post : Int32 → Prop} (hp : post (bd_sm fl 256)) : wpX_countFilled post (nI W, nI H, tr, tt, px, fl, lb, qu, kn, pa, st, ln, ar, ii) := ⟨257, x_cf4 hp 256 0 rfl 257 (by omega)⟩
theorem x_fa15 {post : Int32 → SX → Prop} (hF : bd_F W H px L t lb kn pa st) (hp : ∀ ii, post (bd_sm (bd_fa (bd_Qk W H px L pa) t) 256) (nI W, nI H, tr, nI t, px, bd_fa (bd_Qk W H px L pa) t, lb, qu, kn, pa, st, ln, ar, ii)) :
    ∀ d k, k + d = t → ∀ n, d < n → ∀ ii, wX_fillAll_15 post n (nI k) (nI W) (nI H) tr (nI t) px (bd_fa (bd_Qk W H px L pa) k) lb qu kn pa st ln ar ii := by
  have ht := bd_F_t hF
  intro d
  induction d with
  | zero =>
    intro k hk n hn ii
    obtain ⟨n, rfl⟩ : ∃ m, n = m + 1 := ⟨n - 1, by omega⟩
    have : k = t := by omega
    subst this
    exact br_t (nI_le (by omega) (by omega)) (x_cf (hp ii))
  | succ d ih =>
    intro k hk n hn ii
    obtain ⟨n, rfl⟩ : ∃ m, n = m + 1 := ⟨n - 1, by omega⟩
    exact br_f (nI_ge (by omega) (by omega)) (x_tog hF (by omega) (fun ii => nm_r (nI_1 k) (ih (k + 1) (by omega) n (by omega) ii)))
theorem x_fill {post : Int32 → SX → Prop} (hF : bd_F W H px L t lb kn pa st) (htr : ¬ tr = 0) (hfl : ∀ j, 256 ≤ j → fl j = 0) (hp : ∀ ii, post (bd_sm (bd_fa (bd_Qk W H px L pa) t) 256) (nI W, nI H, tr, nI t, px, bd_fa (bd_Qk W H px L pa) t, lb, qu, kn, pa, st, ln, ar, ii)) :
    wpX_fillAll post (nI W, nI H, tr, nI t, px, fl, lb, qu, kn, pa, st, ln, ar, ii) :=
  br_f htr (x_clr ⟨t + 1, x_fa15 hF hp t 0 (by omega) (t + 1) (by omega) ii⟩ hfl)
end
end
section
/-! the reference's relaxation -/
theorem bd_cd1 : ∀ a : Nat, bd_cd a + 1 = bd_cd (a + 1)
  | 0 => by decide +kernel
  | a + 1 => nI_1 a
theorem bd_cd_0' {a : Nat} (h : a < 2 ^ 31) : bd_cd a = 0 ↔ a = 1 := bd_cd_eq (b := 1) h (by decide)
def bd_St (W H : Nat) (p fg bg : Nat → Int32) (s : Nat → Nat) : Prop := ∀ i, bd_in W H i → (p i = 1 → fg i = bd_cd (s i)) ∧ (p i = 0 → bg i = bd_cd (s i)) ∧ s i ≤ i + 1
/-- what the walk over the neighbours of i knows before the neighbour with steps e, d (plus one) -/
def bd_IR (W H : Nat) (p : Nat → Int32) (L s : Nat → Nat) (i e d m : Nat) : Prop :=
  L i ≤ m ∧ m ≤ s i ∧ ∀ q, bd_adj W H p i q → (q / 16 + 1 < i / 16 + e ∨ (q / 16 + 1 = i / 16 + e ∧ q % 16 + 1 < i % 16 + d)) → m ≤ s q
section
variable {W H : Nat} {tr tt : Int32} {px fl lb qu kn pa st ln ar ii fg bg : Nat → Int32} {L s : Nat → Nat} {i : Nat}
theorem bd_IR_no {e d m : Nat} (h : bd_IR W H px L s i e d m) (hn : ∀ q, bd_adj W H px i q → q / 16 + 1 = i / 16 + e → q % 16 + 1 = i % 16 + d → m ≤ s q) : bd_IR W H px L s i e (d + 1) m := by
  refine ⟨h.1, h.2.1, fun q hq z => ?_⟩
  rcases z with z | ⟨z1, z2⟩
  · exact h.2.2 q hq (Or.inl z)
  · by_cases y : q % 16 + 1 = i % 16 + d
    · exact hn q hq z1 y
    · exact h.2.2 q hq (Or.inr ⟨z1, by omega⟩)
theorem bd_IR_min {e d m m' : Nat} (h : bd_IR W H px L s i e d m) (h1 : m' ≤ m) (h2 : L i ≤ m') : bd_IR W H px L s i e d m' :=
  ⟨h2, by have := h.2.1; omega, fun q hq z => by have := h.2.2 q hq z; omega⟩
theorem y_rx100 {post : Int32 → SY → Prop} {J54 J63 : Int32 → Int32 → Prop} (hC : bd_C W H px L) (hS : bd_St W H px fg bg s) (hlo : bd_lo W H L s) (hi : bd_in W H i) {e d m : Nat} (he : e ≤ 2) (hd : d ≤ 2)
    (hI : bd_IR W H px L s i e d m) (hdg : px i = 0 → e = 1 ∨ d = 1) (hJ : ∀ m, bd_IR W H px L s i e (d + 1) m → J63 (bd_cd m) (bd_cd (d + 1))) :
    wY_relax_100 post J54 J63 (nI i) (nI (i % 16)) (nI (i / 16)) (px i) (bd_cd m) (bd_cd e) (bd_cd d) (nI W) (nI H) tr tt px fl fg bg kn st pa := by
  have hW := hC.2.1
  have hH := hC.2.2.2.1
  have hi256 := bd_in_lt hC hi
  have hm : m ≤ 256 := by
    have := hI.2.1
    have := (hS i hi).2.2
    omega
  have keep : (∀ q, bd_adj W H px i q → q / 16 + 1 = i / 16 + e → q % 16 + 1 = i % 16 + d → False) → ∀ z, z = bd_cd d + 1 → J63 (bd_cd m) z := by
    intro hn z ez
    rw [ez, bd_cd1]
    exact hJ m (bd_IR_no hI (fun q a b c => (hn q a b c).elim))
  refine nm_r (bd_add _ d) (nm_r (bd_add _ e) (y_pix hW hH (fun a b ea eb ha hb => br_f bd_10 ?_) (fun hno => br_t rfl (keep (fun q h1 h2 h3 => ?_)))))
  · rw [bd_cd_nI (by omega) (by omega)] at ea eb
    have hq : bd_in W H (b * 16 + a) := ⟨by omega, by omega⟩
    have hq2 := (hS _ hq).2.2
    have hv : vp_in (nI (b * 16 + a)) 256 := vp_in_nI (by omega) (by omega)
    rw [ea, eb, bd_cd_s, bd_cd_s]
    refine nm_r (bd_ri a b) ⟨hv, ?_⟩
    rw [nI_clamp (by omega)]
    refine br_c (fun e1 => ?_) (fun e1 => keep (fun q h1 h2 h3 => e1 ?_))
    · have hadj : bd_adj W H px i (b * 16 + a) := ⟨hi, hq, e1.symm, ⟨by omega, by omega, by omega, by omega⟩, fun z => by
        rcases hdg z with y | y
        · exact Or.inr (by omega)
        · exact Or.inl (by omega)⟩
      have hL := bd_L_adj hC hadj
      have hlq := hlo _ hq
      have fin : wY_relax_174 post J54 J63 (nI i) (nI (i % 16)) (nI (i / 16)) (px i) (bd_cd m) (bd_cd e) (bd_cd d) (bd_cd (s (b * 16 + a))) (nI W) (nI H) tr tt px fl fg bg kn st pa := by
        have pos : ∀ q, bd_adj W H px i q → q / 16 + 1 = i / 16 + e → q % 16 + 1 = i % 16 + d → q = b * 16 + a := fun q _ h2 h3 => by omega
        refine br_c (fun z => nm_r (bd_cd1 d) (hJ m (bd_IR_no hI (fun q h1 h2 h3 => ?_)))) (fun z => nm_r (bd_cd1 d) (hJ _ (bd_IR_no (bd_IR_min hI ?_ (by omega)) (fun q h1 h2 h3 => ?_))))
        · rw [bd_cd_le (by omega) (by omega)] at z
          rw [pos q h1 h2 h3]
          exact z
        · rw [bd_cd_le (by omega) (by omega)] at z
          omega
        · rw [pos q h1 h2 h3]
          exact Nat.le_refl _
      refine br_c (fun z => ⟨hv, ?_⟩) (fun z => ⟨hv, ?_⟩)
      · rw [(hS _ hq).1 (e1.trans z)]
        exact fin
      · rw [(hS _ hq).2.1 (e1.trans ((hC.2.2.2.2.1 i).resolve_right z))]
        exact fin
    · have : q = b * 16 + a := by omega
      rw [← this]
      exact h1.2.2.1.symm
  · have hqi := h1.2.1
    exact hno (q % 16) (q / 16) (by rw [← h3]; rfl) (by rw [← h2]; rfl) hqi.1 hqi.2
theorem y_rx82 {post : Int32 → SY → Prop} {J54 J63 : Int32 → Int32 → Prop} (hC : bd_C W H px L) (hS : bd_St W H px fg bg s) (hlo : bd_lo W H L s) (hi : bd_in W H i) {e d m : Nat} (he : e ≤ 2) (hd : d ≤ 2)
    (hI : bd_IR W H px L s i e d m) (hJ : ∀ m, bd_IR W H px L s i e (d + 1) m → J63 (bd_cd m) (bd_cd (d + 1))) :
    wY_relax_82 post J54 J63 (nI i) (nI (i % 16)) (nI (i / 16)) (px i) (bd_cd m) (bd_cd e) (bd_cd d) (nI W) (nI H) tr tt px fl fg bg kn st pa := by
  have go : (px i = 0 → e = 1 ∨ d = 1) → wY_relax_100 post J54 J63 (nI i) (nI (i % 16)) (nI (i / 16)) (px i) (bd_cd m) (bd_cd e) (bd_cd d) (nI W) (nI H) tr tt px fl fg bg kn st pa := fun h => y_rx100 hC hS hlo hi he hd hI h hJ
  refine br_c (fun z => br_c (fun y => go (fun _ => Or.inr ((bd_cd_0' (by omega)).mp y))) (fun y => br_c (fun x => go (fun _ => Or.inl ((bd_cd_0' (by omega)).mp x))) (fun x => nm_r (bd_cd1 d) (hJ m (bd_IR_no hI (fun q h1 h2 h3 => ?_)))))) (fun z => go (fun y => absurd y z))
  rw [bd_cd_0' (by omega)] at x y
  rcases h1.2.2.2.2 z with w | w
  · exact absurd w (by omega)
  · exact absurd w (by omega)
theorem y_rx63 {post : Int32 → SY → Prop} {J54 : Int32 → Int32 → Prop} (hC : bd_C W H px L) (hS : bd_St W H px fg bg s) (hlo : bd_lo W H L s) (hi : bd_in W H i) {e : Nat} (he : e ≤ 2)
    (hJ : ∀ m, bd_IR W H px L s i (e + 1) 0 m → J54 (bd_cd m) (bd_cd (e + 1))) :
    ∀ r d, d + r = 3 → ∀ n, r < n → ∀ m, bd_IR W H px L s i e d m → wY_relax_63 post J54 (nI i) (nI (i % 16)) (nI (i / 16)) (px i) (bd_cd e) (nI W) (nI H) tr tt px fl fg bg kn st pa n (bd_cd m) (bd_cd d) := by
  intro r
  induction r with
  | zero =>
    intro d hd n hn m hI
    obtain ⟨n, rfl⟩ : ∃ m, n = m + 1 := ⟨n - 1, by omega⟩
    have : d = 3 := by omega
    subst this
    refine br_t (by decide) (nm_r (bd_cd1 e) (hJ m ⟨hI.1, hI.2.1, fun q hq z => hI.2.2 q hq ?_⟩))
    obtain ⟨_, _, _, ⟨a1, a2, a3, a4⟩, _⟩ := hq
    omega
  | succ r ih =>
    intro d hd n hn m hI
    obtain ⟨n, rfl⟩ : ∃ m, n = m + 1 := ⟨n - 1, by omega⟩
    have h2 : ¬ (1 : Int32) < bd_cd d := by
      show ¬ bd_cd 2 < bd_cd d
      rw [bd_cd_lt (by omega) (by omega)]
      omega
    have next : ∀ m, bd_IR W H px L s i e (d + 1) m → wY_relax_63 post J54 (nI i) (nI (i % 16)) (nI (i / 16)) (px i) (bd_cd e) (nI W) (nI H) tr tt px fl fg bg kn st pa n (bd_cd m) (bd_cd (d + 1)) := fun m h => ih (d + 1) (by omega) n (by omega) m h
    have go : wY_relax_82 post J54 (wY_relax_63 post J54 (nI i) (nI (i % 16)) (nI (i / 16)) (px i) (bd_cd e) (nI W) (nI H) tr tt px fl fg bg kn st pa n) (nI i) (nI (i % 16)) (nI (i / 16)) (px i) (bd_cd m) (bd_cd e) (bd_cd d) (nI W) (nI H) tr tt px fl fg bg kn st pa := y_rx82 hC hS hlo hi he (by omega) hI next
    refine br_f h2 (br_c (fun z => br_c (fun y => nm_r (bd_cd1 d) (next m (bd_IR_no hI (fun q h1 h2 h3 => ?_)))) (fun _ => go)) (fun _ => go))
    rw [bd_cd_0' (by omega)] at z y
    have : q = i := by omega
    rw [this]
    exact hI.2.1
theorem y_rx54 {post : Int32 → SY → Prop} (hC : bd_C W H px L) (hS : bd_St W H px fg bg s) (hlo : bd_lo W H L s) (hi : bd_in W H i)
    (hp : ∀ r fg' bg' s', bd_St W H px fg' bg' s' → (∀ j, j ≠ i → s' j = s j) → L i ≤ s' i → s' i ≤ s i → (∀ q, bd_adj W H px i q → s' i ≤ s q) → ((r = 0 ∧ s' = s) ∨ r = 1) → post r (nI W, nI H, tr, tt, px, fl, fg', bg', kn, st, pa)) :
    ∀ r e, e + r = 3 → ∀ n, r < n → ∀ m, bd_IR W H px L s i e 0 m → wY_relax_54 post (nI i) (nI (i % 16)) (nI (i / 16)) (px i) (nI W) (nI H) tr tt px fl fg bg kn st pa n (bd_cd m) (bd_cd e) := by
  have hi256 := bd_in_lt hC hi
  intro r
  induction r with
  | zero =>
    intro e he n hn m hI
    obtain ⟨n, rfl⟩ : ∃ m, n = m + 1 := ⟨n - 1, by omega⟩
    have : e = 3 := by omega
    subst this
    obtain ⟨i1, i2, i3⟩ := hI
    have hv : vp_in (nI i) 256 := vp_in_nI hi256 (by omega)
    have hc : (nI i).toNatClampNeg = i := nI_clamp (by omega)
    have hsi := (hS i hi).2.2
    have hq : ∀ q, bd_adj W H px i q → m ≤ s q := fun q hq => i3 q hq (by
      obtain ⟨_, _, _, ⟨a1, a2, a3, a4⟩, _⟩ := hq
      omega)
    have h0 : s i ≤ m → post 0 (nI W, nI H, tr, tt, px, fl, fg, bg, kn, st, pa) := fun z => by
      have : m = s i := by omega
      subst this
      exact hp 0 fg bg s hS (fun _ _ => rfl) i1 (Nat.le_refl _) hq (Or.inl ⟨rfl, rfl⟩)
    have hs' : ∀ j, (if j = i then m else s j) = if j = i then m else s j := fun _ => rfl
    refine br_t (by decide) ?_
    rw [hc]
    refine br_c (fun e1 => ⟨hv, ?_⟩) (fun e1 => ⟨hv, ?_⟩)
    · rw [(hS i hi).1 e1]
      refine br_c (fun z => h0 ((bd_cd_le (by omega) (by omega)).mp z)) (fun z => ⟨hv, nm_e (hp 1 _ bg (fun j => if j = i then m else s j) (fun j hj => ?_) (fun j hj => if_neg hj) ?_ ?_ ?_ (Or.inr rfl))⟩)
      · by_cases ej : j = i
        · subst ej
          refine ⟨fun _ => ?_, fun y => absurd (y.symm.trans e1) bd_01, ?_⟩
          · rw [pk_us]
            show bd_cd m = bd_cd (if j = j then m else s j)
            rw [if_pos rfl]
          · show (if j = j then m else s j) ≤ j + 1
            rw [if_pos rfl]; omega
        · show (px j = 1 → upd fg i (bd_cd m) j = bd_cd (if j = i then m else s j)) ∧ (px j = 0 → bg j = bd_cd (if j = i then m else s j)) ∧ (if j = i then m else s j) ≤ j + 1
          rw [if_neg ej, pk_un ej]
          exact hS j hj
      · show L i ≤ if i = i then m else s i
        rw [if_pos rfl]; exact i1
      · show (if i = i then m else s i) ≤ s i
        rw [if_pos rfl]; exact i2
      · intro q hq'
        show (if i = i then m else s i) ≤ s q
        rw [if_pos rfl]; exact hq q hq'
    · have e0 : px i = 0 := (hC.2.2.2.2.1 i).resolve_right e1
      rw [(hS i hi).2.1 e0]
      refine br_c (fun z => h0 ((bd_cd_le (by omega) (by omega)).mp z)) (fun z => ⟨hv, nm_e (hp 1 fg _ (fun j => if j = i then m else s j) (fun j hj => ?_) (fun j hj => if_neg hj) ?_ ?_ ?_ (Or.inr rfl))⟩)
      · by_cases ej : j = i
        · subst ej
          refine ⟨fun y => absurd y e1, fun _ => ?_, ?_⟩
          · rw [pk_us]
            show bd_cd m = bd_cd (if j = j then m else s j)
            rw [if_pos rfl]
          · show (if j = j then m else s j) ≤ j + 1
            rw [if_pos rfl]; omega
        · show (px j = 1 → fg j = bd_cd (if j = i then m else s j)) ∧ (px j = 0 → upd bg i (bd_cd m) j = bd_cd (if j = i then m else s j)) ∧ (if j = i then m else s j) ≤ j + 1
          rw [if_neg ej, pk_un ej]
          exact hS j hj
      · show L i ≤ if i = i then m else s i
        rw [if_pos rfl]; exact i1
      · show (if i = i then m else s i) ≤ s i
        rw [if_pos rfl]; exact i2
      · intro q hq'
        show (if i = i then m else s i) ≤ s q
        rw [if_pos rfl]; exact hq q hq'
  | succ r ih =>
    intro e he n hn m hI
    obtain ⟨n, rfl⟩ : ∃ m, n = m + 1 := ⟨n - 1, by omega⟩
    have h2 : ¬ (1 : Int32) < bd_cd e := by
      show ¬ bd_cd 2 < bd_cd e
      rw [bd_cd_lt (by omega) (by omega)]
      omega
    exact br_f h2 ⟨4, y_rx63 hC hS hlo hi (by omega) (fun m h => ih (e + 1) (by omega) n (by omega) m h) 3 0 rfl 4 (by omega) m hI⟩
theorem y_rx {post : Int32 → SY → Prop} (hC : bd_C W H px L) (hS : bd_St W H px fg bg s) (hlo : bd_lo W H L s) (hi : i < 256)
    (hp : ∀ r fg' bg' s', bd_St W H px fg' bg' s' → (∀ j, j ≠ i → s' j = s j) → (bd_in W H i → L i ≤ s' i ∧ s' i ≤ s i ∧ ∀ q, bd_adj W H px i q → s' i ≤ s q) → ((r = 0 ∧ s' = s) ∨ r = 1) → post r (nI W, nI H, tr, tt, px, fl, fg', bg', kn, st, pa)) :
    wpY_relax post (nI W, nI H, tr, tt, px, fl, fg, bg, kn, st, pa) (nI i) := by
  have hW := hC.2.1
  have hH := hC.2.2.2.1
  have hv : vp_in (nI i) 256 := vp_in_nI hi (by omega)
  refine nm_r (bd_m15 hi) (nm_r (bd_s4 hi) (y_pix hW hH (fun a b ea eb ha hb => br_f bd_10 ⟨hv, nm_r (congrArg px (nI_clamp (n := i) (by omega))) ?_⟩) (fun hno => br_t rfl (hp 0 fg bg s hS (fun _ _ => rfl) (fun z => (hno _ _ rfl rfl z.1 z.2).elim) (Or.inl ⟨rfl, rfl⟩)))))
  rw [nI_eq (by omega) (by omega)] at ea eb
  have hin : bd_in W H i := ⟨by omega, by omega⟩
  have h0 : bd_IR W H px L s i 0 0 (s i) := by
    refine ⟨hlo i hin, Nat.le_refl _, fun q hq z => ?_⟩
    obtain ⟨_, _, _, ⟨a1, a2, a3, a4⟩, _⟩ := hq
    omega
  have main : wY_relax_54 post (nI i) (nI (i % 16)) (nI (i / 16)) (px i) (nI W) (nI H) tr tt px fl fg bg kn st pa 4 (bd_cd (s i)) (-1) :=
    y_rx54 hC hS hlo hin (fun r fg' bg' s' a b c d e f => hp r fg' bg' s' a b (fun _ => ⟨c, d, e⟩) f) 3 0 rfl 4 (by omega) (s i) h0
  refine br_c (fun z => ⟨hv, nm_r ((congrArg fg (nI_clamp (n := i) (by omega))).trans ((hS i hin).1 z)) ⟨4, main⟩⟩) (fun z => ⟨hv, nm_r ((congrArg bg (nI_clamp (n := i) (by omega))).trans ((hS i hin).2.1 ((hC.2.2.2.2.1 i).resolve_right z))) ⟨4, main⟩⟩)
end
end
section
/-! the reference's trace -/
def bd_s0 (W H : Nat) (p : Nat → Int32) (i : Nat) : Nat := if p i = 0 ∧ bd_rim W H i then 0 else i + 1
/-- the reference's labels are the pure ones -/
def bd_G (W H : Nat) (p : Nat → Int32) (L : Nat → Nat) (fg bg : Nat → Int32) : Prop := ∀ i, bd_in W H i → (p i = 1 → fg i = bd_cd (L i)) ∧ (p i = 0 → bg i = bd_cd (L i))
section
variable {W H : Nat} {tr tt : Int32} {px fl lb qu kn pa st ln ar ii fg bg : Nat → Int32} {L : Nat → Nat}
theorem bd_G_of {s : Nat → Nat} (hS : bd_St W H px fg bg s) (h : ∀ i, bd_in W H i → s i = L i) : bd_G W H px L fg bg := by
  intro i hi
  have := hS i hi
  rw [h i hi] at this
  exact ⟨this.1, this.2.1⟩
theorem y_p152 {post : Int32 → SY → Prop} {J : Int32 → Int32 → Int32 → Int32 → Int32 → (Nat → Int32) → (Nat → Int32) → (Nat → Int32) → (Nat → Int32) → (Nat → Int32) → (Nat → Int32) → (Nat → Int32) → Prop}
    (hC : bd_C W H px L) {s0 : Nat → Nat} {t : Nat} (hlo : bd_lo W H L s0) (hsrc : bd_src W H px s0)
    (hE : ∀ fg bg, bd_G W H px L fg bg → ∃ n, wY_trace_195 post (nI W) (nI H) tr n 0 0 px fl fg bg kn st pa)
    (hJ : ∀ fg bg s, bd_St W H px fg bg s → bd_pass W H px L s0 s → J (nI (t + 1)) (nI W) (nI H) tr tt px fl fg bg kn st pa) :
    ∀ e i, i + e = 256 → ∀ n, e < n → ∀ fg bg s ch, bd_St W H px fg bg s → (∀ j, bd_in W H j → L j ≤ s j ∧ s j ≤ s0 j) → (∀ j, j < i → ∀ q, bd_adj W H px j q → s j ≤ s0 q) → (ch = 0 → s = s0) →
      wY_trace_152 post J (nI t) n ch (nI i) (nI W) (nI H) tr tt px fl fg bg kn st pa := by
  intro e
  induction e with
  | zero =>
    intro i hi n hn fg bg s ch hS h1 h2 h3
    obtain ⟨n, rfl⟩ : ∃ m, n = m + 1 := ⟨n - 1, by omega⟩
    have hps : bd_pass W H px L s0 s := ⟨h1, fun j q hq => h2 j (by have := bd_in_lt hC hq.1; omega) q hq⟩
    refine br_t (nI_le (a := 256) (by omega) (by omega)) (br_c (fun z => hE fg bg (bd_G_of hS ?_)) (fun z => nm_r (nI_1 t) (hJ fg bg s hS hps)))
    have := h3 z
    subst this
    exact fun i hi => bd_pass_fix hC hlo hsrc hps (fun _ _ => rfl) hi
  | succ e ih =>
    intro i hi n hn fg bg s ch hS h1 h2 h3
    obtain ⟨n, rfl⟩ : ∃ m, n = m + 1 := ⟨n - 1, by omega⟩
    refine br_f (nI_ge (b := 256) (by omega) (by omega)) (y_rx hC hS (fun j hj => (h1 j hj).1) (by omega) (fun r fg' bg' s' a1 a2 a3 a4 => ?_))
    have b1 : ∀ j, bd_in W H j → L j ≤ s' j ∧ s' j ≤ s0 j := by
      intro j hj
      by_cases ej : j = i
      · subst ej
        have := a3 hj
        have := h1 j hj
        omega
      · rw [a2 j ej]; exact h1 j hj
    have b2 : ∀ j, j < i + 1 → ∀ q, bd_adj W H px j q → s' j ≤ s0 q := by
      intro j hj q hq
      by_cases ej : j = i
      · subst ej
        have c1 := (a3 hq.1).2.2 q hq
        have c2 := (h1 q hq.2.1).2
        omega
      · rw [a2 j ej]; exact h2 j (by omega) q hq
    dsimp only
    rcases a4 with ⟨rfl, rfl⟩ | rfl
    · exact br_t rfl (nm_r (nI_1 i) (ih (i + 1) (by omega) n (by omega) fg' bg' s' ch a1 b1 b2 h3))
    · exact br_f bd_10 (nm_r (nI_1 i) (ih (i + 1) (by omega) n (by omega) fg' bg' s' 1 a1 b1 b2 (fun z => absurd z bd_10)))
theorem y_t141 {post : Int32 → SY → Prop} (hC : bd_C W H px L) (hE : ∀ fg bg, bd_G W H px L fg bg → ∃ n, wY_trace_195 post (nI W) (nI H) tr n 0 0 px fl fg bg kn st pa) :
    ∀ e t, t + e = 300 → ∀ n, e < n → ∀ fg bg s, bd_St W H px fg bg s → bd_lo W H L s → bd_src W H px s → (bd_nf W H L s = 0 ∨ t + bd_nf W H L s ≤ 256) → wY_trace_141 post n (nI t) (nI W) (nI H) tr tt px fl fg bg kn st pa := by
  intro e
  induction e with
  | zero =>
    intro t ht n hn fg bg s hS hlo hsrc hnf
    obtain ⟨n, rfl⟩ : ∃ m, n = m + 1 := ⟨n - 1, by omega⟩
    exact br_t (nI_le (a := 300) (by omega) (by omega)) (hE fg bg (bd_G_of hS (fun i hi => bd_nf_0 hC (by omega) hi)))
  | succ e ih =>
    intro t ht n hn fg bg s hS hlo hsrc hnf
    obtain ⟨n, rfl⟩ : ∃ m, n = m + 1 := ⟨n - 1, by omega⟩
    refine br_f (nI_ge (b := 300) (by omega) (by omega)) ⟨257, y_p152 hC hlo hsrc hE (fun fg bg s' hS' hps => ?_) 256 0 rfl 257 (by omega) fg bg s 0 hS (fun j hj => ⟨hlo j hj, Nat.le_refl _⟩) (fun j hj => absurd hj (Nat.not_lt_zero j)) (fun _ => rfl)⟩
    exact ih (t + 1) (by omega) n (by omega) fg bg s' hS' (bd_pass_lo hps) (bd_pass_src hps hsrc) (bd_pass_nf hC hlo hsrc hps hnf)
theorem y_t24 {post : Int32 → SY → Prop} (hC : bd_C W H px L) (hp : ∀ fg bg, bd_St W H px fg bg (bd_s0 W H px) → ∃ n, wY_trace_141 post n 0 (nI W) (nI H) tr tt px fl fg bg kn st pa) :
    ∀ e i, i + e = 256 → ∀ n, e < n → ∀ fg bg, (∀ j, j < i → bd_in W H j → (px j = 1 → fg j = bd_cd (bd_s0 W H px j)) ∧ (px j = 0 → bg j = bd_cd (bd_s0 W H px j))) → wY_trace_24 post (nI W) (nI H) tr tt n (nI i) px fl fg bg kn st pa := by
  have hW := hC.2.1
  have hH := hC.2.2.2.1
  intro e
  induction e with
  | zero =>
    intro i hi n hn fg bg h
    obtain ⟨n, rfl⟩ : ∃ m, n = m + 1 := ⟨n - 1, by omega⟩
    refine br_t (nI_le (a := 256) (by omega) (by omega)) (hp fg bg (fun j hj => ⟨(h j ?_ hj).1, (h j ?_ hj).2, ?_⟩))
    · have := bd_in_lt hC hj; omega
    · have := bd_in_lt hC hj; omega
    · unfold bd_s0
      by_cases z : px j = 0 ∧ bd_rim W H j
      · rw [if_pos z]; omega
      · rw [if_neg z]; omega
  | succ e ih =>
    intro i hi n hn fg bg h
    obtain ⟨n, rfl⟩ : ∃ m, n = m + 1 := ⟨n - 1, by omega⟩
    have hv : vp_in (nI i) 256 := vp_in_nI (by omega) (by omega)
    have hc : (nI i).toNatClampNeg = i := nI_clamp (by omega)
    have next : ∀ fg' bg' : Nat → Int32, (∀ j, j ≠ i → fg' j = fg j) → (∀ j, j ≠ i → bg' j = bg j) → (bd_in W H i → (px i = 1 → fg' i = bd_cd (bd_s0 W H px i)) ∧ (px i = 0 → bg' i = bd_cd (bd_s0 W H px i))) → ∀ z, z = nI i + 1 → wY_trace_24 post (nI W) (nI H) tr tt n z px fl fg' bg' kn st pa := by
      intro fg' bg' a1 a2 a3 z ez
      rw [ez, nI_1]
      refine ih (i + 1) (by omega) n (by omega) fg' bg' (fun j hj hji => ?_)
      by_cases ej : j = i
      · subst ej; exact a3 hji
      · rw [a1 j ej, a2 j ej]; exact h j (by omega) hji
    refine br_f (nI_ge (b := 256) (by omega) (by omega)) (nm_r (bd_m15 (by omega)) (nm_r (bd_s4 (by omega)) ⟨hv, nm_r (congrArg (fun z => upd fg z (-2)) hc) ⟨hv, nm_r (congrArg (fun z => upd bg z (-2)) hc) (y_pix hW hH (fun a b ea eb ha hb => br_f bd_10 ⟨hv, ?_⟩) (fun hno => br_t rfl (next _ _ (fun j hj => pk_un hj) (fun j hj => pk_un hj) (fun z => (hno _ _ rfl rfl z.1 z.2).elim))))⟩⟩))
    rw [nI_eq (by omega) (by omega)] at ea eb
    have hin : bd_in W H i := ⟨by omega, by omega⟩
    have e1 : nI W - 1 = nI (W - 1) := by
      have := hC.1
      rw [show (1 : Int32) = nI 1 from rfl, pk_sub (by omega)]
    have e2 : nI H - 1 = nI (H - 1) := by
      have := hC.2.2.1
      rw [show (1 : Int32) = nI 1 from rfl, pk_sub (by omega)]
    rw [hc, e1, e2]
    have uu : ∀ (f : Nat → Int32) (x y : Int32) (j : Nat), j ≠ i → upd (upd f i x) i y j = f j := fun f x y j hj => (pk_un hj).trans (pk_un hj)
    refine br_c (fun z => ⟨hv, nm_e (next _ _ (uu fg _ _) (fun j hj => pk_un hj) (fun _ => ⟨fun _ => ?_, fun y => absurd (y.symm.trans z) bd_01⟩))⟩) (fun z => ?_)
    · rw [pk_us]
      unfold bd_s0
      rw [if_neg (fun y => bd_01 (y.1.symm.trans z))]
      rfl
    · have z0 : px i = 0 := (hC.2.2.2.2.1 i).resolve_right z
      have rim : bd_rim W H i → wY_trace_116 post (wY_trace_24 post (nI W) (nI H) tr tt n) (nI i) (nI W) (nI H) tr tt px fl (upd fg i (-2)) (upd bg i (-2)) kn st pa := by
        intro hr
        refine ⟨hv, nm_r (congrArg (fun z => upd (upd bg i (-2)) z (-1)) hc) (next _ _ (fun j hj => pk_un hj) (uu bg _ _) (fun _ => ⟨fun y => absurd y z, fun _ => ?_⟩))⟩
        rw [pk_us]
        unfold bd_s0
        rw [if_pos ⟨z0, hr⟩]
        rfl
      refine pk_eq (i % 16) 0 (fun w => rim (Or.inl w)) (fun w1 => pk_eq (i / 16) 0 (fun w => rim (Or.inr (Or.inl w))) (fun w2 => pk_eq (i % 16) (W - 1) (fun w => rim (by omega)) (fun w3 => pk_eq (i / 16) (H - 1) (fun w => rim (by omega)) (fun w4 => ⟨hv, nm_e (next _ _ (fun j hj => pk_un hj) (uu bg _ _) (fun _ => ⟨fun y => absurd y z, fun _ => ?_⟩))⟩))))
      rw [pk_us]
      unfold bd_s0
      rw [if_neg (fun y => by have := y.2; omega)]
      rfl
theorem y_t2 {post : Int32 → SY → Prop} (h : ∃ n, wY_trace_24 post (nI W) (nI H) tr tt n 0 px (fun _ => 0) fg bg kn st pa) : ∀ d i, i + d = 256 → ∀ n, d < n → ∀ fl : Nat → Int32, (∀ j, j < i → fl j = 0) → (∀ j, 256 ≤ j → fl j = 0) → wY_trace_2 post (nI W) (nI H) tr tt n (nI i) px fl fg bg kn st pa := by
  intro d
  induction d with
  | zero =>
    intro i hi n hn fl h0 h1
    obtain ⟨n, rfl⟩ : ∃ m, n = m + 1 := ⟨n - 1, by omega⟩
    have e : fl = fun _ => 0 := by
      funext j
      rcases Nat.lt_or_ge j 256 with z | z
      · exact h0 j (by omega)
      · exact h1 j z
    subst e
    exact br_t (nI_le (a := 256) (by omega) (by omega)) h
  | succ d ih =>
    intro i hi n hn fl h0 h1
    obtain ⟨n, rfl⟩ : ∃ m, n = m + 1 := ⟨n - 1, by omega⟩
    refine br_f (nI_ge (b := 256) (by omega) (by omega)) ⟨vp_in_nI (by omega) (by omega), nm_r (congrArg (fun z => upd fl z 0) (nI_clamp (by omega))) (nm_r (nI_1 i) (ih (i + 1) (by omega) n (by omega) _ ?_ ?_))⟩
    · intro j hj
      by_cases e : j = i
      · subst e; exact pk_us
      · exact (pk_un e).trans (h0 j (by omega))
    · intro j hj
      exact (pk_un (by omega)).trans (h1 j hj)
/-! the contours in order -/
theorem y_t276 {post : Int32 → SY → Prop} {J : Int32 → Int32 → (Nat → Int32) → (Nat → Int32) → (Nat → Int32) → (Nat → Int32) → (Nat → Int32) → (Nat → Int32) → (Nat → Int32) → Prop}
    (hC : bd_C W H px L) (hG : bd_G W H px L fg bg) {i k : Nat} (hi : bd_in W H i) (hk : k < 256) (hh : bd_hk W H px L i → J (nI (i + 1)) (nI (k + 1)) px fl fg bg (upd kn k 2) (upd st k (nI i)) pa) (hn : ¬ bd_hk W H px L i → J (nI (i + 1)) (nI k) px fl fg bg kn st pa) :
    wY_trace_276 post J (nI i) (nI (i % 16)) (nI W) (nI H) tr (nI k) px fl fg bg kn st pa := by
  have hW := hC.2.1
  have hH := hC.2.2.2.1
  have hi256 := bd_in_lt hC hi
  have hvk : vp_in (nI k) 256 := vp_in_nI hk (by omega)
  have hck : (nI k).toNatClampNeg = k := nI_clamp (by omega)
  unfold wY_trace_276
  rw [nI_1 (i % 16), nI_1 i]
  refine pk_le W (i % 16 + 1) (fun z => nm_e (hn (fun y => by have := y.2.1; omega))) (fun z => ?_)
  have hi1 : bd_in W H (i + 1) := by
    obtain ⟨a, b⟩ := hi
    exact ⟨by omega, by omega⟩
  have hi2 := bd_in_lt hC hi1
  have hL := bd_L_le hC hi1
  have hv : vp_in (nI (i + 1)) 256 := vp_in_nI hi2 (by omega)
  refine ⟨hv, ?_⟩
  rw [nI_clamp (n := i + 1) (by omega)]
  refine br_c (fun e0 => ⟨hv, ?_⟩) (fun e0 => nm_e (hn (fun y => e0 y.2.2.1)))
  rw [(hG _ hi1).2 e0]
  refine br_c (fun e1 => ⟨hvk, nm_r (congrArg (fun z => upd kn z 2) hck) ⟨hvk, nm_r (congrArg (fun z => upd st z (nI i)) hck) (nm_r (nI_1 k) (nm_e (hh ⟨hi, z, e0, ?_⟩)))⟩⟩) (fun e1 => nm_e (hn (fun y => e1 ?_)))
  · rw [bd_cd_nI (by omega) (by omega)] at e1
    exact e1
  · rw [bd_cd_nI (by omega) (by omega)]
    exact y.2.2.2
end
end
section
/-! the reference's table of contours, its parents, its trace whole -/
def bd_Y (W H : Nat) (p : Nat → Int32) (L : Nat → Nat) (t : Nat) (kn st fg bg : Nat → Int32) : Prop :=
  bd_C W H p L ∧ t = bd_N W H p L 256 ∧ bd_G W H p L fg bg ∧ (∀ c, bd_key W H p L c → kn (bd_N W H p L c) = bd_kd W H p L c ∧ st (bd_N W H p L c) = nI c)
section
variable {W H : Nat} {tr tt : Int32} {px fl lb qu kn pa st ln ar ii fg bg : Nat → Int32} {L : Nat → Nat} {t : Nat}
theorem bd_Y_t (hY : bd_Y W H px L t kn st fg bg) : t ≤ 256 := by
  rw [hY.2.1]
  exact bd_N_le 256
theorem bd_Y_k (hY : bd_Y W H px L t kn st fg bg) {c : Nat} (h : bd_key W H px L c) : bd_N W H px L c < t := by
  rw [hY.2.1]
  exact bd_N_lt h (bd_key_lt hY.1 h)
theorem bd_Y_c (hY : bd_Y W H px L t kn st fg bg) {k : Nat} (h : k < t) : ∃ c, bd_key W H px L c ∧ k = bd_N W H px L c := by
  rw [hY.2.1] at h
  obtain ⟨c, _, h2, h3⟩ := bd_N_ex h
  exact ⟨c, h2, h3.symm⟩
theorem bd_FY (hF : bd_F W H px L t lb kn pa st) (hG : bd_G W H px L fg bg) : bd_Y W H px L t kn st fg bg :=
  ⟨hF.1, hF.2.1, hG, fun c hc => ⟨(hF.2.2.2 c hc).1, (hF.2.2.2 c hc).2.1⟩⟩
theorem y_find {post : Int32 → Prop} (hY : bd_Y W H px L t kn st fg bg) {c : Nat} {v : Int32} (hc : bd_key W H px L c) (hv : bd_kd W H px L c = v) (hp : post (nI (bd_N W H px L c))) : wpY_findContour post (nI W, nI H, tr, nI t, px, fl, fg, bg, kn, st, pa) v (nI c) := by
  have ht := bd_Y_t hY
  have hk := bd_Y_k hY hc
  have hc256 := bd_key_lt hY.1 hc
  have main : ∀ e k, k + e = bd_N W H px L c → ∀ n, e < n → wY_findContour_2 post v (nI c) (nI W) (nI H) tr (nI t) px fl fg bg kn st pa n (nI k) := by
    intro e
    induction e with
    | zero =>
      intro k he n hn
      obtain ⟨n, rfl⟩ : ∃ m, n = m + 1 := ⟨n - 1, by omega⟩
      have : k = bd_N W H px L c := by omega
      subst this
      have hvk : vp_in (nI (bd_N W H px L c)) 256 := vp_in_nI (by omega) (by omega)
      refine br_f (nI_ge hk (by omega)) ⟨hvk, ?_⟩
      rw [nI_clamp (by omega), (hY.2.2.2 c hc).1, (hY.2.2.2 c hc).2]
      exact br_t hv ⟨hvk, br_t rfl hp⟩
    | succ e ih =>
      intro k he n hn
      obtain ⟨n, rfl⟩ : ∃ m, n = m + 1 := ⟨n - 1, by omega⟩
      have hvk : vp_in (nI k) 256 := vp_in_nI (by omega) (by omega)
      have next : ∀ z, z = nI k + 1 → wY_findContour_2 post v (nI c) (nI W) (nI H) tr (nI t) px fl fg bg kn st pa n z := by
        intro z ez
        rw [ez, nI_1]
        exact ih (k + 1) (by omega) n (by omega)
      obtain ⟨d, hd, ek⟩ := bd_Y_c hY (k := k) (by omega)
      have hd256 := bd_key_lt hY.1 hd
      have hst : st k = nI d := by rw [ek]; exact (hY.2.2.2 d hd).2
      refine br_f (nI_ge (by omega) (by omega)) ⟨hvk, ?_⟩
      rw [nI_clamp (n := k) (by omega), hst]
      refine br_c (fun _ => ⟨hvk, br_f (fun z => ?_) next⟩) (fun _ => next)
      rw [nI_eq (by omega) (by omega)] at z
      subst z
      omega
  exact ⟨bd_N W H px L c + 1, main (bd_N W H px L c) 0 (by omega) (bd_N W H px L c + 1) (by omega)⟩
theorem y_findF {post : Int32 → Prop} (hY : bd_Y W H px L t kn st fg bg) {i : Nat} (hi : bd_in W H i) (h1 : px i = 1) (hp : post (bd_cd (bd_ow W H px L i))) : wpY_findContour post (nI W, nI H, tr, nI t, px, fl, fg, bg, kn, st, pa) 1 (bd_cd (L i)) := by
  obtain ⟨a1, a2, a3⟩ := bd_kc_fg hY.1 hi h1
  rw [bd_ow_n (by omega), bd_cd_s] at hp
  rw [a3, bd_cd_s]
  exact y_find hY (Or.inl a1) (if_pos a1) hp
theorem y_findB {post : Int32 → Prop} (hY : bd_Y W H px L t kn st fg bg) {i : Nat} (hi : bd_in W H i) (h0 : px i = 0) (hn : L i ≠ 0) (hp : post (bd_cd (bd_ow W H px L i))) : wpY_findContour post (nI W, nI H, tr, nI t, px, fl, fg, bg, kn, st, pa) 2 (bd_cd (L i) - 1) := by
  obtain ⟨a1, a2, a3⟩ := bd_kc_bg hY.1 hi h0 hn
  rw [bd_ow_n hn, bd_cd_s] at hp
  rw [a3, bd_cd_s, nI_pred]
  exact y_find hY (Or.inr a1) (if_neg (bd_excl hY.1 a1)) hp
theorem y_own {post : Int32 → Prop} (hY : bd_Y W H px L t kn st fg bg) {i : Nat} (hi : bd_in W H i) (hp : post (bd_cd (bd_ow W H px L i))) : wpY_ownerOf post (nI W, nI H, tr, nI t, px, fl, fg, bg, kn, st, pa) (nI i) := by
  have hi256 := bd_in_lt hY.1 hi
  have hL := bd_L_le hY.1 hi
  have hv : vp_in (nI i) 256 := vp_in_nI hi256 (by omega)
  unfold wpY_ownerOf
  dsimp only
  refine ⟨hv, ?_⟩
  rw [nI_clamp (n := i) (by omega)]
  refine br_c (fun e => ⟨hv, ?_⟩) (fun e => ⟨hv, ?_⟩)
  · rw [(hY.2.2.1 i hi).1 e]
    exact y_findF hY hi e hp
  · have e0 : px i = 0 := (hY.1.2.2.2.2.1 i).resolve_right e
    refine nm_r ((hY.2.2.1 i hi).2 e0) (br_c (fun z => ?_) (fun z => ?_))
    · rw [bd_cd_nn (by omega)] at z
      exact y_findB hY hi e0 (by omega) hp
    · rw [bd_cd_nn (by omega)] at z
      rw [bd_ow_0 (by omega)] at hp
      exact hp
theorem y_fgl {post : Int32 → Prop} (hY : bd_Y W H px L t kn st fg bg) {c : Nat} (hc : bd_key W H px L c) (hp : post (bd_cd (L c))) : wpY_fgLabel post (nI W, nI H, tr, tt, px, fl, fg, bg, kn, st, pa) (nI (bd_N W H px L c)) := by
  have ht := bd_Y_t hY
  have hk := bd_Y_k hY hc
  have hc256 := bd_key_lt hY.1 hc
  obtain ⟨p1, p2⟩ := bd_key_p hY.1 hc
  have hv : vp_in (nI (bd_N W H px L c)) 256 := vp_in_nI (by omega) (by omega)
  refine ⟨hv, ?_⟩
  rw [nI_clamp (by omega), (hY.2.2.2 c hc).1, (hY.2.2.2 c hc).2, nI_clamp (n := c) (by omega)]
  refine br_c (fun e => ⟨hv, ?_⟩) (fun e => ⟨hv, vp_in_nI hc256 (by omega), ?_⟩)
  · have ho : bd_ok W H px L c := Classical.byContradiction fun z => absurd ((if_neg z : bd_kd W H px L c = 2).symm.trans e) (by decide)
    rw [ho.2.2] at hp
    exact hp
  · rw [(hY.2.2.1 c p1).1 p2]
    exact hp
theorem y_bgl {post : Int32 → Prop} (hY : bd_Y W H px L t kn st fg bg) {c : Nat} (hc : bd_key W H px L c) (hp : post (bd_cd (bd_bl W H px L c))) : wpY_bgLabel post (nI W, nI H, tr, tt, px, fl, fg, bg, kn, st, pa) (nI (bd_N W H px L c)) := by
  have ht := bd_Y_t hY
  have hk := bd_Y_k hY hc
  have hc256 := bd_key_lt hY.1 hc
  have hv : vp_in (nI (bd_N W H px L c)) 256 := vp_in_nI (by omega) (by omega)
  unfold bd_bl at hp
  refine ⟨hv, ?_⟩
  rw [nI_clamp (by omega), (hY.2.2.2 c hc).1, (hY.2.2.2 c hc).2]
  by_cases ho : bd_ok W H px L c
  · rw [if_pos ho] at hp
    refine br_f (by rw [show bd_kd W H px L c = 1 from if_pos ho]; decide) ⟨hv, ?_⟩
    rw [bd_m15 hc256]
    refine pk_eq (c % 16) 0 (fun z => ?_) (fun z => ⟨hv, ?_⟩)
    · rw [if_pos z] at hp
      exact hp
    · rw [if_neg z] at hp
      obtain ⟨l1, l2⟩ := bd_left hY.1 ho z
      have e : nI c - 1 = nI (c - 1) := by
        rw [show (1 : Int32) = nI 1 from rfl, pk_sub (by omega)]
      rw [e, nI_clamp (n := c - 1) (by omega), (hY.2.2.1 _ l1).2 l2]
      exact ⟨vp_in_nI (by omega) (by omega), hp⟩
  · rw [if_neg ho, (hc.resolve_left ho).2.2.2] at hp
    refine br_t (if_neg ho) ⟨hv, ?_⟩
    rw [nI_1]
    exact hp
theorem y_t349 {post : Int32 → SY → Prop} (hY : bd_Y W H px L t kn st fg bg) {P : Nat → Int32} (hP : ∀ c, bd_key W H px L c → P (bd_N W H px L c) = bd_cd (bd_pv W H px L c))
    (hp : post (nI t) (nI W, nI H, 1, nI t, px, fl, fg, bg, kn, st, P)) :
    ∀ e k, k + e = t → ∀ n, e < n → ∀ pa, (∀ j, j < k → pa j = P j) → (∀ j, t ≤ j → pa j = P j) → wY_trace_349 post (nI W) (nI H) tr (nI t) n (nI k) px fl fg bg kn st pa := by
  have ht := bd_Y_t hY
  intro e
  induction e with
  | zero =>
    intro k hk n hn pa h1 h2
    obtain ⟨n, rfl⟩ : ∃ m, n = m + 1 := ⟨n - 1, by omega⟩
    have e : pa = P := by
      funext j
      rcases Nat.lt_or_ge j t with z | z
      · exact h1 j (by omega)
      · exact h2 j z
    subst e
    exact br_t (nI_le (by omega) (by omega)) hp
  | succ e ih =>
    intro k hk n hn pa h1 h2
    obtain ⟨n, rfl⟩ : ∃ m, n = m + 1 := ⟨n - 1, by omega⟩
    obtain ⟨c, hc, ek⟩ := bd_Y_c hY (k := k) (by omega)
    have hc256 := bd_key_lt hY.1 hc
    have hv : vp_in (nI k) 256 := vp_in_nI (by omega) (by omega)
    have next : ∀ a, a = upd pa k (bd_cd (bd_pv W H px L c)) → ∀ z, z = nI k + 1 → wY_trace_349 post (nI W) (nI H) tr (nI t) n z px fl fg bg kn st a := by
      intro a ea z ez
      rw [ea, ez, nI_1]
      refine ih (k + 1) (by omega) n (by omega) _ (fun j hj => ?_) (fun j hj => ?_)
      · by_cases ej : j = k
        · subst ej
          rw [pk_us, ← hP c hc, ek]
        · rw [pk_un ej]; exact h1 j (by omega)
      · rw [pk_un (by omega)]; exact h2 j hj
    have hkn : kn k = bd_kd W H px L c := by rw [ek]; exact (hY.2.2.2 c hc).1
    have hst : st k = nI c := by rw [ek]; exact (hY.2.2.2 c hc).2
    refine br_f (nI_ge (by omega) (by omega)) ⟨hv, ?_⟩
    rw [nI_clamp (n := k) (by omega), hkn, hst]
    by_cases ho : bd_ok W H px L c
    · have epv : bd_pv W H px L c = if c % 16 = 0 then 0 else bd_ow W H px L (c - 1) := if_pos ho
      have ebl : bd_bl W H px L c = if c % 16 = 0 then 0 else L (c - 1) := if_pos ho
      refine br_t (if_pos ho) ?_
      have hb := fun (q : Int32 → Prop) (h : q (bd_cd (bd_bl W H px L c))) => y_bgl (post := q) (tr := tr) (tt := nI t) (fl := fl) (pa := pa) hY hc h
      rw [← ek] at hb
      refine hb _ ?_
      by_cases hx : c % 16 = 0
      · rw [if_pos hx] at epv ebl
        rw [epv] at next
        rw [ebl]
        exact br_t rfl ⟨hv, next⟩
      · rw [if_neg hx] at epv ebl
        obtain ⟨l1, l2⟩ := bd_left hY.1 ho hx
        have hle := bd_L_le hY.1 l1
        rw [ebl]
        rw [epv] at next
        refine br_c (fun z => ⟨hv, ?_⟩) (fun z => ?_)
        · rw [bd_cd_m1 (by omega)] at z
          rw [bd_ow_0 z] at next
          exact next
        · rw [bd_cd_m1 (by omega)] at z
          exact y_findB hY l1 l2 z ⟨hv, next⟩
    · have epv : bd_pv W H px L c = bd_ow W H px L c := if_neg ho
      obtain ⟨p1, p2⟩ := bd_key_p hY.1 hc
      refine br_f (by rw [show bd_kd W H px L c = 2 from if_neg ho]; decide) ⟨hv, vp_in_nI hc256 (by omega), ?_⟩
      rw [nI_clamp (n := c) (by omega), (hY.2.2.1 c p1).1 p2]
      rw [epv] at next
      exact y_findF hY p1 p2 ⟨hv, next⟩
theorem y_t195 {post : Int32 → SY → Prop} (hC : bd_C W H px L) (hG : bd_G W H px L fg bg)
    (hp : ∃ n, wY_trace_349 post (nI W) (nI H) tr (nI (bd_N W H px L 256)) n 0 px fl fg bg (bd_A W H px L (bd_kd W H px L) kn 256) (bd_A W H px L nI st 256) pa) :
    ∀ e i, i + e = 256 → ∀ n, e < n → wY_trace_195 post (nI W) (nI H) tr n (nI i) (nI (bd_N W H px L i)) px fl fg bg (bd_A W H px L (bd_kd W H px L) kn i) (bd_A W H px L nI st i) pa := by
  have hW := hC.2.1
  have hH := hC.2.2.2.1
  intro e
  induction e with
  | zero =>
    intro i hi n hn
    obtain ⟨n, rfl⟩ : ∃ m, n = m + 1 := ⟨n - 1, by omega⟩
    have : i = 256 := by omega
    subst this
    exact br_t (nI_le (a := 256) (by omega) (by omega)) hp
  | succ e ih =>
    intro i hi n hn
    obtain ⟨n, rfl⟩ : ∃ m, n = m + 1 := ⟨n - 1, by omega⟩
    have hN := bd_N_le (W := W) (H := H) (p := px) (L := L) i
    have hv : vp_in (nI i) 256 := vp_in_nI (by omega) (by omega)
    have hvk : vp_in (nI (bd_N W H px L i)) 256 := vp_in_nI (by omega) (by omega)
    have hck : (nI (bd_N W H px L i)).toNatClampNeg = bd_N W H px L i := nI_clamp (by omega)
    have next := ih (i + 1) (by omega) n (by omega)
    have nno : ¬ bd_key W H px L i → wY_trace_195 post (nI W) (nI H) tr n (nI (i + 1)) (nI (bd_N W H px L i)) px fl fg bg (bd_A W H px L (bd_kd W H px L) kn i) (bd_A W H px L nI st i) pa := by
      intro h
      rw [bd_N_no h, bd_A_n h, bd_A_n h] at next
      exact next
    have nkey : bd_key W H px L i → wY_trace_195 post (nI W) (nI H) tr n (nI (i + 1)) (nI (bd_N W H px L i + 1)) px fl fg bg (upd (bd_A W H px L (bd_kd W H px L) kn i) (bd_N W H px L i) (bd_kd W H px L i)) (upd (bd_A W H px L nI st i) (bd_N W H px L i) (nI i)) pa := by
      intro h
      rw [bd_N_key h, bd_A_k h, bd_A_k h] at next
      exact next
    refine br_f (nI_ge (b := 256) (by omega) (by omega)) (nm_r (bd_m15 (by omega)) (nm_r (bd_s4 (by omega)) (y_pix hW hH (fun a b ea eb ha hb => br_f bd_10 ⟨hv, ?_⟩) (fun hno => br_t rfl (nm_r (nI_1 i) (nno (fun z => ?_)))))))
    · rw [nI_eq (by omega) (by omega)] at ea eb
      have hin : bd_in W H i := ⟨by omega, by omega⟩
      have hL := bd_L_le hC hin
      have go : ¬ bd_ok W H px L i → wY_trace_276 post (wY_trace_195 post (nI W) (nI H) tr n) (nI i) (nI (i % 16)) (nI W) (nI H) tr (nI (bd_N W H px L i)) px fl fg bg (bd_A W H px L (bd_kd W H px L) kn i) (bd_A W H px L nI st i) pa := by
        intro hno
        refine y_t276 hC hG hin (by omega) (fun hh => ?_) (fun hh => nno (fun z => z.elim hno hh))
        have := nkey (Or.inr hh)
        rw [show bd_kd W H px L i = 2 from if_neg hno] at this
        exact this
      rw [nI_clamp (n := i) (by omega)]
      refine br_c (fun e1 => ⟨hv, ?_⟩) (fun e1 => go (fun z => e1 z.2.1))
      rw [(hG i hin).1 e1]
      refine br_c (fun e2 => ⟨hvk, nm_r (congrArg (fun z => upd _ z 1) hck) ⟨hvk, nm_r (congrArg (fun z => upd _ z (nI i)) hck) (nm_r (nI_1 _) (nm_r (nI_1 i) ?_))⟩⟩) (fun e2 => go (fun z => e2 ?_))
      · rw [bd_cd_nI (by omega) (by omega)] at e2
        have ho : bd_ok W H px L i := ⟨hin, e1, e2⟩
        have := nkey (Or.inl ho)
        rw [show bd_kd W H px L i = 1 from if_pos ho] at this
        exact this
      · rw [bd_cd_nI (by omega) (by omega)]
        exact z.2.2
    · have := (bd_key_p hC z).1
      exact hno _ _ rfl rfl this.1 this.2
theorem y_trace {post : Int32 → SY → Prop} (hC : bd_C W H px L) (hfl : ∀ j, 256 ≤ j → fl j = 0)
    (hp : ∀ fg bg, bd_G W H px L fg bg → post (nI (bd_N W H px L 256)) (nI W, nI H, 1, nI (bd_N W H px L 256), px, fun _ => 0, fg, bg, bd_A W H px L (bd_kd W H px L) kn 256, bd_A W H px L nI st 256, bd_A W H px L (fun i => bd_cd (bd_pv W H px L i)) pa 256)) :
    wpY_trace post (nI W, nI H, tr, tt, px, fl, fg, bg, kn, st, pa) := by
  have hlo : bd_lo W H L (bd_s0 W H px) := by
    intro i hi
    have h1 := bd_L_le hC hi
    unfold bd_s0
    by_cases z : px i = 0 ∧ bd_rim W H i
    · rw [if_pos z, hC.2.2.2.2.2.2.2 i hi z.1 z.2]
      exact Nat.le_refl 0
    · rw [if_neg z]; exact h1
  have hsrc : bd_src W H px (bd_s0 W H px) := by
    intro i hi
    unfold bd_s0
    by_cases z : px i = 0 ∧ bd_rim W H i
    · rw [if_pos z]
      exact ⟨by omega, fun _ _ => rfl⟩
    · rw [if_neg z]
      exact ⟨by omega, fun a b => absurd ⟨a, b⟩ z⟩
  refine ⟨257, y_t2 ⟨257, y_t24 hC (fun fg bg hS => ⟨301, y_t141 hC (fun fg bg hG => ?_) 300 0 rfl 301 (by omega) fg bg (bd_s0 W H px) hS hlo hsrc (Or.inr ?_)⟩) 256 0 rfl 257 (by omega) fg bg (fun j hj => absurd hj (Nat.not_lt_zero j))⟩ 256 0 rfl 257 (by omega) fl (fun j hj => absurd hj (Nat.not_lt_zero j)) hfl⟩
  · have hY : bd_Y W H px L (bd_N W H px L 256) (bd_A W H px L (bd_kd W H px L) kn 256) (bd_A W H px L nI st 256) fg bg :=
      ⟨hC, rfl, hG, fun c hc => ⟨bd_A_key hc (bd_key_lt hC hc), bd_A_key hc (bd_key_lt hC hc)⟩⟩
    refine ⟨257, y_t195 hC hG ⟨bd_N W H px L 256 + 1, ?_⟩ 256 0 rfl 257 (by omega)⟩
    exact y_t349 hY (fun c hc => bd_A_key hc (bd_key_lt hC hc)) (hp fg bg hG) (bd_N W H px L 256) 0 (by omega) (bd_N W H px L 256 + 1) (by omega) pa (fun j hj => absurd hj (Nat.not_lt_zero j)) (fun j hj => (bd_A_ge hj).symm)
  · have := bd_ct_le (fun i => bd_in W H i ∧ bd_s0 W H px i ≠ L i) 256
    unfold bd_nf
    omega
end
end
section
/-! the reference's questions and fills -/
section
variable {W H : Nat} {tr tt : Int32} {px fl lb qu kn pa st ln ar ii fg bg : Nat → Int32} {L : Nat → Nat} {t : Nat}
theorem y_e87 {post : Int32 → Prop} (hY : bd_Y W H px L t kn st fg bg) {c x y s : Nat} (hc : bd_key W H px L c) (hx : x < W) (hy : y < H) (hs : s < 4)
    (h1 : bd_far W H (bd_ow W H px L) (y * 16 + x) s = bd_bo W H px L c → post 1) (h0 : ¬ bd_far W H (bd_ow W H px L) (y * 16 + x) s = bd_bo W H px L c → post 0) :
    wY_isEdge_87 post (nI (bd_N W H px L c)) (bd_cd (x + bd_sx s)) (bd_cd (y + bd_sy s)) (nI W) (nI H) tr tt px fl fg bg kn st pa := by
  have hC := hY.1
  have hW := hC.2.1
  have hH := hC.2.2.2.1
  have hd := bd_d8 (s := s) (by omega)
  have hc256 := bd_key_lt hC hc
  have hbl : bd_bl W H px L c ≤ 257 := by
    unfold bd_bl
    by_cases ho : bd_ok W H px L c
    · rw [if_pos ho]
      by_cases hz : c % 16 = 0
      · rw [if_pos hz]; omega
      · rw [if_neg hz]
        have := bd_L_le hC (bd_left hC ho hz).1
        omega
    · rw [if_neg ho, (hc.resolve_left ho).2.2.2]; omega
  refine y_bgl hY hc (y_pix hW hH (fun a b ea eb ha hb => br_f bd_10 ?_) (fun hno => br_t rfl ?_))
  · rw [bd_cd_nI (by omega) (by omega)] at ea eb
    rw [bd_far_in hx hy hW hs ha hb ea eb] at h1 h0
    have hq : bd_in W H (b * 16 + a) := ⟨by omega, by omega⟩
    have hL := bd_L_le hC hq
    have hf := bd_farI hC hc hq
    have hv : vp_in (nI (b * 16 + a)) 256 := vp_in_nI (by omega) (by omega)
    rw [ea, eb, bd_cd_s, bd_cd_s]
    refine nm_r (bd_ri a b) ⟨hv, ?_⟩
    rw [nI_clamp (by omega)]
    refine br_c (fun e0 => ⟨hv, ?_⟩) (fun e0 => h0 (fun z => e0 (hf.mpr z).1))
    rw [(hY.2.2.1 _ hq).2 e0]
    refine br_c (fun e1 => h1 (hf.mp ⟨e0, ?_⟩)) (fun e1 => h0 (fun z => e1 ?_))
    · rw [bd_cd_eq (by omega) (by omega)] at e1
      exact e1
    · rw [(hf.mpr z).2]
  · rw [bd_far_out hx hy hW hs (fun a b z1 z2 z3 z4 => hno a b (by rw [z1]; rfl) (by rw [z2]; rfl) z3 z4)] at h1 h0
    have hf := bd_farO hC hc
    refine br_c (fun e1 => h1 (hf.mp ?_)) (fun e1 => h0 (fun z => e1 ?_))
    · rw [bd_cd_m1 (by omega)] at e1
      exact e1
    · rw [bd_cd_m1 (by omega)]
      exact hf.mpr z
theorem y_isE {post : Int32 → Prop} (hY : bd_Y W H px L t kn st fg bg) {c x y s : Nat} (hc : bd_key W H px L c) (hx : x < W) (hy : y < H) (hs : s < 4)
    (h1 : bd_E W H px L (bd_ow W H px L (y * 16 + x)) (bd_far W H (bd_ow W H px L) (y * 16 + x) s) c → post 1)
    (h0 : ¬ bd_E W H px L (bd_ow W H px L (y * 16 + x)) (bd_far W H (bd_ow W H px L) (y * 16 + x) s) c → post 0) :
    wpY_isEdge post (nI W, nI H, tr, tt, px, fl, fg, bg, kn, st, pa) (nI (bd_N W H px L c)) (nI x) (nI y) (nI s) := by
  have hC := hY.1
  have hW := hC.2.1
  have hH := hC.2.2.2.1
  have hi : bd_in W H (y * 16 + x) := ⟨by omega, by omega⟩
  have hv : vp_in (nI (y * 16 + x)) 256 := vp_in_nI (by omega) (by omega)
  have hn := bd_near hC hc hi
  have hLi := bd_L_le hC hi
  have hLc := bd_L_le hC (bd_key_p hC hc).1
  have hc256 := bd_key_lt hC hc
  refine nm_r (bd_ri x y) ⟨hv, ?_⟩
  rw [nI_clamp (by omega)]
  refine br_c (fun e1 => ⟨hv, y_fgl hY hc ?_⟩) (fun e1 => h0 (fun z => e1 (hn.mpr z.1).1))
  rw [(hY.2.2.1 _ hi).1 e1]
  refine br_c (fun e2 => ?_) (fun e2 => h0 (fun z => e2 (by rw [(hn.mpr z.1).2])))
  rw [bd_cd_eq (by omega) (by omega)] at e2
  have ho := hn.mp ⟨e1, e2⟩
  have main : wY_isEdge_87 post (nI (bd_N W H px L c)) (bd_cd (x + bd_sx s)) (bd_cd (y + bd_sy s)) (nI W) (nI H) tr tt px fl fg bg kn st pa :=
    y_e87 hY hc hx hy hs (fun z => h1 ⟨ho, z⟩) (fun z => h0 (fun w => z w.2))
  have hcs : s = 0 ∨ s = 1 ∨ s = 2 ∨ s = 3 := by omega
  rcases hcs with rfl | rfl | rfl | rfl
  · refine br_f (by decide +kernel) (br_f (by decide +kernel) (br_t (by decide +kernel) ?_))
    rw [bd_sub1]
    exact main
  · refine br_t (by decide +kernel) (br_f (by decide +kernel) (br_f (by decide +kernel) ?_))
    rw [nI_1]
    exact main
  · refine br_f (by decide +kernel) (br_f (by decide +kernel) (br_f (by decide +kernel) (br_t (by decide +kernel) ?_)))
    rw [nI_1]
    exact main
  · refine br_f (by decide +kernel) (br_t (by decide +kernel) (br_f (by decide +kernel) (br_f (by decide +kernel) ?_)))
    rw [bd_sub1]
    exact main
theorem y_l41 {post : Int32 → Prop} {J : Int32 → Int32 → Prop} (hY : bd_Y W H px L t kn st fg bg) {c i : Nat} (hc : bd_key W H px L c) (hi : bd_in W H i)
    (hJ : J (nI (bd_ct (bd_ed W H px L c) (4 * i + 4))) (nI (i + 1))) :
    ∀ e s, s + e = 4 → ∀ n, e < n → wY_contourLength_41 post J (nI (bd_N W H px L c)) (nI i) (nI W) (nI H) tr tt px fl fg bg kn st pa n (nI (bd_ct (bd_ed W H px L c) (4 * i + s))) (nI s) := by
  have hi256 := bd_in_lt hY.1 hi
  intro e
  induction e with
  | zero =>
    intro s hs n hn
    obtain ⟨n, rfl⟩ : ∃ m, n = m + 1 := ⟨n - 1, by omega⟩
    have : s = 4 := by omega
    subst this
    exact br_t (nI_le (a := 4) (by omega) (by omega)) (nm_r (nI_1 i) hJ)
  | succ e ih =>
    intro s hs n hn
    obtain ⟨n, rfl⟩ : ∃ m, n = m + 1 := ⟨n - 1, by omega⟩
    have q1 : (4 * i + s) / 4 = i := by omega
    have q2 : (4 * i + s) % 4 = s := by omega
    have q3 : i / 16 * 16 + i % 16 = i := by omega
    have hed : bd_ed W H px L c (4 * i + s) ↔ bd_E W H px L (bd_ow W H px L i) (bd_far W H (bd_ow W H px L) i s) c := by
      unfold bd_ed bd_E
      rw [q1, q2]
      exact ⟨fun z => z.2, fun z => ⟨hi, z⟩⟩
    have next := ih (s + 1) (by omega) n (by omega)
    rw [← Nat.add_assoc] at next
    refine br_f (nI_ge (b := 4) (by omega) (by omega)) ?_
    rw [bd_m15 hi256, bd_s4 hi256]
    refine y_isE hY hc hi.1 hi.2 (by omega) (fun z => br_f bd_10 ?_) (fun z => br_t rfl ?_)
    · rw [q3] at z
      rw [bd_ct_t (hed.mpr z)] at next
      exact nm_r (nI_1 _) (nm_r (nI_1 s) next)
    · rw [q3] at z
      rw [bd_ct_f (fun w => z (hed.mp w))] at next
      exact nm_r (nI_1 s) next
theorem y_l14 {post : Int32 → Prop} (hY : bd_Y W H px L t kn st fg bg) {c : Nat} (hc : bd_key W H px L c) (hp : post (nI (bd_ct (bd_ed W H px L c) 1024))) :
    ∀ e i, i + e = 256 → ∀ n, e < n → wY_contourLength_14 post (nI (bd_N W H px L c)) (nI W) (nI H) tr tt px fl fg bg kn st pa n (nI (bd_ct (bd_ed W H px L c) (4 * i))) (nI i) := by
  have hW := hY.1.2.1
  have hH := hY.1.2.2.2.1
  intro e
  induction e with
  | zero =>
    intro i hi n hn
    obtain ⟨n, rfl⟩ : ∃ m, n = m + 1 := ⟨n - 1, by omega⟩
    have : i = 256 := by omega
    subst this
    exact br_t (nI_le (a := 256) (by omega) (by omega)) hp
  | succ e ih =>
    intro i hi n hn
    obtain ⟨n, rfl⟩ : ∃ m, n = m + 1 := ⟨n - 1, by omega⟩
    have next := ih (i + 1) (by omega) n (by omega)
    refine br_f (nI_ge (b := 256) (by omega) (by omega)) (y_pixc (by omega) hW hH (fun z => br_f bd_10 ⟨5, ?_⟩) (fun z => br_t rfl (nm_r (nI_1 i) ?_)))
    · exact y_l41 hY hc z next 4 0 rfl 5 (by omega)
    · rw [bd_ed_no z] at next
      exact next
theorem y_in9 {post : Int32 → Prop} (hF : bd_F W H px L t lb kn pa st) {k : Nat} (hk : k < t) : ∀ e s, s + e = 300 → ∀ n, e < n → ∀ q, q ≤ t →
    (bd_an (fun i => bd_dc (pa i)) k e q = true → post 1) → (bd_an (fun i => bd_dc (pa i)) k e q = false → post 0) → wY_inInterior_9 post (nI k) (nI W) (nI H) tr tt px fl fg bg kn st pa n (bd_cd q) (nI s) := by
  have ht := bd_F_t hF
  intro e
  induction e with
  | zero =>
    intro s hs n hn q hq h1 h0
    obtain ⟨n, rfl⟩ : ∃ m, n = m + 1 := ⟨n - 1, by omega⟩
    exact br_t (nI_le (a := 300) (by omega) (by omega)) (h0 rfl)
  | succ e ih =>
    intro s hs n hn q hq h1 h0
    obtain ⟨n, rfl⟩ : ∃ m, n = m + 1 := ⟨n - 1, by omega⟩
    refine br_f (nI_ge (b := 300) (by omega) (by omega)) ?_
    rcases Nat.eq_zero_or_pos q with z | z
    · subst z
      exact br_f (by decide) (h0 (bd_an_0 _ _ _))
    · obtain ⟨j, rfl⟩ : ∃ j, q = j + 1 := ⟨q - 1, by omega⟩
      rw [bd_an_s, if_neg (show ¬ j + 1 = 0 by omega)] at h1 h0
      refine br_t (by rw [bd_cd_nn (by omega)]; omega) (br_c (fun y => ?_) (fun y => ⟨vp_in_nI (n := j) (by omega) (by omega), ?_⟩))
      · rw [bd_cd_nI (by omega) (by omega)] at y
        rw [if_pos y] at h1
        exact h1 rfl
      · rw [bd_cd_nI (by omega) (by omega)] at y
        rw [if_neg y] at h1 h0
        obtain ⟨a1, a2⟩ := bd_pp hF (k := j) (by omega)
        refine nm_r ((congrArg pa (nI_clamp (n := j) (by omega))).trans a1) (nm_r (nI_1 s) (ih (s + 1) (by omega) n (by omega) _ (by omega) h1 h0))
theorem y_inI {post : Int32 → Prop} (hF : bd_F W H px L t lb kn pa st) (hG : bd_G W H px L fg bg) {k i : Nat} (hk : k < t) (hi : bd_in W H i)
    (h1 : bd_a (fun i => bd_dc (pa i)) k (bd_ow W H px L i) = true → post 1) (h0 : bd_a (fun i => bd_dc (pa i)) k (bd_ow W H px L i) = false → post 0) : wpY_inInterior post (nI W, nI H, tr, nI t, px, fl, fg, bg, kn, st, pa) (nI k) (nI i) := by
  have ht := bd_F_t hF
  have ho := bd_F_ow hF hi
  have e := bd_a_an (bd_ppl hF) (k := k) (n := 300) (q := bd_ow W H px L i) ho (by omega)
  rw [← e] at h1 h0
  unfold wpY_inInterior
  dsimp only
  exact y_own (bd_FY hF hG) hi ⟨301, y_in9 hF hk 300 0 rfl 301 (by omega) _ ho h1 h0⟩
theorem y_a14 {post : Int32 → Prop} (hF : bd_F W H px L t lb kn pa st) (hG : bd_G W H px L fg bg) {k : Nat} (hk : k < t) (hp : post (bd_fin W H px L kn pa k)) :
    ∀ e i, i + e = 256 → ∀ n, e < n → wY_contourArea_14 post (nI k) (nI W) (nI H) tr (nI t) px fl fg bg kn st pa n (nI (bd_ct (fun j => bd_in W H j ∧ bd_a (fun j => bd_dc (pa j)) k (bd_ow W H px L j) = true) i)) (nI i) := by
  have ht := bd_F_t hF
  have hW := hF.1.2.1
  have hH := hF.1.2.2.2.1
  intro e
  induction e with
  | zero =>
    intro i hi n hn
    obtain ⟨n, rfl⟩ : ∃ m, n = m + 1 := ⟨n - 1, by omega⟩
    have : i = 256 := by omega
    subst this
    obtain ⟨c, hc, rfl⟩ := bd_F_c hF hk
    have hkd := (hF.2.2.2 c hc).1
    unfold bd_fin bd_arN at hp
    refine br_t (nI_le (a := 256) (by omega) (by omega)) ⟨vp_in_nI (by omega) (by omega), ?_⟩
    rw [nI_clamp (n := bd_N W H px L c) (by omega)]
    by_cases ho : bd_ok W H px L c
    · rw [show bd_kd W H px L c = 1 from if_pos ho] at hkd
      rw [hkd, if_neg (by decide)] at hp
      exact br_t hkd hp
    · rw [show bd_kd W H px L c = 2 from if_neg ho] at hkd
      rw [hkd, if_pos rfl] at hp
      exact br_f (by rw [hkd]; decide) hp
  | succ e ih =>
    intro i hi n hn
    obtain ⟨n, rfl⟩ : ∃ m, n = m + 1 := ⟨n - 1, by omega⟩
    have next := ih (i + 1) (by omega) n (by omega)
    have nno : ¬ (bd_in W H i ∧ bd_a (fun j => bd_dc (pa j)) k (bd_ow W H px L i) = true) → ∀ z, z = nI i + 1 → wY_contourArea_14 post (nI k) (nI W) (nI H) tr (nI t) px fl fg bg kn st pa n (nI (bd_ct (fun j => bd_in W H j ∧ bd_a (fun j => bd_dc (pa j)) k (bd_ow W H px L j) = true) i)) z := by
      intro h z ez
      rw [ez, nI_1]
      rw [bd_ct_f (P := fun j => bd_in W H j ∧ bd_a (fun j => bd_dc (pa j)) k (bd_ow W H px L j) = true) h] at next
      exact next
    refine br_f (nI_ge (b := 256) (by omega) (by omega)) (y_pixc (by omega) hW hH (fun z => br_f bd_10 (y_inI hF hG hk z (fun w => br_f bd_10 ?_) (fun w => br_t rfl (nno (fun y => ?_))))) (fun z => br_t rfl (nno (fun y => z y.1))))
    · rw [bd_ct_t (P := fun j => bd_in W H j ∧ bd_a (fun j => bd_dc (pa j)) k (bd_ow W H px L j) = true) ⟨z, w⟩] at next
      exact nm_r (nI_1 _) (nm_r (nI_1 i) next)
    · rw [w] at y
      exact absurd y.2 (by decide)
theorem y_g12 {post : Int32 → SY → Prop} (hF : bd_F W H px L t lb kn pa st) (hG : bd_G W H px L fg bg) {k : Nat} (hk : k < t) (hp : post 1 (nI W, nI H, tr, nI t, px, bd_tg (bd_Qk W H px L pa k) fl 256, fg, bg, kn, st, pa)) :
    ∀ e i, i + e = 256 → ∀ n, e < n → wY_toggleFill_12 post (nI k) (nI W) (nI H) tr (nI t) n (nI i) px (bd_tg (bd_Qk W H px L pa k) fl i) fg bg kn st pa := by
  have ht := bd_F_t hF
  have hW := hF.1.2.1
  have hH := hF.1.2.2.2.1
  intro e
  induction e with
  | zero =>
    intro i hi n hn
    obtain ⟨n, rfl⟩ : ∃ m, n = m + 1 := ⟨n - 1, by omega⟩
    have : i = 256 := by omega
    subst this
    exact br_t (nI_le (a := 256) (by omega) (by omega)) hp
  | succ e ih =>
    intro i hi n hn
    obtain ⟨n, rfl⟩ : ∃ m, n = m + 1 := ⟨n - 1, by omega⟩
    have hv : vp_in (nI i) 256 := vp_in_nI (by omega) (by omega)
    have next := ih (i + 1) (by omega) n (by omega)
    have nno : bd_Qk W H px L pa k i = false → ∀ z, z = nI i + 1 → wY_toggleFill_12 post (nI k) (nI W) (nI H) tr (nI t) n z px (bd_tg (bd_Qk W H px L pa k) fl i) fg bg kn st pa := by
      intro h z ez
      rw [ez, nI_1]
      rw [bd_tg_f h] at next
      exact next
    refine br_f (nI_ge (b := 256) (by omega) (by omega)) (y_pixc (by omega) hW hH (fun z => br_f bd_10 (y_inI hF hG hk z (fun w => br_f bd_10 ⟨hv, hv, ?_⟩) (fun w => br_t rfl (nno ((bd_Q_in z).trans w))))) (fun z => br_t rfl (nno (bd_Q_out z))))
    rw [nI_clamp (n := i) (by omega)]
    exact nm_r (bd_tg_t ((bd_Q_in z).trans w)) (nm_r (nI_1 i) next)
theorem y_tog {post : Int32 → SY → Prop} (hF : bd_F W H px L t lb kn pa st) (hG : bd_G W H px L fg bg) (htr : tr ≠ 0) {k : Nat} (hk : k < t) (hp : post 1 (nI W, nI H, tr, nI t, px, bd_tg (bd_Qk W H px L pa k) fl 256, fg, bg, kn, st, pa)) : wpY_toggleFill post (nI W, nI H, tr, nI t, px, fl, fg, bg, kn, st, pa) (nI k) := by
  have ht := bd_F_t hF
  unfold wpY_toggleFill
  dsimp only
  refine y_val ht (fun _ _ _ _ => br_f bd_10 ⟨257, ?_⟩) (fun hno => (hno htr k rfl hk).elim)
  have := y_g12 (tr := tr) (fl := fl) hF hG hk hp 256 0 rfl 257 (by omega)
  rw [bd_tg_0] at this
  exact this
theorem y_f57 {post : Int32 → SY → Prop} (hp : post (bd_sm fl 256) (nI W, nI H, tr, tt, px, fl, fg, bg, kn, st, pa)) : ∀ d i, i + d = 256 → ∀ n, d < n → wY_fillAll_57 post (nI W) (nI H) tr tt px fl fg bg kn st pa n (bd_sm fl i) (nI i) := by
  intro d
  induction d with
  | zero =>
    intro i hi n hn
    obtain ⟨n, rfl⟩ : ∃ m, n = m + 1 := ⟨n - 1, by omega⟩
    have : i = 256 := by omega
    subst this
    exact br_t (nI_le (a := 256) (by omega) (by omega)) hp
  | succ d ih =>
    intro i hi n hn
    obtain ⟨n, rfl⟩ : ∃ m, n = m + 1 := ⟨n - 1, by omega⟩
    refine br_f (nI_ge (b := 256) (by omega) (by omega)) ⟨vp_in_nI (by omega) (by omega), nm_r (congrArg (fun z => bd_sm fl i + fl z) (nI_clamp (n := i) (by omega))) (nm_r (nI_1 i) (ih (i + 1) (by omega) n (by omega)))⟩
theorem y_f33 {post : Int32 → SY → Prop} (hF : bd_F W H px L t lb kn pa st) (hG : bd_G W H px L fg bg) (htr : tr ≠ 0) (hp : post (bd_sm (bd_fa (bd_Qk W H px L pa) t) 256) (nI W, nI H, tr, nI t, px, bd_fa (bd_Qk W H px L pa) t, fg, bg, kn, st, pa)) :
    ∀ d k, k + d = t → ∀ n, d < n → wY_fillAll_33 post n (nI k) (nI W) (nI H) tr (nI t) px (bd_fa (bd_Qk W H px L pa) k) fg bg kn st pa := by
  have ht := bd_F_t hF
  intro d
  induction d with
  | zero =>
    intro k hk n hn
    obtain ⟨n, rfl⟩ : ∃ m, n = m + 1 := ⟨n - 1, by omega⟩
    have : k = t := by omega
    subst this
    exact br_t (nI_le (by omega) (by omega)) ⟨257, y_f57 hp 256 0 rfl 257 (by omega)⟩
  | succ d ih =>
    intro k hk n hn
    obtain ⟨n, rfl⟩ : ∃ m, n = m + 1 := ⟨n - 1, by omega⟩
    exact br_f (nI_ge (by omega) (by omega)) (y_tog hF hG htr (by omega) (nm_r (nI_1 k) (ih (k + 1) (by omega) n (by omega))))
theorem y_f11 {post : Int32 → SY → Prop} (h : ∃ n, wY_fillAll_33 post n 0 (nI W) (nI H) tr tt px (fun _ => 0) fg bg kn st pa) : ∀ d i, i + d = 256 → ∀ n, d < n → ∀ fl : Nat → Int32, (∀ j, j < i → fl j = 0) → (∀ j, 256 ≤ j → fl j = 0) → wY_fillAll_11 post (nI W) (nI H) tr tt n (nI i) px fl fg bg kn st pa := by
  intro d
  induction d with
  | zero =>
    intro i hi n hn fl h0 h1
    obtain ⟨n, rfl⟩ : ∃ m, n = m + 1 := ⟨n - 1, by omega⟩
    have e : fl = fun _ => 0 := by
      funext j
      rcases Nat.lt_or_ge j 256 with z | z
      · exact h0 j (by omega)
      · exact h1 j z
    subst e
    exact br_t (nI_le (a := 256) (by omega) (by omega)) h
  | succ d ih =>
    intro i hi n hn fl h0 h1
    obtain ⟨n, rfl⟩ : ∃ m, n = m + 1 := ⟨n - 1, by omega⟩
    refine br_f (nI_ge (b := 256) (by omega) (by omega)) ⟨vp_in_nI (by omega) (by omega), nm_r (congrArg (fun z => upd fl z 0) (nI_clamp (by omega))) (nm_r (nI_1 i) (ih (i + 1) (by omega) n (by omega) _ ?_ ?_))⟩
    · intro j hj
      by_cases e : j = i
      · subst e; exact pk_us
      · exact (pk_un e).trans (h0 j (by omega))
    · intro j hj
      exact (pk_un (by omega)).trans (h1 j hj)
theorem y_fill {post : Int32 → SY → Prop} (hF : bd_F W H px L t lb kn pa st) (hG : bd_G W H px L fg bg) (htr : ¬ tr = 0) (hfl : ∀ j, 256 ≤ j → fl j = 0) (hp : post (bd_sm (bd_fa (bd_Qk W H px L pa) t) 256) (nI W, nI H, tr, nI t, px, bd_fa (bd_Qk W H px L pa) t, fg, bg, kn, st, pa)) :
    wpY_fillAll post (nI W, nI H, tr, nI t, px, fl, fg, bg, kn, st, pa) :=
  br_f htr ⟨257, y_f11 ⟨t + 1, y_f33 hF hG htr hp t 0 (by omega) (t + 1) (by omega)⟩ 256 0 rfl 257 (by omega) fl (fun j hj => absurd hj (Nat.not_lt_zero j)) hfl⟩
end
end
section
/-! the relation -/
def bd_R (W H : Nat) (p : Nat → Int32) (t : Nat) (lb kn pa st ln ar fg bg : Nat → Int32) : Prop :=
  ∃ L, bd_F W H p L t lb kn pa st ∧ bd_G W H p L fg bg ∧ (∀ c, bd_key W H p L c → ln (bd_N W H p L c) = nI (bd_ct (bd_ed W H p L c) 1024)) ∧ (∀ k, k < t → ar k = bd_fin W H p L kn pa k)
def bd_B (W H : Nat) (p fl : Nat → Int32) : Prop :=
  1 ≤ W ∧ W ≤ 16 ∧ 1 ≤ H ∧ H ≤ 16 ∧ (∀ i, p i = 0 ∨ p i = 1) ∧ (∀ i, ¬ bd_in W H i → p i = 0 ∧ fl i = 0)
def i_Rel (_ : Nat) (u : SX) (v : SY) : Prop :=
  ∃ (W H t : Nat) (tr : Int32) (px fl lb qu kn pa st ln ar ii fg bg : Nat → Int32), u = (nI W, nI H, tr, nI t, px, fl, lb, qu, kn, pa, st, ln, ar, ii) ∧ v = (nI W, nI H, tr, nI t, px, fl, fg, bg, kn, st, pa) ∧ bd_B W H px fl ∧ ((tr = 0 ∧ t = 0) ∨ (tr = 1 ∧ bd_R W H px t lb kn pa st ln ar fg bg))
theorem i_up {k : Nat} {u : SX} {v : SY} (h : i_Rel k u v) : i_Rel (k + 5) u v := h
section
variable {W H t : Nat} {tr : Int32} {px fl lb qu kn pa st ln ar ii fg bg : Nat → Int32}
theorem bd_B_256 (h : bd_B W H px fl) : ∀ j, 256 ≤ j → fl j = 0 := fun j hj => (h.2.2.2.2.2 j (fun z => by
  have := h.2.2.2.1
  obtain ⟨_, b⟩ := z
  omega)).2
theorem bd_mk (k : Nat) (h : bd_B W H px fl) (h2 : (tr = 0 ∧ t = 0) ∨ (tr = 1 ∧ bd_R W H px t lb kn pa st ln ar fg bg)) : i_Rel k (nI W, nI H, tr, nI t, px, fl, lb, qu, kn, pa, st, ln, ar, ii) (nI W, nI H, tr, nI t, px, fl, fg, bg, kn, st, pa) :=
  ⟨W, H, t, tr, px, fl, lb, qu, kn, pa, st, ln, ar, ii, fg, bg, rfl, rfl, h, h2⟩
theorem bd_mk0 (k : Nat) (h : bd_B W H px fl) : i_Rel k (nI W, nI H, 0, 0, px, fl, lb, qu, kn, pa, st, ln, ar, ii) (nI W, nI H, 0, 0, px, fl, fg, bg, kn, st, pa) := bd_mk (t := 0) k h (Or.inl ⟨rfl, rfl⟩)
theorem bd_t256 (h : (tr = 0 ∧ t = 0) ∨ (tr = 1 ∧ bd_R W H px t lb kn pa st ln ar fg bg)) : t ≤ 256 := by
  rcases h with ⟨_, h⟩ | ⟨_, L, hF, _⟩
  · omega
  · exact bd_F_t hF
theorem bd_tk (h : (tr = 0 ∧ t = 0) ∨ (tr = 1 ∧ bd_R W H px t lb kn pa st ln ar fg bg)) {k : Nat} (hk : k < t) : tr ≠ 0 ∧ bd_R W H px t lb kn pa st ln ar fg bg := by
  rcases h with ⟨_, h⟩ | ⟨h1, h2⟩
  · omega
  · rw [h1]; exact ⟨bd_10, h2⟩
end
theorem bd_cl (x : Int32) : ∃ q : Nat, 1 ≤ q ∧ q ≤ 16 ∧ ((¬ 1 ≤ x ∧ q = 1) ∨ (1 ≤ x ∧ ¬ x ≤ 16 ∧ q = 16) ∨ (1 ≤ x ∧ x ≤ 16 ∧ x = nI q)) := by
  by_cases h1 : 1 ≤ x
  · by_cases h2 : x ≤ 16
    · have hn : ¬ x < 0 := fun z => by
        rw [Int32.lt_iff_toInt_lt, show (0 : Int32).toInt = 0 from by decide] at z
        rw [Int32.le_iff_toInt_le, show (1 : Int32).toInt = 1 from by decide] at h1
        omega
      obtain ⟨q, hq, e⟩ := nI_of2 (x := x) (M := 16) (n := 16) (by decide) hn h2
      refine ⟨q, ?_, hq, Or.inr (Or.inr ⟨h1, h2, e⟩)⟩
      rw [e, show (1 : Int32) = nI 1 from rfl, nI_leI (by omega) (by omega)] at h1
      exact h1
    · exact ⟨16, by omega, by omega, Or.inr (Or.inl ⟨h1, h2, rfl⟩)⟩
  · exact ⟨1, by omega, by omega, Or.inl ⟨h1, rfl⟩⟩
theorem x_cl {post : Int32 → Prop} {x : Int32} {q : Nat} (h : (¬ 1 ≤ x ∧ q = 1) ∨ (1 ≤ x ∧ ¬ x ≤ 16 ∧ q = 16) ∨ (1 ≤ x ∧ x ≤ 16 ∧ x = nI q)) (hp : post (nI q)) : wpX_clampSide post x := by
  rcases h with ⟨h1, rfl⟩ | ⟨h1, h2, rfl⟩ | ⟨h1, h2, rfl⟩
  · exact br_f h1 hp
  · exact br_t h1 (br_f h2 hp)
  · exact br_t h1 (br_t h2 hp)
theorem i_vc0 (k0 : Int32) (k1 : Int32) : wpX_init (fun u => wpY_init (fun v => i_Rel 2 u v) k0 k1) k0 k1 := by
  obtain ⟨W, w1, w2, hw⟩ := bd_cl k0
  obtain ⟨H, h1, h2, hh⟩ := bd_cl k1
  have fin : i_Rel 2 (nI W, nI H, 0, 0, (fun _ => 0), (fun _ => 0), (fun _ => 0), (fun _ => 0), (fun _ => 0), (fun _ => 0), (fun _ => 0), (fun _ => 0), (fun _ => 0), (fun _ => 0)) (nI W, nI H, 0, 0, (fun _ => 0), (fun _ => 0), (fun _ => 0), (fun _ => 0), (fun _ => 0), (fun _ => 0), (fun _ => 0)) :=
    bd_mk0 2 ⟨w1, w2, h1, h2, fun _ => Or.inl rfl, fun _ _ => ⟨rfl, rfl⟩⟩
  have in89 : wY_init_89 (fun v => i_Rel 2 (nI W, nI H, 0, 0, (fun _ => 0), (fun _ => 0), (fun _ => 0), (fun _ => 0), (fun _ => 0), (fun _ => 0), (fun _ => 0), (fun _ => 0), (fun _ => 0), (fun _ => 0)) v) k1 (nI W) 0 0 0 0 (fun _ => 0) (fun _ => 0) (fun _ => 0) (fun _ => 0) (fun _ => 0) (fun _ => 0) (fun _ => 0) := by
    rcases hh with ⟨a, rfl⟩ | ⟨a, b, rfl⟩ | ⟨a, b, rfl⟩
    · exact br_f a fin
    · exact br_t a (br_f b fin)
    · exact br_t a (br_t b fin)
  refine x_cl hw (x_cl hh ?_)
  rcases hw with ⟨a, rfl⟩ | ⟨a, b, rfl⟩ | ⟨a, b, rfl⟩
  · exact br_f a in89
  · exact br_t a (br_f b in89)
  · exact br_t a (br_t b in89)
end
section
/-! the methods -/
theorem bd_shr1 (x : Int32) (s : Int32) : (((x.toUInt32 >>> (s.toUInt32 &&& Int32.toUInt32 31)).toInt32) &&& 1) = 0 ∨ (((x.toUInt32 >>> (s.toUInt32 &&& Int32.toUInt32 31)).toInt32) &&& 1) = 1 := by
  obtain ⟨j, hj, e⟩ := pk_andE ((x.toUInt32 >>> (s.toUInt32 &&& Int32.toUInt32 31)).toInt32) (m := 1) 1 (by decide)
  rw [e]
  have : j = 0 ∨ j = 1 := by omega
  rcases this with rfl | rfl
  · exact Or.inl rfl
  · exact Or.inr rfl
theorem bd_B_put {W H : Nat} {px fl : Nat → Int32} (h : bd_B W H px fl) {a b : Nat} (ha : a < W) (hb : b < H) {v : Int32} (hv : v = 0 ∨ v = 1) : bd_B W H (upd px (b * 16 + a) v) fl := by
  obtain ⟨h1, h2, h3, h4, h5, h6⟩ := h
  refine ⟨h1, h2, h3, h4, fun i => ?_, fun i hi => ?_⟩
  · by_cases e : i = b * 16 + a
    · rw [e, pk_us]; exact hv
    · rw [pk_un e]; exact h5 i
  · rw [pk_un]
    · exact h6 i hi
    · intro e
      exact hi ⟨by omega, by omega⟩
theorem bd_B_fl {W H : Nat} {px fl : Nat → Int32} (h : bd_B W H px fl) {fl' : Nat → Int32} (hf : ∀ i, ¬ bd_in W H i → fl' i = 0) : bd_B W H px fl' := by
  obtain ⟨h1, h2, h3, h4, h5, h6⟩ := h
  exact ⟨h1, h2, h3, h4, h5, fun i hi => ⟨(h6 i hi).1, hf i hi⟩⟩
theorem i_vc_setPixel {k : Nat} {u : SX} {v : SY} (I : i_Rel k u v) (hk : k + 5 ≤ 2562) (v1 : Int32) (v2 : Int32) (v3 : Int32) : wpX_setPixel (fun r u' => wpY_setPixel (fun r' v' => r' = r ∧ i_Rel (k + 5) u' v') v v1 v2 v3) u v1 v2 v3 := by
  obtain ⟨W, H, t, tr, px, fl, lb, qu, kn, pa, st, ln, ar, ii, fg, bg, rfl, rfl, hB, hR⟩ := I
  have hW := hB.2.1
  have hH := hB.2.2.2.1
  have h256 := bd_B_256 hB
  unfold wpX_setPixel wpY_setPixel
  dsimp only
  refine x_pix hW hH (fun a b ea eb ha hb => br_f bd_10 ?_) (fun hno => br_t rfl (y_pix hW hH (fun a b ea eb ha hb => (hno a b ea eb ha hb).elim) (fun _ => br_t rfl ⟨rfl, bd_mk _ hB hR⟩)))
  subst ea eb
  have hv : vp_in (nI (b * 16 + a)) 256 := vp_in_nI (by omega) (by omega)
  have hc : (nI (b * 16 + a)).toNatClampNeg = b * 16 + a := nI_clamp (by omega)
  refine x_ri ?_
  have main : ∀ z0 : Int32, (z0 = 0 ∨ z0 = 1) → (wY_setPixel_30 (fun r' v' => r' = 1 ∧ i_Rel (k + 5) (nI W, nI H, 0, 0, upd px (b * 16 + a) z0, fun _ => 0, lb, qu, kn, pa, st, ln, ar, ii) v') z0 (nI (b * 16 + a)) (nI W) (nI H) tr (nI t) px fl fg bg kn st pa) := by
    intro z0 hz
    refine ⟨hv, nm_r (congrArg (fun z => upd px z z0) hc) (y_inv ⟨rfl, bd_mk0 _ (bd_B_fl (bd_B_put hB ha hb hz) (fun _ _ => rfl))⟩ h256)⟩
  refine br_c (fun e => ⟨hv, nm_r (congrArg (fun z => upd px z 0) hc) (x_inv (y_pix hW hH (fun a' b' ea eb ha' hb' => br_f bd_10 (br_t e ?_)) (fun hno => (hno a b rfl rfl ha hb).elim)) h256)⟩) (fun e => ⟨hv, nm_r (congrArg (fun z => upd px z 1) hc) (x_inv (y_pix hW hH (fun a' b' ea eb ha' hb' => br_f bd_10 (br_f e ?_)) (fun hno => (hno a b rfl rfl ha hb).elim)) h256)⟩)
  · rw [bd_ri]
    exact main 0 (Or.inl rfl)
  · rw [bd_ri]
    exact main 1 (Or.inr rfl)
section
variable {W H t : Nat} {tr tt : Int32} {px fl lb qu kn pa st ln ar ii fg bg : Nat → Int32}
/-- a row's bits, cell by cell -/
def bd_row (px : Nat → Int32) (b : Nat) (x : Int32) : Nat → Nat → Int32
  | 0 => px
  | a + 1 => upd (bd_row px b x a) (b * 16 + a) (((x.toUInt32 >>> ((nI a).toUInt32 &&& Int32.toUInt32 31)).toInt32) &&& 1)
theorem bd_B_row (h : bd_B W H px fl) {b : Nat} (hb : b < H) (x : Int32) : ∀ {a : Nat}, a ≤ W → bd_B W H (bd_row px b x a) fl
  | 0, _ => h
  | a + 1, ha => bd_B_put (bd_B_row h hb x (by omega)) (by omega) hb (bd_shr1 _ _)
theorem x_row {post : Int32 → SX → Prop} {b : Nat} {x : Int32} (hW : W ≤ 16) (hH : H ≤ 16) (hb : b < H) (h256 : ∀ j, 256 ≤ j → fl j = 0) (hp : post 1 (nI W, nI H, 0, 0, bd_row px b x W, fun _ => 0, lb, qu, kn, pa, st, ln, ar, ii)) :
    ∀ e a, a + e = W → ∀ n, e < n → wX_setRow_16 post (nI b) x (nI W) (nI H) tr tt n (nI a) (bd_row px b x a) fl lb qu kn pa st ln ar ii := by
  intro e
  induction e with
  | zero =>
    intro a ha n hn
    obtain ⟨n, rfl⟩ : ∃ m, n = m + 1 := ⟨n - 1, by omega⟩
    have : a = W := by omega
    subst this
    exact br_t (nI_le (by omega) (by omega)) (x_inv hp h256)
  | succ e ih =>
    intro a ha n hn
    obtain ⟨n, rfl⟩ : ∃ m, n = m + 1 := ⟨n - 1, by omega⟩
    exact br_f (nI_ge (by omega) (by omega)) (x_ri ⟨vp_in_nI (by omega) (by omega), nm_r (congrArg (fun z => upd (bd_row px b x a) z (((x.toUInt32 >>> ((nI a).toUInt32 &&& Int32.toUInt32 31)).toInt32) &&& 1)) (nI_clamp (by omega))) (nm_r (nI_1 a) (ih (a + 1) (by omega) n (by omega)))⟩)
theorem y_row {post : Int32 → SY → Prop} {b : Nat} {x : Int32} (hW : W ≤ 16) (hH : H ≤ 16) (hb : b < H) (h256 : ∀ j, 256 ≤ j → fl j = 0) (hp : post 1 (nI W, nI H, 0, 0, bd_row px b x W, fun _ => 0, fg, bg, kn, st, pa)) :
    ∀ e a, a + e = W → ∀ n, e < n → wY_setRow_16 post (nI b) x (nI W) (nI H) tr tt n (nI a) (bd_row px b x a) fl fg bg kn st pa := by
  intro e
  induction e with
  | zero =>
    intro a ha n hn
    obtain ⟨n, rfl⟩ : ∃ m, n = m + 1 := ⟨n - 1, by omega⟩
    have : a = W := by omega
    subst this
    exact br_t (nI_le (by omega) (by omega)) (y_inv hp h256)
  | succ e ih =>
    intro a ha n hn
    obtain ⟨n, rfl⟩ : ∃ m, n = m + 1 := ⟨n - 1, by omega⟩
    refine br_f (nI_ge (by omega) (by omega)) ?_
    rw [bd_ri]
    exact ⟨vp_in_nI (by omega) (by omega), nm_r (congrArg (fun z => upd (bd_row px b x a) z (((x.toUInt32 >>> ((nI a).toUInt32 &&& Int32.toUInt32 31)).toInt32) &&& 1)) (nI_clamp (by omega))) (nm_r (nI_1 a) (ih (a + 1) (by omega) n (by omega)))⟩
end
theorem i_vc_setRow {k : Nat} {u : SX} {v : SY} (I : i_Rel k u v) (hk : k + 5 ≤ 2562) (v1 : Int32) (v2 : Int32) : wpX_setRow (fun r u' => wpY_setRow (fun r' v' => r' = r ∧ i_Rel (k + 5) u' v') v v1 v2) u v1 v2 := by
  obtain ⟨W, H, t, tr, px, fl, lb, qu, kn, pa, st, ln, ar, ii, fg, bg, rfl, rfl, hB, hR⟩ := I
  have hW := hB.2.1
  have hH := hB.2.2.2.1
  have h256 := bd_B_256 hB
  by_cases h0 : v1 < 0
  · exact br_t h0 (br_t h0 ⟨rfl, bd_mk _ hB hR⟩)
  · obtain ⟨b, hb, rfl⟩ := nI_of h0
    by_cases h1 : nI b < nI H
    · have hbH : b < H := by
        rw [nI_ltI hb (by omega)] at h1
        exact h1
      refine br_f h0 (br_t h1 ⟨W + 1, x_row hW hH hbH h256 (br_f h0 (br_t h1 ⟨W + 1, y_row hW hH hbH h256 ⟨rfl, ?_⟩ W 0 (by omega) (W + 1) (by omega)⟩)) W 0 (by omega) (W + 1) (by omega)⟩)
      exact bd_mk0 _ (bd_B_fl (bd_B_row hB hbH v2 (Nat.le_refl W)) (fun _ _ => rfl))
    · exact br_f h0 (br_f h1 (br_f h0 (br_f h1 ⟨rfl, bd_mk _ hB hR⟩)))
theorem i_vc_getPixel {k : Nat} {u : SX} {v : SY} (I : i_Rel k u v) (hk : k + 5 ≤ 2562) (v1 : Int32) (v2 : Int32) : wpX_getPixel (fun r => wpY_getPixel (fun r' => r' = r ∧ i_Rel (k + 5) u v) v v1 v2) u v1 v2 := by
  have I' := i_up I
  obtain ⟨W, H, t, tr, px, fl, lb, qu, kn, pa, st, ln, ar, ii, fg, bg, rfl, rfl, hB, hR⟩ := I
  have hW := hB.2.1
  have hH := hB.2.2.2.1
  unfold wpX_getPixel wpY_getPixel
  dsimp only
  refine x_pix hW hH (fun a b ea eb ha hb => br_f bd_10 ?_) (fun hno => br_t rfl (y_pix hW hH (fun a b ea eb ha hb => (hno a b ea eb ha hb).elim) (fun _ => br_t rfl ⟨rfl, I'⟩)))
  subst ea eb
  have hv : vp_in (nI (b * 16 + a)) 256 := vp_in_nI (by omega) (by omega)
  refine x_ri ⟨hv, y_pix hW hH (fun _ _ _ _ _ _ => br_f bd_10 ?_) (fun hno => (hno a b rfl rfl ha hb).elim)⟩
  rw [bd_ri]
  exact ⟨hv, rfl, I'⟩
theorem i_vc_getFilled {k : Nat} {u : SX} {v : SY} (I : i_Rel k u v) (hk : k + 5 ≤ 2562) (v1 : Int32) (v2 : Int32) : wpX_getFilled (fun r => wpY_getFilled (fun r' => r' = r ∧ i_Rel (k + 5) u v) v v1 v2) u v1 v2 := by
  have I' := i_up I
  obtain ⟨W, H, t, tr, px, fl, lb, qu, kn, pa, st, ln, ar, ii, fg, bg, rfl, rfl, hB, hR⟩ := I
  have hW := hB.2.1
  have hH := hB.2.2.2.1
  unfold wpX_getFilled wpY_getFilled
  dsimp only
  refine x_pix hW hH (fun a b ea eb ha hb => br_f bd_10 ?_) (fun hno => br_t rfl (y_pix hW hH (fun a b ea eb ha hb => (hno a b ea eb ha hb).elim) (fun _ => br_t rfl ⟨rfl, I'⟩)))
  subst ea eb
  have hv : vp_in (nI (b * 16 + a)) 256 := vp_in_nI (by omega) (by omega)
  refine x_ri ⟨hv, y_pix hW hH (fun _ _ _ _ _ _ => br_f bd_10 ?_) (fun hno => (hno a b rfl rfl ha hb).elim)⟩
  rw [bd_ri]
  exact ⟨hv, rfl, I'⟩
theorem i_vc_trace {k : Nat} {u : SX} {v : SY} (I : i_Rel k u v) (hk : k + 5 ≤ 2562) : wpX_trace (fun r u' => wpY_trace (fun r' v' => r' = r ∧ i_Rel (k + 5) u' v') v) u := by
  obtain ⟨W, H, t, tr, px, fl, lb, qu, kn, pa, st, ln, ar, ii, fg, bg, rfl, rfl, hB, hR⟩ := I
  have h256 := bd_B_256 hB
  obtain ⟨L, hL⟩ := bd_LS_ex W H px
  have hC : bd_C W H px L := ⟨hB.1, hB.2.1, hB.2.2.1, hB.2.2.2.1, hB.2.2.2.2.1, hL⟩
  refine x_trace hC h256 (fun lb qu ln ar hF hl ha => y_trace hC h256 (fun fg bg hG => ⟨rfl, ?_⟩))
  exact bd_mk _ (bd_B_fl hB (fun _ _ => rfl)) (Or.inr ⟨rfl, L, hF, hG, hl, ha⟩)
theorem i_vc_contourCount {k : Nat} {u : SX} {v : SY} (I : i_Rel k u v) (hk : k + 5 ≤ 2562) : wpX_contourCount (fun r => wpY_contourCount (fun r' => r' = r ∧ i_Rel (k + 5) u v) v) u := by
  have I' := i_up I
  obtain ⟨W, H, t, tr, px, fl, lb, qu, kn, pa, st, ln, ar, ii, fg, bg, rfl, rfl, hB, hR⟩ := I
  exact br_c (fun e => br_t e ⟨rfl, I'⟩) (fun e => br_f e ⟨rfl, I'⟩)
theorem i_vc_contourKind {k : Nat} {u : SX} {v : SY} (I : i_Rel k u v) (hk : k + 5 ≤ 2562) (v1 : Int32) : wpX_contourKind (fun r => wpY_contourKind (fun r' => r' = r ∧ i_Rel (k + 5) u v) v v1) u v1 := by
  have I' := i_up I
  obtain ⟨W, H, t, tr, px, fl, lb, qu, kn, pa, st, ln, ar, ii, fg, bg, rfl, rfl, hB, hR⟩ := I
  have ht := bd_t256 hR
  unfold wpX_contourKind wpY_contourKind
  dsimp only
  refine x_isC ht (fun j ej hj => br_f bd_10 ?_) (fun hno => br_t rfl (y_val ht (fun _ j ej hj => (hno j ej hj).elim) (fun _ => br_t rfl ⟨rfl, I'⟩)))
  subst ej
  have hv : vp_in (nI j) 256 := vp_in_nI (by omega) (by omega)
  exact ⟨hv, y_val ht (fun _ _ _ _ => br_f bd_10 ⟨hv, rfl, I'⟩) (fun hno => (hno (bd_tk hR hj).1 j rfl hj).elim)⟩
theorem i_vc_contourParent {k : Nat} {u : SX} {v : SY} (I : i_Rel k u v) (hk : k + 5 ≤ 2562) (v1 : Int32) : wpX_contourParent (fun r => wpY_contourParent (fun r' => r' = r ∧ i_Rel (k + 5) u v) v v1) u v1 := by
  have I' := i_up I
  obtain ⟨W, H, t, tr, px, fl, lb, qu, kn, pa, st, ln, ar, ii, fg, bg, rfl, rfl, hB, hR⟩ := I
  have ht := bd_t256 hR
  unfold wpX_contourParent wpY_contourParent
  dsimp only
  refine x_isC ht (fun j ej hj => br_f bd_10 ?_) (fun hno => br_t rfl (y_val ht (fun _ j ej hj => (hno j ej hj).elim) (fun _ => br_t rfl ⟨rfl, I'⟩)))
  subst ej
  have hv : vp_in (nI j) 256 := vp_in_nI (by omega) (by omega)
  exact ⟨hv, y_val ht (fun _ _ _ _ => br_f bd_10 ⟨hv, rfl, I'⟩) (fun hno => (hno (bd_tk hR hj).1 j rfl hj).elim)⟩
theorem i_vc_contourStart {k : Nat} {u : SX} {v : SY} (I : i_Rel k u v) (hk : k + 5 ≤ 2562) (v1 : Int32) : wpX_contourStart (fun r => wpY_contourStart (fun r' => r' = r ∧ i_Rel (k + 5) u v) v v1) u v1 := by
  have I' := i_up I
  obtain ⟨W, H, t, tr, px, fl, lb, qu, kn, pa, st, ln, ar, ii, fg, bg, rfl, rfl, hB, hR⟩ := I
  have ht := bd_t256 hR
  unfold wpX_contourStart wpY_contourStart
  dsimp only
  refine x_isC ht (fun j ej hj => br_f bd_10 ?_) (fun hno => br_t rfl (y_val ht (fun _ j ej hj => (hno j ej hj).elim) (fun _ => br_t rfl ⟨rfl, I'⟩)))
  subst ej
  have hv : vp_in (nI j) 256 := vp_in_nI (by omega) (by omega)
  exact ⟨hv, y_val ht (fun _ _ _ _ => br_f bd_10 ⟨hv, rfl, I'⟩) (fun hno => (hno (bd_tk hR hj).1 j rfl hj).elim)⟩
theorem i_vc_contourLength {k : Nat} {u : SX} {v : SY} (I : i_Rel k u v) (hk : k + 5 ≤ 2562) (v1 : Int32) : wpX_contourLength (fun r => wpY_contourLength (fun r' => r' = r ∧ i_Rel (k + 5) u v) v v1) u v1 := by
  have I' := i_up I
  obtain ⟨W, H, t, tr, px, fl, lb, qu, kn, pa, st, ln, ar, ii, fg, bg, rfl, rfl, hB, hR⟩ := I
  have ht := bd_t256 hR
  unfold wpX_contourLength wpY_contourLength
  dsimp only
  refine x_isC ht (fun j ej hj => br_f bd_10 ?_) (fun hno => br_t rfl (y_val ht (fun _ j ej hj => (hno j ej hj).elim) (fun _ => br_t rfl ⟨rfl, I'⟩)))
  subst ej
  obtain ⟨htr, L, hF, hG, hl, ha⟩ := bd_tk hR hj
  have hv : vp_in (nI j) 256 := vp_in_nI (by omega) (by omega)
  refine ⟨hv, y_val ht (fun _ _ _ _ => br_f bd_10 ⟨257, ?_⟩) (fun hno => (hno htr j rfl hj).elim)⟩
  obtain ⟨c, hc, rfl⟩ := bd_F_c hF hj
  rw [nI_clamp (n := bd_N W H px L c) (by omega), hl c hc]
  exact y_l14 (bd_FY hF hG) hc ⟨rfl, I'⟩ 256 0 rfl 257 (by omega)
theorem i_vc_contourArea {k : Nat} {u : SX} {v : SY} (I : i_Rel k u v) (hk : k + 5 ≤ 2562) (v1 : Int32) : wpX_contourArea (fun r => wpY_contourArea (fun r' => r' = r ∧ i_Rel (k + 5) u v) v v1) u v1 := by
  have I' := i_up I
  obtain ⟨W, H, t, tr, px, fl, lb, qu, kn, pa, st, ln, ar, ii, fg, bg, rfl, rfl, hB, hR⟩ := I
  have ht := bd_t256 hR
  unfold wpX_contourArea wpY_contourArea
  dsimp only
  refine x_isC ht (fun j ej hj => br_f bd_10 ?_) (fun hno => br_t rfl (y_val ht (fun _ j ej hj => (hno j ej hj).elim) (fun _ => br_t rfl ⟨rfl, I'⟩)))
  subst ej
  obtain ⟨htr, L, hF, hG, hl, ha⟩ := bd_tk hR hj
  have hv : vp_in (nI j) 256 := vp_in_nI (by omega) (by omega)
  refine ⟨hv, y_val ht (fun _ _ _ _ => br_f bd_10 ⟨257, ?_⟩) (fun hno => (hno htr j rfl hj).elim)⟩
  rw [nI_clamp (n := j) (by omega), ha j hj]
  exact y_a14 hF hG hj ⟨rfl, I'⟩ 256 0 rfl 257 (by omega)
theorem i_vc_contourOf {k : Nat} {u : SX} {v : SY} (I : i_Rel k u v) (hk : k + 5 ≤ 2562) (v1 : Int32) (v2 : Int32) : wpX_contourOf (fun r => wpY_contourOf (fun r' => r' = r ∧ i_Rel (k + 5) u v) v v1 v2) u v1 v2 := by
  have I' := i_up I
  obtain ⟨W, H, t, tr, px, fl, lb, qu, kn, pa, st, ln, ar, ii, fg, bg, rfl, rfl, hB, hR⟩ := I
  have hW := hB.2.1
  have hH := hB.2.2.2.1
  refine br_c (fun e => br_t e ⟨rfl, I'⟩) (fun e => ?_)
  obtain ⟨_, L, hF, hG, _⟩ := hR.resolve_left (fun z => e z.1)
  refine x_labAt hW hH (fun a b ea eb ha hb => ?_) (fun hno => br_f e (y_pix hW hH (fun a b ea eb ha hb => (hno a b ea eb ha hb).elim) (fun _ => br_t rfl ⟨rfl, I'⟩)))
  subst ea eb
  have hin : bd_in W H (b * 16 + a) := ⟨by omega, by omega⟩
  rw [bd_F_lb hF hin]
  refine br_f e (y_pix hW hH (fun _ _ _ _ _ _ => br_f bd_10 ?_) (fun hno => (hno a b rfl rfl ha hb).elim))
  rw [bd_ri]
  exact y_own (bd_FY hF hG) hin ⟨rfl, I'⟩
theorem i_vc_hasEdge {k : Nat} {u : SX} {v : SY} (I : i_Rel k u v) (hk : k + 5 ≤ 2562) (v1 : Int32) (v2 : Int32) (v3 : Int32) (v4 : Int32) : wpX_hasEdge (fun r => wpY_hasEdge (fun r' => r' = r ∧ i_Rel (k + 5) u v) v v1 v2 v3 v4) u v1 v2 v3 v4 := by
  have I' := i_up I
  obtain ⟨W, H, t, tr, px, fl, lb, qu, kn, pa, st, ln, ar, ii, fg, bg, rfl, rfl, hB, hR⟩ := I
  have hW := hB.2.1
  have hH := hB.2.2.2.1
  have ht := bd_t256 hR
  unfold wpX_hasEdge wpY_hasEdge
  dsimp only
  refine x_isC ht (fun j ej hj => br_f bd_10 ?_) (fun hno => br_t rfl (y_val ht (fun _ j ej hj => (hno j ej hj).elim) (fun _ => br_t rfl ⟨rfl, I'⟩)))
  subst ej
  obtain ⟨htr, L, hF, hG, hl, ha⟩ := bd_tk hR hj
  have yv : ∀ {post : Int32 → Prop}, post 1 → wpY_valid post (nI W, nI H, tr, nI t, px, fl, fg, bg, kn, st, pa) (nI j) := fun {post} h => y_val ht (fun _ _ _ _ => h) (fun hno => (hno htr j rfl hj).elim)
  refine x_pix hW hH (fun a b ea eb ha hb => br_f bd_10 ?_) (fun hno => br_t rfl (yv (br_f bd_10 (y_pix hW hH (fun a b ea eb ha hb => (hno a b ea eb ha hb).elim) (fun _ => br_t rfl ⟨rfl, I'⟩)))))
  subst ea eb
  have hin : bd_in W H (b * 16 + a) := ⟨by omega, by omega⟩
  have yp : ∀ {post : Int32 → Prop}, post 1 → wpY_isPixel post (nI W, nI H, tr, nI t, px, fl, fg, bg, kn, st, pa) (nI a) (nI b) := fun {post} h => y_pix hW hH (fun _ _ _ _ _ _ => h) (fun hno => (hno a b rfl rfl ha hb).elim)
  rcases pk_ix v4 (n := 4) (by omega) with h4 | h4 | ⟨s, hs, rfl⟩
  · exact br_t h4 (yv (br_f bd_10 (yp (br_f bd_10 (br_t h4 ⟨rfl, I'⟩)))))
  · have h40 : ¬ v4 < 0 := fun z => by
      rw [Int32.lt_iff_toInt_lt, show (0 : Int32).toInt = 0 from by decide] at z
      rw [Int32.le_iff_toInt_le, nI_toInt (by omega)] at h4
      omega
    have h41 : ¬ v4 < 4 := Int32.not_lt.mpr h4
    have h42 : ¬ v4 ≤ 3 := fun z => by
      rw [Int32.le_iff_toInt_le, show (3 : Int32).toInt = 3 from by decide] at z
      rw [Int32.le_iff_toInt_le, nI_toInt (by omega)] at h4
      omega
    exact br_f h40 (br_f h41 (yv (br_f bd_10 (yp (br_f bd_10 (br_f h40 (br_f h42 ⟨rfl, I'⟩)))))))
  · have h0 : ¬ nI s < 0 := nI_pos (by omega)
    have h1 : nI s < 4 := nI_lt (b := 4) hs (by omega)
    have h3 : nI s ≤ 3 := nI_le (b := 3) (by omega) (by omega)
    obtain ⟨c, hc, rfl⟩ := bd_F_c hF hj
    have hc256 := bd_key_lt hF.1 hc
    refine br_f h0 (br_t h1 (x_ri ⟨vp_in_nI (by omega) (by omega), nm_r ((congrArg lb (nI_clamp (by omega))).trans (bd_F_lb hF hin)) (x_bey hF ha hb hs (x_isB hF hc (bd_F_ow hF hin) (bd_far_le hF ha hb hs) (fun he => ⟨rfl, ?_⟩) (fun he => ⟨rfl, ?_⟩)))⟩))
    · exact yv (br_f bd_10 (yp (br_f bd_10 (br_f h0 (br_t h3 (y_isE (bd_FY hF hG) hc ha hb hs (fun _ => ⟨rfl, rfl, I'⟩) (fun z => absurd he z)))))))
    · exact yv (br_f bd_10 (yp (br_f bd_10 (br_f h0 (br_t h3 (y_isE (bd_FY hF hG) hc ha hb hs (fun z => absurd z he) (fun _ => ⟨rfl, rfl, I'⟩)))))))
theorem bd_tg_out {W H : Nat} {px : Nat → Int32} {L : Nat → Nat} {pa fl : Nat → Int32} {k n i : Nat} (hi : ¬ bd_in W H i) : bd_tg (bd_Qk W H px L pa k) fl n i = fl i :=
  if_neg (fun z => absurd ((bd_Q_out hi).symm.trans z.2) (by decide))
theorem bd_fa_out {W H : Nat} {px : Nat → Int32} {L : Nat → Nat} {pa : Nat → Int32} {i : Nat} (hi : ¬ bd_in W H i) : ∀ k, bd_fa (bd_Qk W H px L pa) k i = 0
  | 0 => rfl
  | k + 1 => (bd_tg_out hi).trans (bd_fa_out hi k)
theorem i_vc_toggleFill {k : Nat} {u : SX} {v : SY} (I : i_Rel k u v) (hk : k + 5 ≤ 2562) (v1 : Int32) : wpX_toggleFill (fun r u' => wpY_toggleFill (fun r' v' => r' = r ∧ i_Rel (k + 5) u' v') v v1) u v1 := by
  obtain ⟨W, H, t, tr, px, fl, lb, qu, kn, pa, st, ln, ar, ii, fg, bg, rfl, rfl, hB, hR⟩ := I
  have ht := bd_t256 hR
  unfold wpX_toggleFill
  dsimp only
  refine x_isC ht (fun j ej hj => br_f bd_10 ?_) (fun hno => br_t rfl ?_)
  · subst ej
    obtain ⟨htr, L, hF, hG, hl, ha⟩ := bd_tk hR hj
    exact x_tog hF hj (fun ii => y_tog hF hG htr hj ⟨rfl, bd_mk _ (bd_B_fl hB (fun i hi => (bd_tg_out hi).trans (hB.2.2.2.2.2 i hi).2)) hR⟩)
  · unfold wpY_toggleFill
    dsimp only
    exact y_val ht (fun _ j ej hj => (hno j ej hj).elim) (fun _ => br_t rfl ⟨rfl, bd_mk _ hB hR⟩)
theorem i_vc_fillAll {k : Nat} {u : SX} {v : SY} (I : i_Rel k u v) (hk : k + 5 ≤ 2562) : wpX_fillAll (fun r u' => wpY_fillAll (fun r' v' => r' = r ∧ i_Rel (k + 5) u' v') v) u := by
  obtain ⟨W, H, t, tr, px, fl, lb, qu, kn, pa, st, ln, ar, ii, fg, bg, rfl, rfl, hB, hR⟩ := I
  have h256 := bd_B_256 hB
  by_cases e : tr = 0
  · exact br_t e (br_t e ⟨rfl, bd_mk _ hB hR⟩)
  · obtain ⟨_, L, hF, hG, _⟩ := hR.resolve_left (fun z => e z.1)
    exact x_fill hF e h256 (fun ii => y_fill hF hG e h256 ⟨rfl, bd_mk _ (bd_B_fl hB (fun i hi => bd_fa_out hi t)) hR⟩)
section
variable {W H t : Nat} {tr tt : Int32} {px fl lb qu kn pa st ln ar ii fg bg : Nat → Int32}
theorem xy_eq (hB : bd_B W H px fl) : ∀ e i, i + e = 256 → ∃ r : Int32, (∀ n, e < n → ∀ post : Int32 → Prop, post r → wX_filledEqualsBitmap_2 post (nI W) (nI H) tr tt px fl lb qu kn pa st ln ar ii n (nI i)) ∧ (∀ n, e < n → ∀ post : Int32 → Prop, post r → wY_filledEqualsBitmap_2 post (nI W) (nI H) tr tt px fl fg bg kn st pa n (nI i)) := by
  have hW := hB.2.1
  have hH := hB.2.2.2.1
  intro e
  induction e with
  | zero =>
    intro i hi
    refine ⟨1, fun n hn post hp => ?_, fun n hn post hp => ?_⟩
    · obtain ⟨n, rfl⟩ : ∃ m, n = m + 1 := ⟨n - 1, by omega⟩
      exact br_t (nI_le (a := 256) (by omega) (by omega)) hp
    · obtain ⟨n, rfl⟩ : ∃ m, n = m + 1 := ⟨n - 1, by omega⟩
      exact br_t (nI_le (a := 256) (by omega) (by omega)) hp
  | succ e ih =>
    intro i hi
    have hv : vp_in (nI i) 256 := vp_in_nI (by omega) (by omega)
    have hlt : ¬ (256 : Int32) ≤ nI i := nI_ge (b := 256) (by omega) (by omega)
    obtain ⟨r, hX, hY⟩ := ih (i + 1) (by omega)
    by_cases hq : fl i = px i
    · refine ⟨r, fun n hn post hp => ?_, fun n hn post hp => ?_⟩
      · obtain ⟨n, rfl⟩ : ∃ m, n = m + 1 := ⟨n - 1, by omega⟩
        refine br_f hlt ⟨hv, hv, ?_⟩
        rw [nI_clamp (n := i) (by omega)]
        exact br_t hq (nm_r (nI_1 i) (hX n (by omega) post hp))
      · obtain ⟨n, rfl⟩ : ∃ m, n = m + 1 := ⟨n - 1, by omega⟩
        refine br_f hlt (y_pixc (by omega) hW hH (fun z => br_f bd_10 ⟨hv, hv, ?_⟩) (fun z => br_t rfl (nm_r (nI_1 i) (hY n (by omega) post hp))))
        rw [nI_clamp (n := i) (by omega)]
        exact br_t hq (nm_r (nI_1 i) (hY n (by omega) post hp))
    · refine ⟨0, fun n hn post hp => ?_, fun n hn post hp => ?_⟩
      · obtain ⟨n, rfl⟩ : ∃ m, n = m + 1 := ⟨n - 1, by omega⟩
        refine br_f hlt ⟨hv, hv, ?_⟩
        rw [nI_clamp (n := i) (by omega)]
        exact br_f hq hp
      · obtain ⟨n, rfl⟩ : ∃ m, n = m + 1 := ⟨n - 1, by omega⟩
        refine br_f hlt (y_pixc (by omega) hW hH (fun z => br_f bd_10 ⟨hv, hv, ?_⟩) (fun z => ?_))
        · rw [nI_clamp (n := i) (by omega)]
          exact br_f hq hp
        · have := hB.2.2.2.2.2 i z
          exact absurd (this.2.trans this.1.symm) hq
end
theorem i_vc_filledEqualsBitmap {k : Nat} {u : SX} {v : SY} (I : i_Rel k u v) (hk : k + 5 ≤ 2562) : wpX_filledEqualsBitmap (fun r => wpY_filledEqualsBitmap (fun r' => r' = r ∧ i_Rel (k + 5) u v) v) u := by
  have I' := i_up I
  obtain ⟨W, H, t, tr, px, fl, lb, qu, kn, pa, st, ln, ar, ii, fg, bg, rfl, rfl, hB, hR⟩ := I
  obtain ⟨r, hX, hY⟩ := xy_eq (tr := tr) (tt := nI t) (lb := lb) (qu := qu) (kn := kn) (pa := pa) (st := st) (ln := ln) (ar := ar) (ii := ii) (fg := fg) (bg := bg) hB 256 0 rfl
  exact ⟨257, hX 257 (by omega) _ ⟨257, hY 257 (by omega) _ ⟨rfl, I'⟩⟩⟩
end
