/-! the relation -/
def bd_B (W H : Nat) (p fl : Nat → Int32) : Prop :=
  1 ≤ W ∧ W ≤ 16 ∧ 1 ≤ H ∧ H ≤ 16 ∧ (∀ i, p i = 0 ∨ p i = 1) ∧ (∀ i, ¬ bd_in W H i → p i = 0 ∧ fl i = 0)
section
variable {W H t : Nat} {tr : Int32} {px fl lb qu kn pa st ln ar ii fg bg : Nat → Int32}
theorem bd_B_256 (h : bd_B W H px fl) : ∀ j, 256 ≤ j → fl j = 0 := fun j hj => (h.2.2.2.2.2 j (fun z => by
  have := h.2.2.2.1
  obtain ⟨_, b⟩ := z
  omega)).2
end
theorem bd_cl (x : Int32) : ∃ q : Nat, 1 ≤ q ∧ q ≤ 16 ∧ ((¬ 1 ≤ x ∧ q = 1) ∨ (1 ≤ x ∧ ¬ x ≤ 16 ∧ q = 16) ∨ (1 ≤ x ∧ x ≤ 16 ∧ x = nI q)) := by
  by_cases h1 : 1 ≤ x
  · by_cases h2 : x ≤ 16
    · have hn : ¬ x < 0 := fun z => by
        rw [Int32.lt_iff_toInt_lt, show (0 : Int32).toInt = 0 from by decide] at z
        rw [Int32.le_iff_toInt_le, show (1 : Int32).toInt = 1 from by decide] at h1
        omega
      obtain ⟨q, hq, e⟩ := nI_of2 (x := x) (M := 16) (n := 16) (by decide) hn h2
      refine ⟨q, ?_, hq, Or.inr (Or.inr ⟨h1, h2, e⟩)⟩
      rw [e, show (1 : Int32) = nI 1 from rfl, nI_leI (by omega) (by omega)] at h1
      exact h1
    · exact ⟨16, by omega, by omega, Or.inr (Or.inl ⟨h1, h2, rfl⟩)⟩
  · exact ⟨1, by omega, by omega, Or.inl ⟨h1, rfl⟩⟩
theorem x_cl {post : Int32 → Prop} {x : Int32} {q : Nat} (h : (¬ 1 ≤ x ∧ q = 1) ∨ (1 ≤ x ∧ ¬ x ≤ 16 ∧ q = 16) ∨ (1 ≤ x ∧ x ≤ 16 ∧ x = nI q)) (hp : post (nI q)) : wpX_clampSide post () x := by
  rcases h with ⟨h1, rfl⟩ | ⟨h1, h2, rfl⟩ | ⟨h1, h2, rfl⟩
  · exact br_f h1 hp
  · exact br_t h1 (br_f h2 hp)
  · exact br_t h1 (br_t h2 hp)
/-! the methods -/
theorem bd_shr1 (x : Int32) (s : Int32) : (((x.toUInt32 >>> (s.toUInt32 &&& Int32.toUInt32 31)).toInt32) &&& 1) = 0 ∨ (((x.toUInt32 >>> (s.toUInt32 &&& Int32.toUInt32 31)).toInt32) &&& 1) = 1 := by
  obtain ⟨j, hj, e⟩ := pk_andE ((x.toUInt32 >>> (s.toUInt32 &&& Int32.toUInt32 31)).toInt32) (m := 1) 1 (by decide)
  rw [e]
  have : j = 0 ∨ j = 1 := by omega
  rcases this with rfl | rfl
  · exact Or.inl rfl
  · exact Or.inr rfl
theorem bd_B_put {W H : Nat} {px fl : Nat → Int32} (h : bd_B W H px fl) {a b : Nat} (ha : a < W) (hb : b < H) {v : Int32} (hv : v = 0 ∨ v = 1) : bd_B W H (upd px (b * 16 + a) v) fl := by
  obtain ⟨h1, h2, h3, h4, h5, h6⟩ := h
  refine ⟨h1, h2, h3, h4, fun i => ?_, fun i hi => ?_⟩
  · by_cases e : i = b * 16 + a
    · rw [e, pk_us]; exact hv
    · rw [pk_un e]; exact h5 i
  · rw [pk_un]
    · exact h6 i hi
    · intro e
      exact hi ⟨by omega, by omega⟩
theorem bd_B_fl {W H : Nat} {px fl : Nat → Int32} (h : bd_B W H px fl) {fl' : Nat → Int32} (hf : ∀ i, ¬ bd_in W H i → fl' i = 0) : bd_B W H px fl' := by
  obtain ⟨h1, h2, h3, h4, h5, h6⟩ := h
  exact ⟨h1, h2, h3, h4, h5, fun i hi => ⟨(h6 i hi).1, hf i hi⟩⟩
section
variable {W H t : Nat} {tr tt : Int32} {px fl lb qu kn pa st ln ar ii fg bg : Nat → Int32}
/-- a row's bits, cell by cell -/
def bd_row (px : Nat → Int32) (b : Nat) (x : Int32) : Nat → Nat → Int32
  | 0 => px
  | a + 1 => upd (bd_row px b x a) (b * 16 + a) (((x.toUInt32 >>> ((nI a).toUInt32 &&& Int32.toUInt32 31)).toInt32) &&& 1)
theorem bd_B_row (h : bd_B W H px fl) {b : Nat} (hb : b < H) (x : Int32) : ∀ {a : Nat}, a ≤ W → bd_B W H (bd_row px b x a) fl
  | 0, _ => h
  | a + 1, ha => bd_B_put (bd_B_row h hb x (by omega)) (by omega) hb (bd_shr1 _ _)
theorem x_row {post : Int32 → St2 → Prop} {b : Nat} {x : Int32} (hW : W ≤ 16) (hH : H ≤ 16) (hb : b < H) (h256 : ∀ j, 256 ≤ j → fl j = 0) (hp : post 1 (nI W, nI H, 0, 0, bd_row px b x W, fun _ => 0, lb, qu, kn, pa, st, ln, ar, ii)) :
    ∀ e a, a + e = W → ∀ n, e < n → wX_setRow_16 post (nI b) x (nI W) (nI H) tr tt n (nI a) (bd_row px b x a) fl lb qu kn pa st ln ar ii := by
  intro e
  induction e with
  | zero =>
    intro a ha n hn
    obtain ⟨n, rfl⟩ : ∃ m, n = m + 1 := ⟨n - 1, by omega⟩
    have : a = W := by omega
    subst this
    exact br_t (nI_le (by omega) (by omega)) (x_inv hp h256)
  | succ e ih =>
    intro a ha n hn
    obtain ⟨n, rfl⟩ : ∃ m, n = m + 1 := ⟨n - 1, by omega⟩
    exact br_f (nI_ge (by omega) (by omega)) (x_ri ⟨vp_in_nI (by omega) (by omega), nm_r (congrArg (fun z => upd (bd_row px b x a) z (((x.toUInt32 >>> ((nI a).toUInt32 &&& Int32.toUInt32 31)).toInt32) &&& 1)) (nI_clamp (by omega))) (nm_r (nI_1 a) (ih (a + 1) (by omega) n (by omega)))⟩)
end
theorem bd_tg_out {W H : Nat} {px : Nat → Int32} {L : Nat → Nat} {pa fl : Nat → Int32} {k n i : Nat} (hi : ¬ bd_in W H i) : bd_tg (bd_Qk W H px L pa k) fl n i = fl i :=
  if_neg (fun z => absurd ((bd_Q_out hi).symm.trans z.2) (by decide))
theorem bd_fa_out {W H : Nat} {px : Nat → Int32} {L : Nat → Nat} {pa : Nat → Int32} {i : Nat} (hi : ¬ bd_in W H i) : ∀ k, bd_fa (bd_Qk W H px L pa) k i = 0
  | 0 => rfl
  | k + 1 => (bd_tg_out hi).trans (bd_fa_out hi k)
section
variable {W H t : Nat} {tr tt : Int32} {px fl lb qu kn pa st ln ar ii fg bg : Nat → Int32}
end
