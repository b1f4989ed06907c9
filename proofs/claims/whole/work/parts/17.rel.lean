/-! the relation -/
def bd_R (W H : Nat) (p : Nat → Int32) (t : Nat) (lb kn pa st ln ar fg bg : Nat → Int32) : Prop :=
  ∃ L, bd_F W H p L t lb kn pa st ∧ bd_G W H p L fg bg ∧ (∀ c, bd_key W H p L c → ln (bd_N W H p L c) = nI (bd_ct (bd_ed W H p L c) 1024)) ∧ (∀ k, k < t → ar k = bd_fin W H p L kn pa k)
def bd_B (W H : Nat) (p fl : Nat → Int32) : Prop :=
  1 ≤ W ∧ W ≤ 16 ∧ 1 ≤ H ∧ H ≤ 16 ∧ (∀ i, p i = 0 ∨ p i = 1) ∧ (∀ i, ¬ bd_in W H i → p i = 0 ∧ fl i = 0)
def i_Rel (_ : Nat) (u : SX) (v : SY) : Prop :=
  ∃ (W H t : Nat) (tr : Int32) (px fl lb qu kn pa st ln ar ii fg bg : Nat → Int32), u = (nI W, nI H, tr, nI t, px, fl, lb, qu, kn, pa, st, ln, ar, ii) ∧ v = (nI W, nI H, tr, nI t, px, fl, fg, bg, kn, st, pa) ∧ bd_B W H px fl ∧ ((tr = 0 ∧ t = 0) ∨ (tr = 1 ∧ bd_R W H px t lb kn pa st ln ar fg bg))
theorem i_up {k : Nat} {u : SX} {v : SY} (h : i_Rel k u v) : i_Rel (k + 5) u v := h
section
variable {W H t : Nat} {tr : Int32} {px fl lb qu kn pa st ln ar ii fg bg : Nat → Int32}
theorem bd_B_256 (h : bd_B W H px fl) : ∀ j, 256 ≤ j → fl j = 0 := fun j hj => (h.2.2.2.2.2 j (fun z => by
  have := h.2.2.2.1
  obtain ⟨_, b⟩ := z
  omega)).2
theorem bd_mk (k : Nat) (h : bd_B W H px fl) (h2 : (tr = 0 ∧ t = 0) ∨ (tr = 1 ∧ bd_R W H px t lb kn pa st ln ar fg bg)) : i_Rel k (nI W, nI H, tr, nI t, px, fl, lb, qu, kn, pa, st, ln, ar, ii) (nI W, nI H, tr, nI t, px, fl, fg, bg, kn, st, pa) :=
  ⟨W, H, t, tr, px, fl, lb, qu, kn, pa, st, ln, ar, ii, fg, bg, rfl, rfl, h, h2⟩
theorem bd_mk0 (k : Nat) (h : bd_B W H px fl) : i_Rel k (nI W, nI H, 0, 0, px, fl, lb, qu, kn, pa, st, ln, ar, ii) (nI W, nI H, 0, 0, px, fl, fg, bg, kn, st, pa) := bd_mk (t := 0) k h (Or.inl ⟨rfl, rfl⟩)
theorem bd_t256 (h : (tr = 0 ∧ t = 0) ∨ (tr = 1 ∧ bd_R W H px t lb kn pa st ln ar fg bg)) : t ≤ 256 := by
  rcases h with ⟨_, h⟩ | ⟨_, L, hF, _⟩
  · omega
  · exact bd_F_t hF
theorem bd_tk (h : (tr = 0 ∧ t = 0) ∨ (tr = 1 ∧ bd_R W H px t lb kn pa st ln ar fg bg)) {k : Nat} (hk : k < t) : tr ≠ 0 ∧ bd_R W H px t lb kn pa st ln ar fg bg := by
  rcases h with ⟨_, h⟩ | ⟨h1, h2⟩
  · omega
  · rw [h1]; exact ⟨bd_10, h2⟩
end
theorem bd_cl (x : Int32) : ∃ q : Nat, 1 ≤ q ∧ q ≤ 16 ∧ ((¬ 1 ≤ x ∧ q = 1) ∨ (1 ≤ x ∧ ¬ x ≤ 16 ∧ q = 16) ∨ (1 ≤ x ∧ x ≤ 16 ∧ x = nI q)) := by
  by_cases h1 : 1 ≤ x
  · by_cases h2 : x ≤ 16
    · have hn : ¬ x < 0 := fun z => by
        rw [Int32.lt_iff_toInt_lt, show (0 : Int32).toInt = 0 from by decide] at z
        rw [Int32.le_iff_toInt_le, show (1 : Int32).toInt = 1 from by decide] at h1
        omega
      obtain ⟨q, hq, e⟩ := nI_of2 (x := x) (M := 16) (n := 16) (by decide) hn h2
      refine ⟨q, ?_, hq, Or.inr (Or.inr ⟨h1, h2, e⟩)⟩
      rw [e, show (1 : Int32) = nI 1 from rfl, nI_leI (by omega) (by omega)] at h1
      exact h1
    · exact ⟨16, by omega, by omega, Or.inr (Or.inl ⟨h1, h2, rfl⟩)⟩
  · exact ⟨1, by omega, by omega, Or.inl ⟨h1, rfl⟩⟩
theorem x_cl {post : Int32 → Prop} {x : Int32} {q : Nat} (h : (¬ 1 ≤ x ∧ q = 1) ∨ (1 ≤ x ∧ ¬ x ≤ 16 ∧ q = 16) ∨ (1 ≤ x ∧ x ≤ 16 ∧ x = nI q)) (hp : post (nI q)) : wpX_clampSide post x := by
  rcases h with ⟨h1, rfl⟩ | ⟨h1, h2, rfl⟩ | ⟨h1, h2, rfl⟩
  · exact br_f h1 hp
  · exact br_t h1 (br_f h2 hp)
  · exact br_t h1 (br_t h2 hp)
theorem i_vc0 (k0 : Int32) (k1 : Int32) : wpX_init (fun u => wpY_init (fun v => i_Rel 2 u v) k0 k1) k0 k1 := by
  obtain ⟨W, w1, w2, hw⟩ := bd_cl k0
  obtain ⟨H, h1, h2, hh⟩ := bd_cl k1
  have fin : i_Rel 2 (nI W, nI H, 0, 0, (fun _ => 0), (fun _ => 0), (fun _ => 0), (fun _ => 0), (fun _ => 0), (fun _ => 0), (fun _ => 0), (fun _ => 0), (fun _ => 0), (fun _ => 0)) (nI W, nI H, 0, 0, (fun _ => 0), (fun _ => 0), (fun _ => 0), (fun _ => 0), (fun _ => 0), (fun _ => 0), (fun _ => 0)) :=
    bd_mk0 2 ⟨w1, w2, h1, h2, fun _ => Or.inl rfl, fun _ _ => ⟨rfl, rfl⟩⟩
  have in89 : wY_init_89 (fun v => i_Rel 2 (nI W, nI H, 0, 0, (fun _ => 0), (fun _ => 0), (fun _ => 0), (fun _ => 0), (fun _ => 0), (fun _ => 0), (fun _ => 0), (fun _ => 0), (fun _ => 0), (fun _ => 0)) v) k1 (nI W) 0 0 0 0 (fun _ => 0) (fun _ => 0) (fun _ => 0) (fun _ => 0) (fun _ => 0) (fun _ => 0) (fun _ => 0) := by
    rcases hh with ⟨a, rfl⟩ | ⟨a, b, rfl⟩ | ⟨a, b, rfl⟩
    · exact br_f a fin
    · exact br_t a (br_f b fin)
    · exact br_t a (br_t b fin)
  refine x_cl hw (x_cl hh ?_)
  rcases hw with ⟨a, rfl⟩ | ⟨a, b, rfl⟩ | ⟨a, b, rfl⟩
  · exact br_f a in89
  · exact br_t a (br_f b in89)
  · exact br_t a (br_t b in89)
