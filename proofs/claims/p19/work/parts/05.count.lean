/-! one crack, counted at both regions: pure -/
def bd_inc (P : Prop) (k : Nat) (l l' : Nat → Int32) : Prop := (P → l' = upd l k (l k + 1)) ∧ (¬ P → l' = l)
def bd_E (W H : Nat) (p : Nat → Int32) (L : Nat → Nat) (a b c : Nat) : Prop := a = bd_ow W H p L c ∧ b = bd_bo W H p L c
section
variable {W H : Nat} {p : Nat → Int32} {L : Nat → Nat}
theorem bd_ob (hC : bd_C W H p L) {c : Nat} (h : bd_key W H p L c) :
    (bd_ow W H p L c = bd_N W H p L c + 1 ∧ bd_bo W H p L c ≤ bd_N W H p L c) ∨ (bd_ow W H p L c ≤ bd_N W H p L c ∧ bd_bo W H p L c = bd_N W H p L c + 1) := by
  have hp := bd_pv_le hC h
  unfold bd_pv at hp
  unfold bd_bo
  by_cases ho : bd_ok W H p L c
  · rw [if_pos ho] at hp ⊢
    exact Or.inl ⟨bd_ow_ok hC ho, hp⟩
  · rw [if_neg ho] at hp ⊢
    exact Or.inr ⟨hp, bd_ow_hk hC (h.resolve_left ho)⟩
theorem bd_len (hC : bd_C W H p L) {a b : Nat} {l l1 l2 : Nat → Int32}
    (h1 : bd_inc (∃ c, bd_key W H p L c ∧ a = bd_N W H p L c + 1 ∧ bd_E W H p L a b c) (a - 1) l l1)
    (h2 : bd_inc (∃ c, bd_key W H p L c ∧ b = bd_N W H p L c + 1 ∧ bd_E W H p L a b c) (b - 1) l1 l2)
    {c : Nat} (h : bd_key W H p L c) : (bd_E W H p L a b c → l2 (bd_N W H p L c) = l (bd_N W H p L c) + 1) ∧ (¬ bd_E W H p L a b c → l2 (bd_N W H p L c) = l (bd_N W H p L c)) := by
  have hob := bd_ob hC h
  have n1 : ∀ P : Prop, (P ∨ ¬ P) := Classical.em
  have s1 : (a = bd_N W H p L c + 1 ∧ bd_E W H p L a b c → l1 (bd_N W H p L c) = l (bd_N W H p L c) + 1) ∧ (¬ (a = bd_N W H p L c + 1 ∧ bd_E W H p L a b c) → l1 (bd_N W H p L c) = l (bd_N W H p L c)) := by
    constructor
    · intro ⟨e1, e2⟩
      rw [h1.1 ⟨c, h, e1, e2⟩, show a - 1 = bd_N W H p L c from by omega]
      exact pk_us
    · intro hn
      rcases n1 (∃ c, bd_key W H p L c ∧ a = bd_N W H p L c + 1 ∧ bd_E W H p L a b c) with z | z
      · rw [h1.1 z]
        obtain ⟨d, hd, e1, e2⟩ := z
        refine pk_un fun y => hn ?_
        have : d = c := bd_N_inj hd h (by omega)
        subst this
        exact ⟨e1, e2⟩
      · rw [h1.2 z]
  have s2 : (b = bd_N W H p L c + 1 ∧ bd_E W H p L a b c → l2 (bd_N W H p L c) = l1 (bd_N W H p L c) + 1) ∧ (¬ (b = bd_N W H p L c + 1 ∧ bd_E W H p L a b c) → l2 (bd_N W H p L c) = l1 (bd_N W H p L c)) := by
    constructor
    · intro ⟨e1, e2⟩
      rw [h2.1 ⟨c, h, e1, e2⟩, show b - 1 = bd_N W H p L c from by omega]
      exact pk_us
    · intro hn
      rcases n1 (∃ c, bd_key W H p L c ∧ b = bd_N W H p L c + 1 ∧ bd_E W H p L a b c) with z | z
      · rw [h2.1 z]
        obtain ⟨d, hd, e1, e2⟩ := z
        refine pk_un fun y => hn ?_
        have : d = c := bd_N_inj hd h (by omega)
        subst this
        exact ⟨e1, e2⟩
      · rw [h2.2 z]
  constructor
  · intro he
    have ea := he.1
    have eb := he.2
    rcases hob with ⟨o1, o2⟩ | ⟨o1, o2⟩
    · rw [s2.2 (fun z => by have := z.1; omega)]
      exact s1.1 ⟨by omega, he⟩
    · rw [s2.1 ⟨by omega, he⟩, s1.2 (fun z => by have := z.1; omega)]
  · intro hn
    rw [s2.2 (fun z => hn z.2), s1.2 (fun z => hn z.2)]
end
/-! even-odd: the kinds alternate along the parents, so the toggles of a chain leave the kind's colour -/
def bd_fl (pp : Nat → Nat) (q : Nat) : Nat → Bool
  | 0 => false
  | k + 1 => if bd_a pp k q = true then !(bd_fl pp q k) else bd_fl pp q k
