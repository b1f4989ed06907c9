/-! the relaxation ends at the labels; the flood fills a component: pure -/
noncomputable def bd_nf (W H : Nat) (L s : Nat → Nat) : Nat := bd_ct (fun i => bd_in W H i ∧ s i ≠ L i) 256
def bd_lo (W H : Nat) (L s : Nat → Nat) : Prop := ∀ i, bd_in W H i → L i ≤ s i
def bd_src (W H : Nat) (p : Nat → Int32) (s : Nat → Nat) : Prop := ∀ i, bd_in W H i → s i ≤ i + 1 ∧ (p i = 0 → bd_rim W H i → s i = 0)
def bd_pass (W H : Nat) (p : Nat → Int32) (L s s' : Nat → Nat) : Prop :=
  (∀ i, bd_in W H i → L i ≤ s' i ∧ s' i ≤ s i) ∧ (∀ i q, bd_adj W H p i q → s' i ≤ s q)
section
variable {W H : Nat} {p : Nat → Int32} {L : Nat → Nat}
theorem bd_nf_0 (hC : bd_C W H p L) {s : Nat → Nat} (h : bd_nf W H L s = 0) {i : Nat} (hi : bd_in W H i) : s i = L i := by
  by_cases e : s i = L i
  · exact e
  · have := bd_ct_lt (P := fun _ => False) (Q := fun i => bd_in W H i ∧ s i ≠ L i) (a := i) (fun z => z) ⟨hi, e⟩ (N := 256) (fun _ _ z => z.elim) (bd_in_lt hC hi)
    unfold bd_nf at h
    omega
theorem bd_prog (hC : bd_C W H p L) {s s' : Nat → Nat} (hl : bd_lo W H L s) (hs : bd_src W H p s) (hp : bd_pass W H p L s s') (h0 : 0 < bd_nf W H L s) : bd_nf W H L s' < bd_nf W H L s := by
  obtain ⟨i, hi, hin, hne⟩ := bd_ct_ex h0
  have key : ∃ a b, bd_adj W H p a b ∧ s a = L a ∧ s b ≠ L b := by
    apply Classical.byContradiction
    intro hno
    have hcl : ∀ c d, s c = L c → bd_adj W H p c d → s d = L d := fun c d hc e =>
      Classical.byContradiction fun z => hno ⟨c, d, e, hc, z⟩
    rcases hC.2.2.2.2.2.2.1 i hin with ⟨e0, e1, j, hj, jin, jr⟩ | ⟨r, e1, hr, hj, rin, rL, _⟩
    · have q0 : s j = 0 := (hs j jin).2 ((bd_cn_p hj).trans e0) jr
      have q1 : L j = 0 := (bd_L_cn hC hj).symm.trans e1
      exact hne (bd_cn_symm hj (fun x => s x = L x) (q0.trans q1.symm) hcl)
    · have q0 := (hs r rin).1
      have q1 := hl r rin
      exact hne (bd_cn_symm hj (fun x => s x = L x) (by show s r = L r; omega) hcl)
  obtain ⟨a, b, hab, ha, hb⟩ := key
  have hbin := hab.2.1
  have e1 := hp.2 b a (bd_adj_symm hab)
  have e2 := (hp.1 b hbin).1
  have e3 := bd_L_adj hC hab
  refine bd_ct_lt (a := b) (fun z => z.2 (by omega)) ⟨hbin, hb⟩ (fun k _ z => ⟨z.1, fun y => z.2 ?_⟩) (bd_in_lt hC hbin)
  have := hp.1 k z.1
  omega
theorem bd_pass_lo {s s' : Nat → Nat} (hp : bd_pass W H p L s s') : bd_lo W H L s' := fun i hi => (hp.1 i hi).1
theorem bd_pass_src {s s' : Nat → Nat} (hp : bd_pass W H p L s s') (hs : bd_src W H p s) : bd_src W H p s' := fun i hi => by
  have h1 := (hp.1 i hi).2
  have h2 := hs i hi
  exact ⟨by omega, fun a b => by have := h2.2 a b; omega⟩
theorem bd_pass_nf (hC : bd_C W H p L) {s s' : Nat → Nat} {t : Nat} (hl : bd_lo W H L s) (hs : bd_src W H p s) (hp : bd_pass W H p L s s') (h : bd_nf W H L s = 0 ∨ t + bd_nf W H L s ≤ 256) : bd_nf W H L s' = 0 ∨ t + 1 + bd_nf W H L s' ≤ 256 := by
  rcases Nat.eq_zero_or_pos (bd_nf W H L s) with z | z
  · left
    refine bd_ct_z fun k hk y => y.2 ?_
    have e := bd_nf_0 hC z y.1
    have := hp.1 k y.1
    omega
  · have := bd_prog hC hl hs hp z
    omega
theorem bd_pass_fix (hC : bd_C W H p L) {s s' : Nat → Nat} (hl : bd_lo W H L s) (hs : bd_src W H p s) (hp : bd_pass W H p L s s') (he : ∀ i, bd_in W H i → s' i = s i) {i : Nat} (hi : bd_in W H i) : s' i = L i := by
  rw [he i hi]
  apply bd_nf_0 hC _ hi
  rcases Nat.eq_zero_or_pos (bd_nf W H L s) with z | z
  · exact z
  · have h1 := bd_prog hC hl hs hp z
    have h2 : bd_nf W H L s' = bd_nf W H L s := bd_ct_eq fun k _ => ⟨fun y => ⟨y.1, by rw [← he k y.1]; exact y.2⟩, fun y => ⟨y.1, by rw [he k y.1]; exact y.2⟩⟩
    omega
end
/-! the flood -/
def bd_FI (W H : Nat) (p lab0 : Nat → Int32) (f : Nat) (lb : Int32) (lab q : Nat → Int32) (n : Nat) : Prop :=
  (∀ j, lab j = lab0 j ∨ (lab j = lb ∧ bd_cn W H p f j)) ∧
  (∀ m, m < n → ∃ c, q m = nI c ∧ bd_cn W H p f c ∧ lab c = lb) ∧
  (∀ j, bd_cn W H p f j → lab j ≠ -2 → ∃ m, m < n ∧ q m = nI j) ∧
  bd_ct (fun j => lab j = -2) 256 + n ≤ 256 ∧ lab f = lb
def bd_FP (W H : Nat) (p lab q : Nat → Int32) (n : Nat) : Prop := ∀ m, m < n → ∀ c, c < 256 → q m = nI c → ∀ d, bd_adj W H p c d → lab d ≠ -2
section
variable {W H : Nat} {p lab0 : Nat → Int32} {f : Nat} {lb : Int32}
theorem bd_FI_0 (hf : f < 256) (h0 : ∀ j, bd_cn W H p f j → lab0 j = -2) (hb : lb ≠ -2) (q : Nat → Int32) : bd_FI W H p lab0 f lb (upd lab0 f lb) (upd q 0 (nI f)) 1 := by
  have hs : upd lab0 f lb f = lb := if_pos rfl
  refine ⟨fun j => ?_, fun m hm => ⟨f, ?_, bd_cn_refl, hs⟩, fun j hj hn => ⟨0, by omega, ?_⟩, ?_, hs⟩
  · by_cases e : j = f
    · subst e
      exact Or.inr ⟨hs, bd_cn_refl⟩
    · exact Or.inl (if_neg e)
  · have : m = 0 := by omega
    subst this
    exact if_pos rfl
  · by_cases e : j = f
    · subst e
      exact if_pos rfl
    · exact absurd ((if_neg e : upd lab0 f lb j = lab0 j).trans (h0 j hj)) hn
  · have := bd_ct_lt (P := fun j => upd lab0 f lb j = -2) (Q := fun _ => True) (a := f) (fun z => hb (hs.symm.trans z)) trivial (N := 256) (fun _ _ _ => trivial) hf
    have := bd_ct_le (fun _ => True) 256
    omega
theorem bd_FI_lt {lab q : Nat → Int32} {n d : Nat} (h : bd_FI W H p lab0 f lb lab q n) (hd : d < 256) (h2 : lab d = -2) : n < 256 := by
  have := bd_ct_lt (P := fun _ => False) (Q := fun j => lab j = -2) (a := d) (fun z => z) h2 (N := 256) (fun _ _ z => z.elim) hd
  have := h.2.2.2.1
  omega
theorem bd_FI_push (hb : lb ≠ -2) {lab q : Nat → Int32} {n d : Nat} (h : bd_FI W H p lab0 f lb lab q n) (hd : d < 256) (hc : bd_cn W H p f d) (h2 : lab d = -2) :
    bd_FI W H p lab0 f lb (upd lab d lb) (upd q n (nI d)) (n + 1) := by
  obtain ⟨f1, f2, f3, f4, f5⟩ := h
  have hs : upd lab d lb d = lb := if_pos rfl
  refine ⟨fun j => ?_, fun m hm => ?_, fun j hj hn => ?_, ?_, ?_⟩
  · by_cases e : j = d
    · subst e
      exact Or.inr ⟨hs, hc⟩
    · have : upd lab d lb j = lab j := if_neg e
      rw [this]
      exact f1 j
  · by_cases e : m = n
    · subst e
      exact ⟨d, if_pos rfl, hc, hs⟩
    · obtain ⟨c, c1, c2, c3⟩ := f2 m (by omega)
      have e1 : upd q n (nI d) m = q m := if_neg e
      refine ⟨c, e1.trans c1, c2, ?_⟩
      by_cases e2 : c = d
      · subst e2; exact hs
      · exact (if_neg e2 : upd lab d lb c = lab c).trans c3
  · by_cases e : j = d
    · subst e
      exact ⟨n, by omega, if_pos rfl⟩
    · have e1 : upd lab d lb j = lab j := if_neg e
      rw [e1] at hn
      obtain ⟨m, m1, m2⟩ := f3 j hj hn
      exact ⟨m, by omega, (if_neg (by omega) : upd q n (nI d) m = q m).trans m2⟩
  · have := bd_ct_lt (P := fun j => upd lab d lb j = -2) (Q := fun j => lab j = -2) (a := d) (fun z => hb (hs.symm.trans z)) h2 (N := 256) (fun k _ z => by
      by_cases e : k = d
      · subst e; exact h2
      · exact (if_neg e : upd lab d lb k = lab k).symm.trans z) hd
    omega
  · by_cases e : f = d
    · subst e; exact hs
    · exact (if_neg e : upd lab d lb f = lab f).trans f5
theorem bd_FP_push (hb : lb ≠ -2) {lab q : Nat → Int32} {n m d : Nat} (hm : m ≤ n) (h : bd_FP W H p lab q m) : bd_FP W H p (upd lab d lb) (upd q n (nI d)) m := by
  intro k hk c hc e x hx
  have e1 : upd q n (nI d) k = q k := if_neg (by omega)
  have := h k hk c hc (e1.symm.trans e) x hx
  by_cases e2 : x = d
  · subst e2
    exact fun z => hb ((if_pos rfl : upd lab x lb x = lb).symm.trans z)
  · exact fun z => this ((if_neg e2 : upd lab d lb x = lab x).symm.trans z)
theorem bd_FI_end (hin : ∀ j, bd_cn W H p f j → j < 256) (h0 : ∀ j, bd_cn W H p f j → lab0 j = -2) (hb : lb ≠ -2) {lab q : Nat → Int32} {n m : Nat} (h : bd_FI W H p lab0 f lb lab q n) (hp : bd_FP W H p lab q m) (hm : n ≤ m) (j : Nat) :
    (bd_cn W H p f j → lab j = lb) ∧ (¬ bd_cn W H p f j → lab j = lab0 j) := by
  obtain ⟨f1, f2, f3, f4, f5⟩ := h
  constructor
  · intro hc
    have := hc (fun x => lab x ≠ -2 ∧ bd_cn W H p f x) ⟨by rw [f5]; exact hb, bd_cn_refl⟩ (fun c d hcd e => by
      obtain ⟨k, k1, k2⟩ := f3 c hcd.2 hcd.1
      exact ⟨hp k (by omega) c (hin c hcd.2) k2 d e, bd_cn_step hcd.2 e⟩)
    rcases f1 j with z | z
    · exact absurd (z.trans (h0 j hc)) this.1
    · exact z.1
  · intro hc
    rcases f1 j with z | z
    · exact z
    · exact absurd z.2 hc
end
/-! directions: 0 .. 7, their steps plus one -/
def bd_sx : Nat → Nat
  | 1 => 2
  | 3 => 0
  | 4 => 0
  | 5 => 2
  | 6 => 0
  | 7 => 2
  | _ => 1
def bd_sy : Nat → Nat
  | 0 => 0
  | 2 => 2
  | 4 => 0
  | 5 => 0
  | 6 => 2
  | 7 => 2
  | _ => 1
theorem bd_dirs {u w : Nat} (hu : u ≤ 2) (hw : w ≤ 2) : (u = 1 ∧ w = 1) ∨ (∃ d, d < 8 ∧ u = bd_sx d ∧ w = bd_sy d) := by
  have h1 : u = 0 ∨ u = 1 ∨ u = 2 := by omega
  have h2 : w = 0 ∨ w = 1 ∨ w = 2 := by omega
  rcases h1 with rfl | rfl | rfl <;> rcases h2 with rfl | rfl | rfl
  · exact Or.inr ⟨4, by omega, rfl, rfl⟩
  · exact Or.inr ⟨3, by omega, rfl, rfl⟩
  · exact Or.inr ⟨6, by omega, rfl, rfl⟩
  · exact Or.inr ⟨0, by omega, rfl, rfl⟩
  · exact Or.inl ⟨rfl, rfl⟩
  · exact Or.inr ⟨2, by omega, rfl, rfl⟩
  · exact Or.inr ⟨5, by omega, rfl, rfl⟩
  · exact Or.inr ⟨1, by omega, rfl, rfl⟩
  · exact Or.inr ⟨7, by omega, rfl, rfl⟩
theorem bd_dirs4 {u w : Nat} (hu : u ≤ 2) (hw : w ≤ 2) (h : u = 1 ∨ w = 1) : (u = 1 ∧ w = 1) ∨ (∃ d, d < 4 ∧ u = bd_sx d ∧ w = bd_sy d) := by
  have h1 : u = 0 ∨ u = 1 ∨ u = 2 := by omega
  have h2 : w = 0 ∨ w = 1 ∨ w = 2 := by omega
  rcases h1 with rfl | rfl | rfl <;> rcases h2 with rfl | rfl | rfl
  · omega
  · exact Or.inr ⟨3, by omega, rfl, rfl⟩
  · omega
  · exact Or.inr ⟨0, by omega, rfl, rfl⟩
  · exact Or.inl ⟨rfl, rfl⟩
  · exact Or.inr ⟨2, by omega, rfl, rfl⟩
  · omega
  · exact Or.inr ⟨1, by omega, rfl, rfl⟩
  · omega
theorem bd_adj_dir {W H : Nat} {p : Nat → Int32} {c d : Nat} (h : bd_adj W H p c d) (h01 : p c = 0 ∨ p c = 1) :
    d = c ∨ ∃ s, s < (if p c = 1 then 8 else 4) ∧ d % 16 + 1 = c % 16 + bd_sx s ∧ d / 16 + 1 = c / 16 + bd_sy s := by
  obtain ⟨_, _, _, ⟨a1, a2, a3, a4⟩, a5⟩ := h
  have hu : d % 16 + 1 - c % 16 ≤ 2 := by omega
  have hw : d / 16 + 1 - c / 16 ≤ 2 := by omega
  rcases h01 with e | e
  · rw [if_neg (by rw [e]; exact bd_01)]
    rcases bd_dirs4 hu hw (by rcases a5 e with z | z <;> omega) with ⟨z1, z2⟩ | ⟨s, s1, s2, s3⟩
    · exact Or.inl (by omega)
    · exact Or.inr ⟨s, s1, by omega, by omega⟩
  · rw [if_pos e]
    rcases bd_dirs hu hw with ⟨z1, z2⟩ | ⟨s, s1, s2, s3⟩
    · exact Or.inl (by omega)
    · exact Or.inr ⟨s, s1, by omega, by omega⟩
