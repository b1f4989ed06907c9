/-! areaOk -/
theorem bd_i1 (a s b : Int64) : a - s + -b = a - (s + b) := by grind
theorem bd_i2 (a s b : Int64) : -a + s + b = -a + (s + b) := Int64.add_assoc _ _ _
theorem bd_i3 (o s : Int64) : -(o + s) + s = -o := by grind
theorem bd_i4 (o s : Int64) : o + s - s = o := by grind
theorem bd_neg64 : ∀ A, A < 257 → (-(nI A)).toInt64 = -(lN A) := by decide +kernel
noncomputable def bd_V (W H : Nat) (p : Nat → Int32) (L : Nat → Nat) (kn pa : Nat → Int32) (k j : Nat) : Int64 :=
  if kn k = 2 then -(lN (bd_arN W H p L pa k)) + lN (bd_ch W H p L pa k j) else lN (bd_arN W H p L pa k) - lN (bd_ch W H p L pa k j)
section
variable {W H t : Nat} {tr tt : Int32} {px fl lb qu kn pa st ln ar ii : Nat → Int32} {L : Nat → Nat}
theorem bd_arN_le (k : Nat) : bd_arN W H px L pa k < 257 := by
  have := bd_ct_le (fun i => bd_in W H i ∧ bd_a (fun j => bd_dc (pa j)) k (bd_ow W H px L i) = true) 256
  unfold bd_arN
  omega
theorem bd_V_0 (k : Nat) : (bd_fin W H px L kn pa k).toInt64 = bd_V W H px L kn pa k 0 := by
  have h := bd_arN_le (W := W) (H := H) (px := px) (L := L) (pa := pa) k
  have z : lN (bd_ch W H px L pa k 0) = 0 := rfl
  unfold bd_fin bd_V
  by_cases e : kn k = 2
  · rw [if_pos e, if_pos e, bd_neg64 _ h, z]
    grind
  · rw [if_neg e, if_neg e, nI_l (by omega), z]
    grind
theorem bd_kinds (hF : bd_F W H px L t lb kn pa st) {k : Nat} (hk : k < t) : kn k = 1 ∨ kn k = 2 := by
  obtain ⟨c, hc, rfl⟩ := bd_F_c hF hk
  rw [(hF.2.2.2 c hc).1]
  unfold bd_kd
  by_cases ho : bd_ok W H px L c
  · rw [if_pos ho]; exact Or.inl rfl
  · rw [if_neg ho]; exact Or.inr rfl
theorem bd_V_no {k j : Nat} (h : ¬ bd_dc (pa j) = k + 1) : bd_V W H px L kn pa k (j + 1) = bd_V W H px L kn pa k j := by
  unfold bd_V
  rw [bd_ch_s, if_neg h]
theorem bd_V_ch (hF : bd_F W H px L t lb kn pa st) {k j : Nat} (hj : j < t) (hk : k < t) (h : bd_dc (pa j) = k + 1) : bd_V W H px L kn pa k j + (bd_fin W H px L kn pa j).toInt64 = bd_V W H px L kn pa k (j + 1) := by
  have hb := bd_arN_le (W := W) (H := H) (px := px) (L := L) (pa := pa) j
  have ha := bd_col_alt hF hj
  rw [h] at ha
  have ha' : decide (kn j = 1) = !(decide (kn k = 1)) := ha
  unfold bd_V bd_fin
  rw [bd_ch_s, if_pos h, ← lN_add]
  rcases bd_kinds hF hk with e | e
  · have ej : kn j = 2 := by
      rcases bd_kinds hF hj with z | z
      · rw [e, z] at ha'
        exact absurd ha' (by decide)
      · exact z
    have ek : ¬ kn k = 2 := by rw [e]; decide
    rw [if_neg ek, if_neg ek, if_pos ej, bd_neg64 _ hb, bd_i1]
  · have ej : kn j = 1 := by
      rcases bd_kinds hF hj with z | z
      · exact z
      · rw [e, z] at ha'
        exact absurd ha' (by decide)
    have ek : ¬ kn j = 2 := by rw [ej]; decide
    rw [if_pos e, if_pos e, if_neg ek, nI_l (by omega), bd_i2]
theorem l_cA {post : Int32 → Prop} {k : Nat} (ht : t ≤ 256) (hk : k < t) (hp : post (ar k)) : wpX_contourArea post (nI W, nI H, tr, nI t, px, fl, lb, qu, kn, pa, st, ln, ar, ii) (nI k) := by
  unfold wpX_contourArea
  dsimp only
  refine x_isC ht (fun _ _ _ => br_f bd_10 ⟨vp_in_nI (by omega) (by omega), ?_⟩) (fun hno => (hno k rfl hk).elim)
  rw [nI_clamp (n := k) (by omega)]
  exact hp
theorem l_cP {post : Int32 → Prop} {k : Nat} (ht : t ≤ 256) (hk : k < t) (hp : post (pa k)) : wpX_contourParent post (nI W, nI H, tr, nI t, px, fl, lb, qu, kn, pa, st, ln, ar, ii) (nI k) := by
  unfold wpX_contourParent
  dsimp only
  refine x_isC ht (fun _ _ _ => br_f bd_10 ⟨vp_in_nI (by omega) (by omega), ?_⟩) (fun hno => (hno k rfl hk).elim)
  rw [nI_clamp (n := k) (by omega)]
  exact hp
theorem l_cK {post : Int32 → Prop} {k : Nat} (ht : t ≤ 256) (hk : k < t) (hp : post (kn k)) : wpX_contourKind post (nI W, nI H, tr, nI t, px, fl, lb, qu, kn, pa, st, ln, ar, ii) (nI k) := by
  unfold wpX_contourKind
  dsimp only
  refine x_isC ht (fun _ _ _ => br_f bd_10 ⟨vp_in_nI (by omega) (by omega), ?_⟩) (fun hno => (hno k rfl hk).elim)
  rw [nI_clamp (n := k) (by omega)]
  exact hp
theorem l_cO {post : Int32 → Prop} {a b : Nat} (hF : bd_F W H px L t lb kn pa st) (ha : a < 16) (hb : b < 16) (h1 : bd_in W H (b * 16 + a) → post (bd_cd (bd_ow W H px L (b * 16 + a)))) (h0 : ¬ bd_in W H (b * 16 + a) → post (-1)) : wpX_contourOf post (nI W, nI H, 1, tt, px, fl, lb, qu, kn, pa, st, ln, ar, ii) (nI a) (nI b) := by
  have hW := hF.1.2.1
  have hH := hF.1.2.2.2.1
  refine br_f bd_10 (x_labAt hW hH (fun a' b' ea eb ha' hb' => ?_) (fun hno => h0 (fun z => hno a b rfl rfl (by omega) (by omega))))
  rw [nI_eq (by omega) (by omega)] at ea eb
  subst ea eb
  have hin : bd_in W H (b * 16 + a) := ⟨by omega, by omega⟩
  rw [bd_F_lb hF hin]
  exact h1 hin
theorem l_a76 {post : Int32 → Prop} {J13 : Int32 → Prop} {J66 : Int64 → Int32 → Prop} {x1 : Int32} {x3 : Int64} (hF : bd_F W H px L t lb kn pa st) {k b : Nat} (hk : k < t) (hb : b < 16)
    (hJ : J66 (lN (bd_ct (fun i => bd_in W H i ∧ bd_ow W H px L i = k + 1) ((b + 1) * 16))) (nI (b + 1))) :
    ∀ e a, a + e = 16 → ∀ n, e < n → wL_areaOk_76 post J13 J66 x1 (nI k) x3 (nI b) (nI W) (nI H) 1 tt px fl lb qu kn pa st ln ar ii n (lN (bd_ct (fun i => bd_in W H i ∧ bd_ow W H px L i = k + 1) (b * 16 + a))) (nI a) := by
  have ht := bd_F_t hF
  intro e
  induction e with
  | zero =>
    intro a ha n hn
    obtain ⟨n, rfl⟩ : ∃ m, n = m + 1 := ⟨n - 1, by omega⟩
    rw [show b * 16 + a = (b + 1) * 16 from by omega]
    exact br_t (nI_le (a := 16) (by omega) (by omega)) (nm_r (nI_1 b) hJ)
  | succ e ih =>
    intro a ha n hn
    obtain ⟨n, rfl⟩ : ∃ m, n = m + 1 := ⟨n - 1, by omega⟩
    have next := ih (a + 1) (by omega) n (by omega)
    rw [← Nat.add_assoc] at next
    refine br_f (nI_ge (b := 16) (by omega) (by omega)) (l_cO hF (by omega) hb (fun hin => br_c (fun z => ?_) (fun z => ?_)) (fun hin => br_f (fun z => bd_nI_m1 (k := k) (by omega) z.symm) ?_))
    · rw [bd_cd_nI (bd_ow_lt hF.1 hin) (by omega)] at z
      rw [bd_ct_t (P := fun i => bd_in W H i ∧ bd_ow W H px L i = k + 1) ⟨hin, z⟩] at next
      exact nm_r (lN_1 _) (nm_r (nI_1 a) next)
    · rw [bd_cd_nI (bd_ow_lt hF.1 hin) (by omega)] at z
      rw [bd_ct_f (P := fun i => bd_in W H i ∧ bd_ow W H px L i = k + 1) (fun y => z y.2)] at next
      exact nm_r (nI_1 a) next
    · rw [bd_ct_f (P := fun i => bd_in W H i ∧ bd_ow W H px L i = k + 1) (fun y => hin y.1)] at next
      exact nm_r (nI_1 a) next
theorem l_a66 {post : Int32 → Prop} {J13 : Int32 → Prop} {x1 : Int32} {x3 : Int64} (hF : bd_F W H px L t lb kn pa st) {k : Nat} (hk : k < t) (h1 : kn k = 1 → x3 = lN (bd_ct (fun i => bd_in W H i ∧ bd_ow W H px L i = k + 1) 256))
    (h2 : kn k = 2 → x3 = -(lN (bd_ct (fun i => bd_in W H i ∧ bd_ow W H px L i = k + 1) 256))) (hJ : J13 (nI (k + 1))) :
    ∀ e b, b + e = 16 → ∀ n, e < n → wL_areaOk_66 post J13 x1 (nI k) x3 (nI W) (nI H) 1 (nI t) px fl lb qu kn pa st ln ar ii n (lN (bd_ct (fun i => bd_in W H i ∧ bd_ow W H px L i = k + 1) (b * 16))) (nI b) := by
  have ht := bd_F_t hF
  intro e
  induction e with
  | zero =>
    intro b hb n hn
    obtain ⟨n, rfl⟩ : ∃ m, n = m + 1 := ⟨n - 1, by omega⟩
    have : b = 16 := by omega
    subst this
    refine br_t (nI_le (a := 16) (by omega) (by omega)) (l_cK ht hk ?_)
    rcases bd_kinds hF hk with z | z
    · exact br_t z (br_t (h1 z) (nm_r (nI_1 k) hJ))
    · exact br_f (by rw [z]; decide) (br_t z (br_t (h2 z) (nm_r (nI_1 k) hJ)))
  | succ e ih =>
    intro b hb n hn
    obtain ⟨n, rfl⟩ : ∃ m, n = m + 1 := ⟨n - 1, by omega⟩
    exact br_f (nI_ge (b := 16) (by omega) (by omega)) ⟨17, l_a76 hF hk (by omega) (ih (b + 1) (by omega) n (by omega)) 16 0 rfl 17 (by omega)⟩
theorem l_a28 {post : Int32 → Prop} {J13 : Int32 → Prop} (hF : bd_F W H px L t lb kn pa st) (har : ∀ k, k < t → ar k = bd_fin W H px L kn pa k) {k : Nat} (hk : k < t) (hJ : J13 (nI (k + 1))) :
    ∀ e j, j + e = t → ∀ n, e < n → wL_areaOk_28 post J13 (nI t) (nI k) (nI W) (nI H) 1 (nI t) px fl lb qu kn pa st ln ar ii n (bd_V W H px L kn pa k j) (nI j) := by
  have ht := bd_F_t hF
  intro e
  induction e with
  | zero =>
    intro j hj n hn
    obtain ⟨n, rfl⟩ : ∃ m, n = m + 1 := ⟨n - 1, by omega⟩
    have : j = t := by omega
    subst this
    have hA := bd_area hF hk
    refine br_t (nI_le (by omega) (by omega)) ⟨17, l_a66 hF hk (fun z => ?_) (fun z => ?_) hJ 16 0 rfl 17 (by omega)⟩
    · unfold bd_V
      rw [if_neg (by rw [z]; decide), hA, ← lN_add, bd_i4]
    · unfold bd_V
      rw [if_pos z, hA, ← lN_add, bd_i3]
  | succ e ih =>
    intro j hj n hn
    obtain ⟨n, rfl⟩ : ∃ m, n = m + 1 := ⟨n - 1, by omega⟩
    have next := ih (j + 1) (by omega) n (by omega)
    obtain ⟨p1, p2⟩ := bd_pp hF (k := j) (by omega)
    refine br_f (nI_ge (by omega) (by omega)) (l_cP ht (by omega) (br_c (fun z => ?_) (fun z => ?_)))
    · rw [p1, bd_cd_nI (by omega) (by omega)] at z
      refine l_cA ht (by omega) ?_
      rw [har j (by omega)]
      exact nm_r (bd_V_ch hF (by omega) hk z) (nm_r (nI_1 j) next)
    · rw [p1, bd_cd_nI (by omega) (by omega)] at z
      rw [bd_V_no z] at next
      exact nm_r (nI_1 j) next
theorem l_a13 {post : Int32 → Prop} (hF : bd_F W H px L t lb kn pa st) (har : ∀ k, k < t → ar k = bd_fin W H px L kn pa k) (hp : post 1) :
    ∀ e k, k + e = t → ∀ n, e < n → wL_areaOk_13 post (nI t) (nI W) (nI H) 1 (nI t) px fl lb qu kn pa st ln ar ii n (nI k) := by
  have ht := bd_F_t hF
  intro e
  induction e with
  | zero =>
    intro k hk n hn
    obtain ⟨n, rfl⟩ : ∃ m, n = m + 1 := ⟨n - 1, by omega⟩
    exact br_t (nI_le (by omega) (by omega)) hp
  | succ e ih =>
    intro k hk n hn
    obtain ⟨n, rfl⟩ : ∃ m, n = m + 1 := ⟨n - 1, by omega⟩
    refine br_f (nI_ge (by omega) (by omega)) (l_cA ht (by omega) ⟨t + 1, ?_⟩)
    rw [har k (by omega), bd_V_0]
    exact l_a28 hF har (by omega) (ih (k + 1) (by omega) n (by omega)) t 0 (by omega) (t + 1) (by omega)
theorem l_area {post : Int32 → Prop} {u : St2} (I : bd_Iv u) (hp : post 1) : wpL_areaOk post u := by
  obtain ⟨W, H, t, tr, px, fl, lb, qu, kn, pa, st, ln, ar, ii, rfl, hB, hR⟩ := I
  unfold wpL_areaOk wpX_contourCount
  dsimp only
  rcases hR with ⟨rfl, rfl⟩ | ⟨rfl, L, hF, har⟩
  · exact br_t rfl (br_f (by decide) hp)
  · have ht := bd_F_t hF
    exact br_f bd_10 (br_t (nI_pos' (by omega)) ⟨t + 1, l_a13 hF har hp t 0 (by omega) (t + 1) (by omega)⟩)
end
