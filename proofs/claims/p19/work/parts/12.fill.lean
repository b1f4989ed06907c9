/-! toggles and fills: pure pictures, and the component's walks -/
def bd_tg (Q : Nat → Bool) (fl : Nat → Int32) (n : Nat) : Nat → Int32 := fun j => if j < n ∧ Q j = true then 1 - fl j else fl j
theorem bd_tg_0 (Q : Nat → Bool) (fl : Nat → Int32) : bd_tg Q fl 0 = fl := by
  funext j
  exact if_neg (fun z => absurd z.1 (Nat.not_lt_zero j))
theorem bd_tg_ge {Q : Nat → Bool} {fl : Nat → Int32} {n j : Nat} (h : n ≤ j) : bd_tg Q fl n j = fl j := if_neg (fun z => absurd z.1 (by omega))
theorem bd_tg_f {Q : Nat → Bool} {fl : Nat → Int32} {n : Nat} (h : Q n = false) : bd_tg Q fl (n + 1) = bd_tg Q fl n := by
  funext j
  unfold bd_tg
  by_cases e : j = n
  · subst e
    rw [if_neg (fun z => absurd (h.symm.trans z.2) (by decide)), if_neg (fun z => absurd z.1 (by omega))]
  · by_cases z : j < n ∧ Q j = true
    · rw [if_pos z, if_pos ⟨by omega, z.2⟩]
    · rw [if_neg z, if_neg (fun y => z ⟨by omega, y.2⟩)]
theorem bd_tg_t {Q : Nat → Bool} {fl : Nat → Int32} {n : Nat} (h : Q n = true) : upd (bd_tg Q fl n) n (1 - bd_tg Q fl n n) = bd_tg Q fl (n + 1) := by
  funext j
  by_cases e : j = n
  · subst e
    rw [pk_us, bd_tg_ge (Nat.le_refl j)]
    exact (if_pos ⟨by omega, h⟩).symm
  · rw [pk_un e]
    unfold bd_tg
    by_cases z : j < n ∧ Q j = true
    · rw [if_pos z, if_pos ⟨by omega, z.2⟩]
    · rw [if_neg z, if_neg (fun y => z ⟨by omega, y.2⟩)]
/-- is cell j inside contour k -/
def bd_Qk (W H : Nat) (p : Nat → Int32) (L : Nat → Nat) (pa : Nat → Int32) (k j : Nat) : Bool := decide (bd_in W H j) && bd_a (fun i => bd_dc (pa i)) k (bd_ow W H p L j)
def bd_fa (Q : Nat → Nat → Bool) : Nat → Nat → Int32
  | 0 => fun _ => 0
  | k + 1 => bd_tg (Q k) (bd_fa Q k) 256
def bd_sm (fl : Nat → Int32) : Nat → Int32
  | 0 => 0
  | n + 1 => bd_sm fl n + fl n
theorem bd_nb1 : vp_nar .boolean 1 = 1 := rfl
theorem bd_nb0 : vp_nar .boolean 0 = 0 := rfl
section
variable {W H : Nat} {tr tt : Int32} {px fl lb qu kn pa st ln ar ii fg bg : Nat → Int32} {L : Nat → Nat} {t : Nat}
theorem bd_Q_in {k j : Nat} (h : bd_in W H j) : bd_Qk W H px L pa k j = bd_a (fun i => bd_dc (pa i)) k (bd_ow W H px L j) := by
  unfold bd_Qk
  rw [decide_eq_true h, Bool.true_and]
theorem bd_Q_out {k j : Nat} (h : ¬ bd_in W H j) : bd_Qk W H px L pa k j = false := by
  unfold bd_Qk
  rw [decide_eq_false h, Bool.false_and]
theorem x_mk2 {post : St2 → Prop} (hF : bd_F W H px L t lb kn pa st) {k : Nat} (hk : k < t) (hp : ∀ ii, (∀ j, j < t → (ii j = 0 ↔ bd_a (fun i => bd_dc (pa i)) k (j + 1) = false)) → post (nI W, nI H, tr, nI t, px, fl, lb, qu, kn, pa, st, ln, ar, ii)) :
    ∀ d i, i + d = t → ∀ n, d < n → ∀ ii, (∀ j, j < i → (ii j = 0 ↔ bd_a (fun i => bd_dc (pa i)) k (j + 1) = false)) → wX_markInterior_2 post (nI k) (nI W) (nI H) tr (nI t) n (nI i) px fl lb qu kn pa st ln ar ii := by
  have ht := bd_F_t hF
  intro d
  induction d with
  | zero =>
    intro i hi n hn ii h
    obtain ⟨n, rfl⟩ : ∃ m, n = m + 1 := ⟨n - 1, by omega⟩
    exact br_t (nI_le (by omega) (by omega)) (hp ii (fun j hj => h j (by omega)))
  | succ d ih =>
    intro i hi n hn ii h
    obtain ⟨n, rfl⟩ : ∃ m, n = m + 1 := ⟨n - 1, by omega⟩
    have hv : vp_in (nI i) 256 := vp_in_nI (by omega) (by omega)
    have hc : (nI i).toNatClampNeg = i := nI_clamp (by omega)
    have next : ∀ x : Int32, (x = 0 ↔ bd_a (fun i => bd_dc (pa i)) k (i + 1) = false) → ∀ a, a = upd ii i x → ∀ z, z = nI i + 1 → wX_markInterior_2 post (nI k) (nI W) (nI H) tr (nI t) n z px fl lb qu kn pa st ln ar a := by
      intro x hx a ea z ez
      rw [ea, ez, nI_1]
      refine ih (i + 1) (by omega) n (by omega) _ (fun j hj => ?_)
      by_cases e : j = i
      · subst e; rw [pk_us]; exact hx
      · rw [pk_un e]; exact h j (by omega)
    have ha := bd_a_s (bd_ppl hF) (k := k) (j := i) (by omega)
    obtain ⟨hpa, hpl⟩ := bd_pp hF (k := i) (by omega)
    refine br_f (nI_ge (by omega) (by omega)) ?_
    rw [hc]
    refine br_c (fun e => ⟨hv, next _ ?_⟩) (fun e => ⟨hv, ?_⟩)
    · rw [nI_eq (by omega) (by omega)] at e
      rw [if_pos e] at ha
      rw [ha]
      exact ⟨fun z => absurd z (by decide), fun z => absurd z (by decide)⟩
    · rw [nI_eq (by omega) (by omega)] at e
      rw [if_neg e] at ha
      refine x_isC ht (fun m em hm => br_f bd_10 ?_) (fun hno => br_t rfl ⟨hv, next _ ?_⟩)
      · have em' := em
        rw [hpa, bd_cd_nI (by omega) (by omega)] at em'
        have hvm : vp_in (nI m) 256 := vp_in_nI (by omega) (by omega)
        have hm' := h m (by omega)
        have ha' : bd_a (fun i => bd_dc (pa i)) k (i + 1) = bd_a (fun i => bd_dc (pa i)) k (m + 1) := by
          rw [ha]
          show bd_a (fun i => bd_dc (pa i)) k (bd_dc (pa i)) = _
          rw [em']
        rw [em, nI_clamp (n := m) (by omega)]
        refine ⟨hv, hvm, br_c (fun z => ⟨hv, next _ ?_⟩) (fun z => ⟨hv, next _ ?_⟩)⟩
        · rw [ha']
          exact ⟨fun _ => hm'.mp z, fun _ => rfl⟩
        · rw [ha']
          exact ⟨fun y => absurd y (by decide), fun y => absurd (hm'.mpr y) z⟩
      · have h0 : bd_dc (pa i) = 0 := by
          rcases Nat.eq_zero_or_pos (bd_dc (pa i)) with z | z
          · exact z
          · refine (hno (bd_dc (pa i) - 1) ?_ (by omega)).elim
            have := (bd_cd_nI (a := bd_dc (pa i)) (k := bd_dc (pa i) - 1) (by omega) (by omega)).mpr (by omega)
            exact hpa.trans this
        have ha' : bd_a (fun i => bd_dc (pa i)) k (i + 1) = false := by
          rw [ha]
          show bd_a (fun i => bd_dc (pa i)) k (bd_dc (pa i)) = _
          rw [h0]
          rfl
        exact ⟨fun _ => ha', fun _ => rfl⟩
theorem x_tg7 {post : St2 → Prop} (hF : bd_F W H px L t lb kn pa st) {k : Nat} (hii : ∀ j, j < t → (ii j = 0 ↔ bd_a (fun i => bd_dc (pa i)) k (j + 1) = false)) (hp : post (nI W, nI H, tr, nI t, px, bd_tg (bd_Qk W H px L pa k) fl 256, lb, qu, kn, pa, st, ln, ar, ii)) :
    ∀ d i, i + d = 256 → ∀ n, d < n → wX_toggleInterior_7 post (nI W) (nI H) tr (nI t) n (nI i) px (bd_tg (bd_Qk W H px L pa k) fl i) lb qu kn pa st ln ar ii := by
  have ht := bd_F_t hF
  intro d
  induction d with
  | zero =>
    intro i hi n hn
    obtain ⟨n, rfl⟩ : ∃ m, n = m + 1 := ⟨n - 1, by omega⟩
    have : i = 256 := by omega
    subst this
    exact br_t (nI_le (a := 256) (by omega) (by omega)) hp
  | succ d ih =>
    intro i hi n hn
    obtain ⟨n, rfl⟩ : ∃ m, n = m + 1 := ⟨n - 1, by omega⟩
    have hv : vp_in (nI i) 256 := vp_in_nI (by omega) (by omega)
    have next := ih (i + 1) (by omega) n (by omega)
    refine br_f (nI_ge (b := 256) (by omega) (by omega)) ⟨hv, ?_⟩
    rw [nI_clamp (n := i) (by omega)]
    refine x_isC ht (fun m em hm => br_f bd_10 ?_) (fun hno => br_t rfl (nm_r (nI_1 i) ?_))
    · obtain ⟨b1, b2⟩ := bd_lb_C hF (by omega) hm em
      have hvm : vp_in (nI m) 256 := vp_in_nI (by omega) (by omega)
      have hQ : bd_Qk W H px L pa k i = bd_a (fun i => bd_dc (pa i)) k (m + 1) := by rw [bd_Q_in b1, b2]
      rw [em, nI_clamp (n := m) (by omega)]
      refine ⟨hv, hvm, br_c (fun z => nm_r (nI_1 i) ?_) (fun z => ⟨hv, hv, nm_r (bd_tg_t (hQ.trans ?_)) (nm_r (nI_1 i) next)⟩)⟩
      · rw [bd_tg_f (hQ.trans ((hii m hm).mp z))] at next
        exact next
      · exact eq_true_of_ne_false (fun y => z ((hii m hm).mpr y))
    · have hQ : bd_Qk W H px L pa k i = false := by
        by_cases hin : bd_in W H i
        · have h0 : bd_ow W H px L i = 0 := by
            have hle := bd_F_ow hF hin
            rcases Nat.eq_zero_or_pos (bd_ow W H px L i) with z | z
            · exact z
            · refine (hno (bd_ow W H px L i - 1) ?_ (by omega)).elim
              have := (bd_cd_nI (a := bd_ow W H px L i) (k := bd_ow W H px L i - 1) (by omega) (by omega)).mpr (by omega)
              exact (bd_F_lb hF hin).trans this
          rw [bd_Q_in hin, h0]
          rfl
        · exact bd_Q_out hin
      rw [bd_tg_f hQ] at next
      exact next
theorem x_tog {post : St2 → Prop} (hF : bd_F W H px L t lb kn pa st) {k : Nat} (hk : k < t) (hp : ∀ ii, post (nI W, nI H, tr, nI t, px, bd_tg (bd_Qk W H px L pa k) fl 256, lb, qu, kn, pa, st, ln, ar, ii)) : wpX_toggleInterior post (nI W, nI H, tr, nI t, px, fl, lb, qu, kn, pa, st, ln, ar, ii) (nI k) := by
  unfold wpX_toggleInterior
  dsimp only
  refine ⟨t + 1, x_mk2 hF hk (fun ii hii => ⟨257, ?_⟩) t 0 (by omega) (t + 1) (by omega) ii (fun j hj => absurd hj (Nat.not_lt_zero j))⟩
  have := x_tg7 (qu := qu) (ln := ln) (ar := ar) (tr := tr) (fl := fl) (post := post) hF hii (hp ii) 256 0 rfl 257 (by omega)
  rw [bd_tg_0] at this
  exact this
theorem x_cf4 {post : Int32 → Prop} (hp : post (bd_sm fl 256)) : ∀ d i, i + d = 256 → ∀ n, d < n → wX_countFilled_4 post (nI W) (nI H) tr tt px fl lb qu kn pa st ln ar ii n (bd_sm fl i) (nI i) := by
  intro d
  induction d with
  | zero =>
    intro i hi n hn
    obtain ⟨n, rfl⟩ : ∃ m, n = m + 1 := ⟨n - 1, by omega⟩
    have : i = 256 := by omega
    subst this
    exact br_t (nI_le (a := 256) (by omega) (by omega)) hp
  | succ d ih =>
    intro i hi n hn
    obtain ⟨n, rfl⟩ : ∃ m, n = m + 1 := ⟨n - 1, by omega⟩
    refine br_f (nI_ge (b := 256) (by omega) (by omega)) ⟨vp_in_nI (by omega) (by omega), nm_r (congrArg (fun z => bd_sm fl i + fl z) (nI_clamp (n := i) (by omega))) (nm_r (nI_1 i) (ih (i + 1) (by omega) n (by omega)))⟩
theorem x_cf {post : Int32 → Prop} (hp : post (bd_sm fl 256)) : wpX_countFilled post (nI W, nI H, tr, tt, px, fl, lb, qu, kn, pa, st, ln, ar, ii) := ⟨257, x_cf4 hp 256 0 rfl 257 (by omega)⟩
theorem x_fa15 {post : Int32 → St2 → Prop} (hF : bd_F W H px L t lb kn pa st) (hp : ∀ ii, post (bd_sm (bd_fa (bd_Qk W H px L pa) t) 256) (nI W, nI H, tr, nI t, px, bd_fa (bd_Qk W H px L pa) t, lb, qu, kn, pa, st, ln, ar, ii)) :
    ∀ d k, k + d = t → ∀ n, d < n → ∀ ii, wX_fillAll_15 post n (nI k) (nI W) (nI H) tr (nI t) px (bd_fa (bd_Qk W H px L pa) k) lb qu kn pa st ln ar ii := by
  have ht := bd_F_t hF
  intro d
  induction d with
  | zero =>
    intro k hk n hn ii
    obtain ⟨n, rfl⟩ : ∃ m, n = m + 1 := ⟨n - 1, by omega⟩
    have : k = t := by omega
    subst this
    exact br_t (nI_le (by omega) (by omega)) (x_cf (hp ii))
  | succ d ih =>
    intro k hk n hn ii
    obtain ⟨n, rfl⟩ : ∃ m, n = m + 1 := ⟨n - 1, by omega⟩
    exact br_f (nI_ge (by omega) (by omega)) (x_tog hF (by omega) (fun ii => nm_r (nI_1 k) (ih (k + 1) (by omega) n (by omega) ii)))
theorem x_fill {post : Int32 → St2 → Prop} (hF : bd_F W H px L t lb kn pa st) (htr : ¬ tr = 0) (hfl : ∀ j, 256 ≤ j → fl j = 0) (hp : ∀ ii, post (bd_sm (bd_fa (bd_Qk W H px L pa) t) 256) (nI W, nI H, tr, nI t, px, bd_fa (bd_Qk W H px L pa) t, lb, qu, kn, pa, st, ln, ar, ii)) :
    wpX_fillAll post (nI W, nI H, tr, nI t, px, fl, lb, qu, kn, pa, st, ln, ar, ii) :=
  br_f htr (x_clr ⟨t + 1, x_fa15 hF hp t 0 (by omega) (t + 1) (by omega) ii⟩ hfl)
end
