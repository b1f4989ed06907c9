/-! sumAreas, and trace of the component whole -/
noncomputable def bd_arN (W H : Nat) (p : Nat → Int32) (L : Nat → Nat) (pa : Nat → Int32) (k : Nat) : Nat :=
  bd_ct (fun i => bd_in W H i ∧ bd_a (fun j => bd_dc (pa j)) k (bd_ow W H p L i) = true) 256
noncomputable def bd_fin (W H : Nat) (p : Nat → Int32) (L : Nat → Nat) (kn pa : Nat → Int32) (k : Nat) : Int32 :=
  if kn k = 2 then -nI (bd_arN W H p L pa k) else nI (bd_arN W H p L pa k)
section
variable {W H : Nat} {tr tt : Int32} {px fl lb qu kn pa st ln ar ii fg bg : Nat → Int32} {L : Nat → Nat} {t : Nat}
theorem bd_pp (hF : bd_F W H px L t lb kn pa st) {k : Nat} (hk : k < t) : pa k = bd_cd (bd_dc (pa k)) ∧ bd_dc (pa k) ≤ k := by
  obtain ⟨c, hc, rfl⟩ := bd_F_c hF hk
  have hp := bd_pv_le hF.1 hc
  have ht := bd_F_t hF
  rw [(hF.2.2.2 c hc).2.2, bd_dc_cd (by omega)]
  exact ⟨rfl, hp⟩
theorem bd_ppl (hF : bd_F W H px L t lb kn pa st) : ∀ j, j < t → (fun j => bd_dc (pa j)) j ≤ j := fun _ hj => (bd_pp hF hj).2
theorem bd_gc_ar (hF : bd_F W H px L t lb kn pa st) {k : Nat} (hk : k < t) : bd_gc (fun i => bd_in W H i) (fun j => bd_dc (pa j)) t (bd_ow W H px L) (t - 1 - k) k = bd_arN W H px L pa k :=
  bd_ct_eq fun i _ => ⟨fun z => ⟨z.1, (bd_g_end (bd_ppl hF) hk (bd_F_ow hF z.1)).mpr z.2⟩, fun z => ⟨z.1, (bd_g_end (bd_ppl hF) hk (bd_F_ow hF z.1)).mp z.2⟩⟩
theorem bd_lb_C (hF : bd_F W H px L t lb kn pa st) {i k : Nat} (hi : i < 256) (hk : k < t) (e : lb i = nI k) : bd_in W H i ∧ bd_ow W H px L i = k + 1 := by
  have ht := bd_F_t hF
  by_cases h : bd_in W H i
  · rw [bd_F_lb hF h, bd_cd_nI (bd_ow_lt hF.1 h) (by omega)] at e
    exact ⟨h, e⟩
  · rw [hF.2.2.1 i hi, bd_lab_out h] at e
    exact absurd e.symm (bd_nI_m2 (by omega))
def bd_S2 (W H : Nat) (p : Nat → Int32) (L : Nat → Nat) (kn pa : Nat → Int32) (t q : Nat) (ar : Nat → Int32) : Prop :=
  (∀ k, k < q → ar k = nI (bd_gc (fun i => bd_in W H i) (fun j => bd_dc (pa j)) t (bd_ow W H p L) (t - q) k)) ∧
  (∀ k, q ≤ k → k < t → ar k = bd_fin W H p L kn pa k)
theorem x_sa87 {post : St2 → Prop} {J : Int32 → (Nat → Int32) → (Nat → Int32) → (Nat → Int32) → (Nat → Int32) → (Nat → Int32) → (Nat → Int32) → (Nat → Int32) → (Nat → Int32) → (Nat → Int32) → (Nat → Int32) → Prop}
    {q : Nat} (hq : q < 256) (h2 : kn q = 2 → J (bd_cd q) px fl lb qu kn pa st ln (upd ar q (-(ar q))) ii) (h1 : ¬ kn q = 2 → J (bd_cd q) px fl lb qu kn pa st ln ar ii) : wX_sumAreas_87 post J (nI q) (nI W) (nI H) tr tt px fl lb qu kn pa st ln ar ii := by
  have hv : vp_in (nI q) 256 := vp_in_nI hq (by omega)
  have hc : (nI q).toNatClampNeg = q := nI_clamp (by omega)
  refine ⟨hv, ?_⟩
  rw [hc]
  exact br_c (fun e => ⟨hv, hv, nm_e (nm_r (bd_add q 0) (h2 e))⟩) (fun e => nm_r (bd_add q 0) (h1 e))
theorem x_sa50 {post : St2 → Prop} (hF : bd_F W H px L t lb kn pa st) (hp : ∀ ar, (∀ k, k < t → ar k = bd_fin W H px L kn pa k) → post (nI W, nI H, tr, nI t, px, fl, lb, qu, kn, pa, st, ln, ar, ii)) :
    ∀ q, q ≤ t → ∀ n, q < n → ∀ ar, bd_S2 W H px L kn pa t q ar → wX_sumAreas_50 post (nI W) (nI H) tr (nI t) n (bd_cd q) px fl lb qu kn pa st ln ar ii := by
  have ht := bd_F_t hF
  intro q
  induction q with
  | zero =>
    intro _ n hn ar h
    obtain ⟨n, rfl⟩ : ∃ m, n = m + 1 := ⟨n - 1, by omega⟩
    exact br_t (by decide) (hp ar (fun k hk => h.2 k (by omega) hk))
  | succ q ih =>
    intro hq n hn ar h
    obtain ⟨n, rfl⟩ : ∃ m, n = m + 1 := ⟨n - 1, by omega⟩
    obtain ⟨s1, s2⟩ := h
    have hv : vp_in (nI q) 256 := vp_in_nI (by omega) (by omega)
    obtain ⟨hpa, hpl⟩ := bd_pp hF (k := q) (by omega)
    have hd1 : t - (q + 1) < t := by omega
    have hd2 : t - 1 - (t - (q + 1)) = q := by omega
    have hd3 : t - (q + 1) + 1 = t - q := by omega
    have fin : ∀ ar1 : Nat → Int32, (∀ k, k < q → ar1 k = nI (bd_gc (fun i => bd_in W H i) (fun j => bd_dc (pa j)) t (bd_ow W H px L) (t - q) k)) →
        ar1 q = nI (bd_gc (fun i => bd_in W H i) (fun j => bd_dc (pa j)) t (bd_ow W H px L) (t - (q + 1)) q) → (∀ k, q + 1 ≤ k → k < t → ar1 k = bd_fin W H px L kn pa k) →
        wX_sumAreas_87 post (wX_sumAreas_50 post (nI W) (nI H) tr (nI t) n) (nI q) (nI W) (nI H) tr (nI t) px fl lb qu kn pa st ln ar1 ii := by
      intro ar1 a1 a2 a3
      have hq' := bd_gc_ar hF (k := q) (by omega)
      rw [show t - 1 - q = t - (q + 1) from by omega] at hq'
      rw [hq'] at a2
      refine x_sa87 (by omega) (fun e => ih (by omega) n (by omega) _ ⟨fun k hk => ?_, fun k hk1 hk2 => ?_⟩) (fun e => ih (by omega) n (by omega) _ ⟨a1, fun k hk1 hk2 => ?_⟩)
      · rw [pk_un (by omega)]; exact a1 k hk
      · by_cases ek : k = q
        · subst ek
          rw [pk_us, a2]
          unfold bd_fin
          rw [if_pos e]
        · rw [pk_un ek]; exact a3 k (by omega) hk2
      · by_cases ek : k = q
        · subst ek
          rw [a2]
          unfold bd_fin
          rw [if_neg e]
        · exact a3 k (by omega) hk2
    have hc : (nI q).toNatClampNeg = q := nI_clamp (by omega)
    rw [bd_cd_s]
    refine br_f (nI_pos (by omega)) ⟨hv, ?_⟩
    rw [hc]
    refine x_isC ht (fun m em hm => br_f bd_10 ?_) (fun hno => br_t rfl (fin ar (fun k hk => ?_) (s1 q (by omega)) s2))
    · have em' := em
      rw [hpa, bd_cd_nI (by omega) (by omega)] at em'
      have hvm : vp_in (nI m) 256 := vp_in_nI (by omega) (by omega)
      rw [em]
      refine ⟨hv, hvm, hv, hvm, nm_r (congrArg (fun z => upd ar z (ar z + ar q)) (nI_clamp (n := m) (by omega))) (fin _ (fun k hk => ?_) ?_ (fun k hk1 hk2 => ?_))⟩
      · by_cases ek : k = m
        · subst ek
          rw [pk_us, s1 k (by omega), s1 q (by omega), nI_add, ← hd3]
          have := bd_gc_t (I := fun i => bd_in W H i) (pp := fun j => bd_dc (pa j)) (own := bd_ow W H px L) (m := k) hd1 (by omega) (by rw [hd2]; exact em')
          rw [this, hd2]
        · rw [pk_un ek, s1 k (by omega), ← hd3]
          have := bd_gc_f (I := fun i => bd_in W H i) (pp := fun j => bd_dc (pa j)) (own := bd_ow W H px L) (m := k) hd1 (by omega) (by rw [hd2]; show bd_dc (pa q) ≠ k + 1; omega)
          rw [this]
      · rw [pk_un (by omega)]; exact s1 q (by omega)
      · rw [pk_un (by omega)]; exact s2 k hk1 hk2
    · have h0 : bd_dc (pa q) = 0 := by
        rcases Nat.eq_zero_or_pos (bd_dc (pa q)) with z | z
        · exact z
        · refine (hno (bd_dc (pa q) - 1) ?_ (by omega)).elim
          have := (bd_cd_nI (a := bd_dc (pa q)) (k := bd_dc (pa q) - 1) (by omega) (by omega)).mpr (by omega)
          exact hpa.trans this
      rw [s1 k (by omega), ← hd3]
      have := bd_gc_f (I := fun i => bd_in W H i) (pp := fun j => bd_dc (pa j)) (own := bd_ow W H px L) (m := k) hd1 (by omega) (by rw [hd2]; show bd_dc (pa q) ≠ k + 1; omega)
      rw [this]
theorem x_sa2 {post : St2 → Prop} (hF : bd_F W H px L t lb kn pa st) (hp : ∀ ar, (∀ k, k < t → ar k = bd_fin W H px L kn pa k) → post (nI W, nI H, tr, nI t, px, fl, lb, qu, kn, pa, st, ln, ar, ii)) :
    ∀ d i, i + d = 256 → ∀ n, d < n → ∀ ar, (∀ k, k < t → ar k = nI (bd_ct (fun j => bd_in W H j ∧ bd_ow W H px L j = k + 1) i)) → wX_sumAreas_2 post (nI W) (nI H) tr (nI t) n (nI i) px fl lb qu kn pa st ln ar ii := by
  have ht := bd_F_t hF
  intro d
  induction d with
  | zero =>
    intro i hi n hn ar h
    obtain ⟨n, rfl⟩ : ∃ m, n = m + 1 := ⟨n - 1, by omega⟩
    have : i = 256 := by omega
    subst this
    refine br_t (nI_le (a := 256) (by omega) (by omega)) (nm_r (bd_sub1 t) ⟨t + 1, x_sa50 hF hp t (Nat.le_refl t) (t + 1) (by omega) ar ⟨fun k hk => ?_, fun k h1 h2 => absurd h2 (by omega)⟩⟩)
    rw [Nat.sub_self]
    exact h k hk
  | succ d ih =>
    intro i hi n hn ar h
    obtain ⟨n, rfl⟩ : ∃ m, n = m + 1 := ⟨n - 1, by omega⟩
    have hv : vp_in (nI i) 256 := vp_in_nI (by omega) (by omega)
    refine br_f (nI_ge (b := 256) (by omega) (by omega)) ⟨hv, ?_⟩
    rw [nI_clamp (n := i) (by omega)]
    refine x_isC ht (fun k ek hk => br_f bd_10 ?_) (fun hno => br_t rfl (nm_r (nI_1 i) (ih (i + 1) (by omega) n (by omega) ar (fun k hk => ?_))))
    · obtain ⟨b1, b2⟩ := bd_lb_C hF (by omega) hk ek
      have hvk : vp_in (nI k) 256 := vp_in_nI (by omega) (by omega)
      rw [ek]
      refine ⟨hv, hvk, hvk, nm_r (congrArg (fun z => upd ar z (ar z + 1)) (nI_clamp (n := k) (by omega))) (nm_r (nI_1 i) (ih (i + 1) (by omega) n (by omega) _ (fun m hm => ?_)))⟩
      by_cases em : m = k
      · subst em
        rw [pk_us, h m hm, bd_ct_t (P := fun j => bd_in W H j ∧ bd_ow W H px L j = m + 1) ⟨b1, b2⟩, nI_1]
      · rw [pk_un em, h m hm, bd_ct_f (P := fun j => bd_in W H j ∧ bd_ow W H px L j = m + 1) (fun z => em (by have := z.2; omega))]
    · rw [h k hk, bd_ct_f (P := fun j => bd_in W H j ∧ bd_ow W H px L j = k + 1) (fun z => hno k (by rw [bd_F_lb hF z.1, z.2]; rfl) hk)]
theorem x_areas {post : St2 → Prop} (hF : bd_F W H px L t lb kn pa st) (h0 : ∀ k, k < t → ar k = 0) (hp : ∀ ar, (∀ k, k < t → ar k = bd_fin W H px L kn pa k) → post (nI W, nI H, tr, nI t, px, fl, lb, qu, kn, pa, st, ln, ar, ii)) : wpX_sumAreas post (nI W, nI H, tr, nI t, px, fl, lb, qu, kn, pa, st, ln, ar, ii) :=
  ⟨257, x_sa2 hF hp 256 0 rfl 257 (by omega) ar (fun k hk => h0 k hk)⟩
theorem x_trace {post : Int32 → St2 → Prop} (hC : bd_C W H px L) (hfl : ∀ j, 256 ≤ j → fl j = 0)
    (hp : ∀ lb qu ln ar, bd_F W H px L (bd_N W H px L 256) lb (bd_A W H px L (bd_kd W H px L) kn 256) (bd_A W H px L (fun i => bd_cd (bd_pv W H px L i)) pa 256) (bd_A W H px L nI st 256) →
      (∀ c, bd_key W H px L c → ln (bd_N W H px L c) = nI (bd_ct (bd_ed W H px L c) 1024)) →
      (∀ k, k < bd_N W H px L 256 → ar k = bd_fin W H px L (bd_A W H px L (bd_kd W H px L) kn 256) (bd_A W H px L (fun i => bd_cd (bd_pv W H px L i)) pa 256) k) →
      post (nI (bd_N W H px L 256)) (nI W, nI H, 1, nI (bd_N W H px L 256), px, fun _ => 0, lb, qu, bd_A W H px L (bd_kd W H px L) kn 256, bd_A W H px L (fun i => bd_cd (bd_pv W H px L i)) pa 256, bd_A W H px L nI st 256, ln, ar, ii)) :
    wpX_trace post (nI W, nI H, tr, tt, px, fl, lb, qu, kn, pa, st, ln, ar, ii) := by
  unfold wpX_trace
  dsimp only
  refine x_clr ?_ hfl
  dsimp only
  refine x_cll (fun lb h2 => ?_)
  dsimp only
  refine x_out hC h2 (fun lb qu hl => ?_)
  dsimp only
  refine ⟨H + 1, x_tr19 (kn0 := kn) (pa0 := pa) (st0 := st) (ln0 := ln) (ar0 := ar) hC (fun tt lb qu kn' pa' st' ln' ar' hT => ?_) H 0 (by omega) (H + 1) (by omega) _ _ _ _ _ _ _ _ ⟨rfl, fun j hj => hl j hj, rfl, rfl, rfl, rfl, rfl⟩⟩
  obtain ⟨rfl, t2, rfl, rfl, rfl, rfl, rfl⟩ := hT
  have hF : bd_F W H px L (bd_N W H px L 256) lb (bd_A W H px L (bd_kd W H px L) kn 256) (bd_A W H px L (fun i => bd_cd (bd_pv W H px L i)) pa 256) (bd_A W H px L nI st 256) := by
    refine ⟨hC, rfl, t2, fun c hc => ?_⟩
    have h := bd_key_lt hC hc
    exact ⟨bd_A_key hc h, bd_A_key hc h, bd_A_key hc h⟩
  refine x_edges hF (fun c hc => bd_A_key hc (bd_key_lt hC hc)) (fun ln hln => ?_)
  dsimp only
  refine x_areas hF (fun k hk => ?_) (fun ar har => ?_)
  · obtain ⟨c, hc, rfl⟩ := bd_F_c hF hk
    exact bd_A_key hc (bd_key_lt hC hc)
  · exact hp _ _ _ _ hF hln har
end
