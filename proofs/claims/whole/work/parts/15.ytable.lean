/-! the reference's table of contours, its parents, its trace whole -/
def bd_Y (W H : Nat) (p : Nat → Int32) (L : Nat → Nat) (t : Nat) (kn st fg bg : Nat → Int32) : Prop :=
  bd_C W H p L ∧ t = bd_N W H p L 256 ∧ bd_G W H p L fg bg ∧ (∀ c, bd_key W H p L c → kn (bd_N W H p L c) = bd_kd W H p L c ∧ st (bd_N W H p L c) = nI c)
section
variable {W H : Nat} {tr tt : Int32} {px fl lb qu kn pa st ln ar ii fg bg : Nat → Int32} {L : Nat → Nat} {t : Nat}
theorem bd_Y_t (hY : bd_Y W H px L t kn st fg bg) : t ≤ 256 := by
  rw [hY.2.1]
  exact bd_N_le 256
theorem bd_Y_k (hY : bd_Y W H px L t kn st fg bg) {c : Nat} (h : bd_key W H px L c) : bd_N W H px L c < t := by
  rw [hY.2.1]
  exact bd_N_lt h (bd_key_lt hY.1 h)
theorem bd_Y_c (hY : bd_Y W H px L t kn st fg bg) {k : Nat} (h : k < t) : ∃ c, bd_key W H px L c ∧ k = bd_N W H px L c := by
  rw [hY.2.1] at h
  obtain ⟨c, _, h2, h3⟩ := bd_N_ex h
  exact ⟨c, h2, h3.symm⟩
theorem bd_FY (hF : bd_F W H px L t lb kn pa st) (hG : bd_G W H px L fg bg) : bd_Y W H px L t kn st fg bg :=
  ⟨hF.1, hF.2.1, hG, fun c hc => ⟨(hF.2.2.2 c hc).1, (hF.2.2.2 c hc).2.1⟩⟩
theorem y_find {post : Int32 → Prop} (hY : bd_Y W H px L t kn st fg bg) {c : Nat} {v : Int32} (hc : bd_key W H px L c) (hv : bd_kd W H px L c = v) (hp : post (nI (bd_N W H px L c))) : wpY_findContour post (nI W, nI H, tr, nI t, px, fl, fg, bg, kn, st, pa) v (nI c) := by
  have ht := bd_Y_t hY
  have hk := bd_Y_k hY hc
  have hc256 := bd_key_lt hY.1 hc
  have main : ∀ e k, k + e = bd_N W H px L c → ∀ n, e < n → wY_findContour_2 post v (nI c) (nI W) (nI H) tr (nI t) px fl fg bg kn st pa n (nI k) := by
    intro e
    induction e with
    | zero =>
      intro k he n hn
      obtain ⟨n, rfl⟩ : ∃ m, n = m + 1 := ⟨n - 1, by omega⟩
      have : k = bd_N W H px L c := by omega
      subst this
      have hvk : vp_in (nI (bd_N W H px L c)) 256 := vp_in_nI (by omega) (by omega)
      refine br_f (nI_ge hk (by omega)) ⟨hvk, ?_⟩
      rw [nI_clamp (by omega), (hY.2.2.2 c hc).1, (hY.2.2.2 c hc).2]
      exact br_t hv ⟨hvk, br_t rfl hp⟩
    | succ e ih =>
      intro k he n hn
      obtain ⟨n, rfl⟩ : ∃ m, n = m + 1 := ⟨n - 1, by omega⟩
      have hvk : vp_in (nI k) 256 := vp_in_nI (by omega) (by omega)
      have next : ∀ z, z = nI k + 1 → wY_findContour_2 post v (nI c) (nI W) (nI H) tr (nI t) px fl fg bg kn st pa n z := by
        intro z ez
        rw [ez, nI_1]
        exact ih (k + 1) (by omega) n (by omega)
      obtain ⟨d, hd, ek⟩ := bd_Y_c hY (k := k) (by omega)
      have hd256 := bd_key_lt hY.1 hd
      have hst : st k = nI d := by rw [ek]; exact (hY.2.2.2 d hd).2
      refine br_f (nI_ge (by omega) (by omega)) ⟨hvk, ?_⟩
      rw [nI_clamp (n := k) (by omega), hst]
      refine br_c (fun _ => ⟨hvk, br_f (fun z => ?_) next⟩) (fun _ => next)
      rw [nI_eq (by omega) (by omega)] at z
      subst z
      omega
  exact ⟨bd_N W H px L c + 1, main (bd_N W H px L c) 0 (by omega) (bd_N W H px L c + 1) (by omega)⟩
theorem y_findF {post : Int32 → Prop} (hY : bd_Y W H px L t kn st fg bg) {i : Nat} (hi : bd_in W H i) (h1 : px i = 1) (hp : post (bd_cd (bd_ow W H px L i))) : wpY_findContour post (nI W, nI H, tr, nI t, px, fl, fg, bg, kn, st, pa) 1 (bd_cd (L i)) := by
  obtain ⟨a1, a2, a3⟩ := bd_kc_fg hY.1 hi h1
  rw [bd_ow_n (by omega), bd_cd_s] at hp
  rw [a3, bd_cd_s]
  exact y_find hY (Or.inl a1) (if_pos a1) hp
theorem y_findB {post : Int32 → Prop} (hY : bd_Y W H px L t kn st fg bg) {i : Nat} (hi : bd_in W H i) (h0 : px i = 0) (hn : L i ≠ 0) (hp : post (bd_cd (bd_ow W H px L i))) : wpY_findContour post (nI W, nI H, tr, nI t, px, fl, fg, bg, kn, st, pa) 2 (bd_cd (L i) - 1) := by
  obtain ⟨a1, a2, a3⟩ := bd_kc_bg hY.1 hi h0 hn
  rw [bd_ow_n hn, bd_cd_s] at hp
  rw [a3, bd_cd_s, nI_pred]
  exact y_find hY (Or.inr a1) (if_neg (bd_excl hY.1 a1)) hp
theorem y_own {post : Int32 → Prop} (hY : bd_Y W H px L t kn st fg bg) {i : Nat} (hi : bd_in W H i) (hp : post (bd_cd (bd_ow W H px L i))) : wpY_ownerOf post (nI W, nI H, tr, nI t, px, fl, fg, bg, kn, st, pa) (nI i) := by
  have hi256 := bd_in_lt hY.1 hi
  have hL := bd_L_le hY.1 hi
  have hv : vp_in (nI i) 256 := vp_in_nI hi256 (by omega)
  unfold wpY_ownerOf
  dsimp only
  refine ⟨hv, ?_⟩
  rw [nI_clamp (n := i) (by omega)]
  refine br_c (fun e => ⟨hv, ?_⟩) (fun e => ⟨hv, ?_⟩)
  · rw [(hY.2.2.1 i hi).1 e]
    exact y_findF hY hi e hp
  · have e0 : px i = 0 := (hY.1.2.2.2.2.1 i).resolve_right e
    refine nm_r ((hY.2.2.1 i hi).2 e0) (br_c (fun z => ?_) (fun z => ?_))
    · rw [bd_cd_nn (by omega)] at z
      exact y_findB hY hi e0 (by omega) hp
    · rw [bd_cd_nn (by omega)] at z
      rw [bd_ow_0 (by omega)] at hp
      exact hp
theorem y_fgl {post : Int32 → Prop} (hY : bd_Y W H px L t kn st fg bg) {c : Nat} (hc : bd_key W H px L c) (hp : post (bd_cd (L c))) : wpY_fgLabel post (nI W, nI H, tr, tt, px, fl, fg, bg, kn, st, pa) (nI (bd_N W H px L c)) := by
  have ht := bd_Y_t hY
  have hk := bd_Y_k hY hc
  have hc256 := bd_key_lt hY.1 hc
  obtain ⟨p1, p2⟩ := bd_key_p hY.1 hc
  have hv : vp_in (nI (bd_N W H px L c)) 256 := vp_in_nI (by omega) (by omega)
  refine ⟨hv, ?_⟩
  rw [nI_clamp (by omega), (hY.2.2.2 c hc).1, (hY.2.2.2 c hc).2, nI_clamp (n := c) (by omega)]
  refine br_c (fun e => ⟨hv, ?_⟩) (fun e => ⟨hv, vp_in_nI hc256 (by omega), ?_⟩)
  · have ho : bd_ok W H px L c := Classical.byContradiction fun z => absurd ((if_neg z : bd_kd W H px L c = 2).symm.trans e) (by decide)
    rw [ho.2.2] at hp
    exact hp
  · rw [(hY.2.2.1 c p1).1 p2]
    exact hp
theorem y_bgl {post : Int32 → Prop} (hY : bd_Y W H px L t kn st fg bg) {c : Nat} (hc : bd_key W H px L c) (hp : post (bd_cd (bd_bl W H px L c))) : wpY_bgLabel post (nI W, nI H, tr, tt, px, fl, fg, bg, kn, st, pa) (nI (bd_N W H px L c)) := by
  have ht := bd_Y_t hY
  have hk := bd_Y_k hY hc
  have hc256 := bd_key_lt hY.1 hc
  have hv : vp_in (nI (bd_N W H px L c)) 256 := vp_in_nI (by omega) (by omega)
  unfold bd_bl at hp
  refine ⟨hv, ?_⟩
  rw [nI_clamp (by omega), (hY.2.2.2 c hc).1, (hY.2.2.2 c hc).2]
  by_cases ho : bd_ok W H px L c
  · rw [if_pos ho] at hp
    refine br_f (by rw [show bd_kd W H px L c = 1 from if_pos ho]; decide) ⟨hv, ?_⟩
    rw [bd_m15 hc256]
    refine pk_eq (c % 16) 0 (fun z => ?_) (fun z => ⟨hv, ?_⟩)
    · rw [if_pos z] at hp
      exact hp
    · rw [if_neg z] at hp
      obtain ⟨l1, l2⟩ := bd_left hY.1 ho z
      have e : nI c - 1 = nI (c - 1) := by
        rw [show (1 : Int32) = nI 1 from rfl, pk_sub (by omega)]
      rw [e, nI_clamp (n := c - 1) (by omega), (hY.2.2.1 _ l1).2 l2]
      exact ⟨vp_in_nI (by omega) (by omega), hp⟩
  · rw [if_neg ho, (hc.resolve_left ho).2.2.2] at hp
    refine br_t (if_neg ho) ⟨hv, ?_⟩
    rw [nI_1]
    exact hp
theorem y_t349 {post : Int32 → SY → Prop} (hY : bd_Y W H px L t kn st fg bg) {P : Nat → Int32} (hP : ∀ c, bd_key W H px L c → P (bd_N W H px L c) = bd_cd (bd_pv W H px L c))
    (hp : post (nI t) (nI W, nI H, 1, nI t, px, fl, fg, bg, kn, st, P)) :
    ∀ e k, k + e = t → ∀ n, e < n → ∀ pa, (∀ j, j < k → pa j = P j) → (∀ j, t ≤ j → pa j = P j) → wY_trace_349 post (nI W) (nI H) tr (nI t) n (nI k) px fl fg bg kn st pa := by
  have ht := bd_Y_t hY
  intro e
  induction e with
  | zero =>
    intro k hk n hn pa h1 h2
    obtain ⟨n, rfl⟩ : ∃ m, n = m + 1 := ⟨n - 1, by omega⟩
    have e : pa = P := by
      funext j
      rcases Nat.lt_or_ge j t with z | z
      · exact h1 j (by omega)
      · exact h2 j z
    subst e
    exact br_t (nI_le (by omega) (by omega)) hp
  | succ e ih =>
    intro k hk n hn pa h1 h2
    obtain ⟨n, rfl⟩ : ∃ m, n = m + 1 := ⟨n - 1, by omega⟩
    obtain ⟨c, hc, ek⟩ := bd_Y_c hY (k := k) (by omega)
    have hc256 := bd_key_lt hY.1 hc
    have hv : vp_in (nI k) 256 := vp_in_nI (by omega) (by omega)
    have next : ∀ a, a = upd pa k (bd_cd (bd_pv W H px L c)) → ∀ z, z = nI k + 1 → wY_trace_349 post (nI W) (nI H) tr (nI t) n z px fl fg bg kn st a := by
      intro a ea z ez
      rw [ea, ez, nI_1]
      refine ih (k + 1) (by omega) n (by omega) _ (fun j hj => ?_) (fun j hj => ?_)
      · by_cases ej : j = k
        · subst ej
          rw [pk_us, ← hP c hc, ek]
        · rw [pk_un ej]; exact h1 j (by omega)
      · rw [pk_un (by omega)]; exact h2 j hj
    have hkn : kn k = bd_kd W H px L c := by rw [ek]; exact (hY.2.2.2 c hc).1
    have hst : st k = nI c := by rw [ek]; exact (hY.2.2.2 c hc).2
    refine br_f (nI_ge (by omega) (by omega)) ⟨hv, ?_⟩
    rw [nI_clamp (n := k) (by omega), hkn, hst]
    by_cases ho : bd_ok W H px L c
    · have epv : bd_pv W H px L c = if c % 16 = 0 then 0 else bd_ow W H px L (c - 1) := if_pos ho
      have ebl : bd_bl W H px L c = if c % 16 = 0 then 0 else L (c - 1) := if_pos ho
      refine br_t (if_pos ho) ?_
      have hb := fun (q : Int32 → Prop) (h : q (bd_cd (bd_bl W H px L c))) => y_bgl (post := q) (tr := tr) (tt := nI t) (fl := fl) (pa := pa) hY hc h
      rw [← ek] at hb
      refine hb _ ?_
      by_cases hx : c % 16 = 0
      · rw [if_pos hx] at epv ebl
        rw [epv] at next
        rw [ebl]
        exact br_t rfl ⟨hv, next⟩
      · rw [if_neg hx] at epv ebl
        obtain ⟨l1, l2⟩ := bd_left hY.1 ho hx
        have hle := bd_L_le hY.1 l1
        rw [ebl]
        rw [epv] at next
        refine br_c (fun z => ⟨hv, ?_⟩) (fun z => ?_)
        · rw [bd_cd_m1 (by omega)] at z
          rw [bd_ow_0 z] at next
          exact next
        · rw [bd_cd_m1 (by omega)] at z
          exact y_findB hY l1 l2 z ⟨hv, next⟩
    · have epv : bd_pv W H px L c = bd_ow W H px L c := if_neg ho
      obtain ⟨p1, p2⟩ := bd_key_p hY.1 hc
      refine br_f (by rw [show bd_kd W H px L c = 2 from if_neg ho]; decide) ⟨hv, vp_in_nI hc256 (by omega), ?_⟩
      rw [nI_clamp (n := c) (by omega), (hY.2.2.1 c p1).1 p2]
      rw [epv] at next
      exact y_findF hY p1 p2 ⟨hv, next⟩
theorem y_t195 {post : Int32 → SY → Prop} (hC : bd_C W H px L) (hG : bd_G W H px L fg bg)
    (hp : ∃ n, wY_trace_349 post (nI W) (nI H) tr (nI (bd_N W H px L 256)) n 0 px fl fg bg (bd_A W H px L (bd_kd W H px L) kn 256) (bd_A W H px L nI st 256) pa) :
    ∀ e i, i + e = 256 → ∀ n, e < n → wY_trace_195 post (nI W) (nI H) tr n (nI i) (nI (bd_N W H px L i)) px fl fg bg (bd_A W H px L (bd_kd W H px L) kn i) (bd_A W H px L nI st i) pa := by
  have hW := hC.2.1
  have hH := hC.2.2.2.1
  intro e
  induction e with
  | zero =>
    intro i hi n hn
    obtain ⟨n, rfl⟩ : ∃ m, n = m + 1 := ⟨n - 1, by omega⟩
    have : i = 256 := by omega
    subst this
    exact br_t (nI_le (a := 256) (by omega) (by omega)) hp
  | succ e ih =>
    intro i hi n hn
    obtain ⟨n, rfl⟩ : ∃ m, n = m + 1 := ⟨n - 1, by omega⟩
    have hN := bd_N_le (W := W) (H := H) (p := px) (L := L) i
    have hv : vp_in (nI i) 256 := vp_in_nI (by omega) (by omega)
    have hvk : vp_in (nI (bd_N W H px L i)) 256 := vp_in_nI (by omega) (by omega)
    have hck : (nI (bd_N W H px L i)).toNatClampNeg = bd_N W H px L i := nI_clamp (by omega)
    have next := ih (i + 1) (by omega) n (by omega)
    have nno : ¬ bd_key W H px L i → wY_trace_195 post (nI W) (nI H) tr n (nI (i + 1)) (nI (bd_N W H px L i)) px fl fg bg (bd_A W H px L (bd_kd W H px L) kn i) (bd_A W H px L nI st i) pa := by
      intro h
      rw [bd_N_no h, bd_A_n h, bd_A_n h] at next
      exact next
    have nkey : bd_key W H px L i → wY_trace_195 post (nI W) (nI H) tr n (nI (i + 1)) (nI (bd_N W H px L i + 1)) px fl fg bg (upd (bd_A W H px L (bd_kd W H px L) kn i) (bd_N W H px L i) (bd_kd W H px L i)) (upd (bd_A W H px L nI st i) (bd_N W H px L i) (nI i)) pa := by
      intro h
      rw [bd_N_key h, bd_A_k h, bd_A_k h] at next
      exact next
    refine br_f (nI_ge (b := 256) (by omega) (by omega)) (nm_r (bd_m15 (by omega)) (nm_r (bd_s4 (by omega)) (y_pix hW hH (fun a b ea eb ha hb => br_f bd_10 ⟨hv, ?_⟩) (fun hno => br_t rfl (nm_r (nI_1 i) (nno (fun z => ?_)))))))
    · rw [nI_eq (by omega) (by omega)] at ea eb
      have hin : bd_in W H i := ⟨by omega, by omega⟩
      have hL := bd_L_le hC hin
      have go : ¬ bd_ok W H px L i → wY_trace_276 post (wY_trace_195 post (nI W) (nI H) tr n) (nI i) (nI (i % 16)) (nI W) (nI H) tr (nI (bd_N W H px L i)) px fl fg bg (bd_A W H px L (bd_kd W H px L) kn i) (bd_A W H px L nI st i) pa := by
        intro hno
        refine y_t276 hC hG hin (by omega) (fun hh => ?_) (fun hh => nno (fun z => z.elim hno hh))
        have := nkey (Or.inr hh)
        rw [show bd_kd W H px L i = 2 from if_neg hno] at this
        exact this
      rw [nI_clamp (n := i) (by omega)]
      refine br_c (fun e1 => ⟨hv, ?_⟩) (fun e1 => go (fun z => e1 z.2.1))
      rw [(hG i hin).1 e1]
      refine br_c (fun e2 => ⟨hvk, nm_r (congrArg (fun z => upd _ z 1) hck) ⟨hvk, nm_r (congrArg (fun z => upd _ z (nI i)) hck) (nm_r (nI_1 _) (nm_r (nI_1 i) ?_))⟩⟩) (fun e2 => go (fun z => e2 ?_))
      · rw [bd_cd_nI (by omega) (by omega)] at e2
        have ho : bd_ok W H px L i := ⟨hin, e1, e2⟩
        have := nkey (Or.inl ho)
        rw [show bd_kd W H px L i = 1 from if_pos ho] at this
        exact this
      · rw [bd_cd_nI (by omega) (by omega)]
        exact z.2.2
    · have := (bd_key_p hC z).1
      exact hno _ _ rfl rfl this.1 this.2
theorem y_trace {post : Int32 → SY → Prop} (hC : bd_C W H px L) (hfl : ∀ j, 256 ≤ j → fl j = 0)
    (hp : ∀ fg bg, bd_G W H px L fg bg → post (nI (bd_N W H px L 256)) (nI W, nI H, 1, nI (bd_N W H px L 256), px, fun _ => 0, fg, bg, bd_A W H px L (bd_kd W H px L) kn 256, bd_A W H px L nI st 256, bd_A W H px L (fun i => bd_cd (bd_pv W H px L i)) pa 256)) :
    wpY_trace post (nI W, nI H, tr, tt, px, fl, fg, bg, kn, st, pa) := by
  have hlo : bd_lo W H L (bd_s0 W H px) := by
    intro i hi
    have h1 := bd_L_le hC hi
    unfold bd_s0
    by_cases z : px i = 0 ∧ bd_rim W H i
    · rw [if_pos z, hC.2.2.2.2.2.2.2 i hi z.1 z.2]
      exact Nat.le_refl 0
    · rw [if_neg z]; exact h1
  have hsrc : bd_src W H px (bd_s0 W H px) := by
    intro i hi
    unfold bd_s0
    by_cases z : px i = 0 ∧ bd_rim W H i
    · rw [if_pos z]
      exact ⟨by omega, fun _ _ => rfl⟩
    · rw [if_neg z]
      exact ⟨by omega, fun a b => absurd ⟨a, b⟩ z⟩
  refine ⟨257, y_t2 ⟨257, y_t24 hC (fun fg bg hS => ⟨301, y_t141 hC (fun fg bg hG => ?_) 300 0 rfl 301 (by omega) fg bg (bd_s0 W H px) hS hlo hsrc (Or.inr ?_)⟩) 256 0 rfl 257 (by omega) fg bg (fun j hj => absurd hj (Nat.not_lt_zero j))⟩ 256 0 rfl 257 (by omega) fl (fun j hj => absurd hj (Nat.not_lt_zero j)) hfl⟩
  · have hY : bd_Y W H px L (bd_N W H px L 256) (bd_A W H px L (bd_kd W H px L) kn 256) (bd_A W H px L nI st 256) fg bg :=
      ⟨hC, rfl, hG, fun c hc => ⟨bd_A_key hc (bd_key_lt hC hc), bd_A_key hc (bd_key_lt hC hc)⟩⟩
    refine ⟨257, y_t195 hC hG ⟨bd_N W H px L 256 + 1, ?_⟩ 256 0 rfl 257 (by omega)⟩
    exact y_t349 hY (fun c hc => bd_A_key hc (bd_key_lt hC hc)) (hp fg bg hG) (bd_N W H px L 256) 0 (by omega) (bd_N W H px L 256 + 1) (by omega) pa (fun j hj => absurd hj (Nat.not_lt_zero j)) (fun j hj => (bd_A_ge hj).symm)
  · have := bd_ct_le (fun i => bd_in W H i ∧ bd_s0 W H px i ≠ L i) 256
    unfold bd_nf
    omega
end
