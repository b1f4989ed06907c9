/-! the law -/
theorem l_cell {post : Int32 → Prop} {L : Nat} {xs : Nat → Int32} {x : Int32} (j : Nat) (hx : x = nI j) (hj : j < 1000) (hL : L ≤ 260) (h : ∀ v, post v) : wpL_cell post L xs () x := by
  subst hx
  exact pk_le L j (fun _ => h 0) (fun z => ⟨vp_in_nI z (by omega), h _⟩)
theorem l_mdA {post : Int32 → Prop} {x m : Int32} (hm : ¬ m = 0) (h : ∀ v, post v) : wpL_md post () x m := ⟨hm, fun y _ => br_c (fun _ => h _) (fun _ => h _)⟩
theorem l_md16 {post : Int32 → Prop} {x : Int32} (h : ∀ j, j < 16 → post (nI j)) : wpL_md post () x 16 := by
  refine ⟨bd_16, fun y ey => ?_⟩
  have hy : y.toInt = x.toInt.tmod 16 := by
    rw [ey, rem_toInt, show (16 : Int32).toInt = 16 from by decide]
  have hb := tmod_bounds (a := x.toInt) (M := 16) (by decide)
  rw [← hy] at hb
  refine br_c (fun z => ?_) (fun z => ?_)
  · rw [Int32.le_iff_toInt_le, show (0 : Int32).toInt = 0 from by decide] at z
    have e : y = nI y.toInt.toNat := by
      apply Int32.toInt_inj.mp
      rw [nI_toInt (by omega)]
      omega
    rw [e]
    exact h _ (by omega)
  · rw [Int32.le_iff_toInt_le, show (0 : Int32).toInt = 0 from by decide] at z
    have e0 : (y + 16).toInt = y.toInt + 16 := by
      rw [Int32.toInt_add, show (16 : Int32).toInt = 16 from by decide]
      exact Int.bmod_eq_of_le (by omega) (by omega)
    have e : y + 16 = nI (y.toInt + 16).toNat := by
      apply Int32.toInt_inj.mp
      rw [nI_toInt (by omega), e0]
      omega
    rw [e]
    exact h _ (by omega)
theorem l_p2 {t : Nat} (h : t < 1000) : ¬ nI t + 2 = 0 := by
  rw [show nI t + 2 = nI (t + 2) from nI_add t 2]
  exact nI_ne0 (by omega) (by omega)
section
variable {post : Int32 → Prop} {L : Nat} {xs : Nat → Int32} {h kc ks : Nat}
theorem l_103 (hL : L ≤ 260) (h1 : 1 ≤ h) (h2 : h ≤ 16) (hp : post 1) : ∀ e i, L ≤ i + e → i < 300 → ∀ n, e < n → ∀ w hh tr tt px fl lb qu kn pa st ln ar ii, bd_Iv (w, hh, tr, tt, px, fl, lb, qu, kn, pa, st, ln, ar, ii) → wL_law_103 post L xs (nI h) kc ks n (nI i) w hh tr tt px fl lb qu kn pa st ln ar ii := by
  intro e
  induction e with
  | zero =>
    intro i hi hi2 n hn w hh tr tt px fl lb qu kn pa st ln ar ii hI
    obtain ⟨n, rfl⟩ : ∃ m, n = m + 1 := ⟨n - 1, by omega⟩
    exact br_t (nI_le (a := L) (b := i) (by omega) (by omega)) hp
  | succ e ih =>
    intro i hi hi2 n hn w hh tr tt px fl lb qu kn pa st ln ar ii hI
    obtain ⟨n, rfl⟩ : ∃ m, n = m + 1 := ⟨n - 1, by omega⟩
    by_cases hLi : L ≤ i
    · exact br_t (nI_le (a := L) (b := i) hLi (by omega)) hp
    · have fin : ∀ w hh tr tt px fl lb qu kn pa st ln ar ii, bd_Iv (w, hh, tr, tt, px, fl, lb, qu, kn, pa, st, ln, ar, ii) → wL_law_292 post L xs (wL_law_103 post L xs (nI h) kc ks n) (nI h) (nI (i + 3)) kc ks w hh tr tt px fl lb qu kn pa st ln ar ii := by
        intro w hh tr tt px fl lb qu kn pa st ln ar ii hI
        unfold wL_law_292
        exact l_area hI (br_f bd_10 (ih (i + 3) (by omega) (by omega) n (by omega) _ _ _ _ _ _ _ _ _ _ _ _ _ _ hI))
      have t259 : ∀ x8 x6 : Int32, ¬ x8 + 2 = 0 → wL_law_259 post L xs (wL_law_103 post L xs (nI h) kc ks n) (nI h) (nI (i + 3)) x6 x8 kc ks w hh tr tt px fl lb qu kn pa st ln ar ii := by
        intro x8 x6 hx
        unfold wL_law_259
        refine l_mdA hx (fun v => l_toggle hI (fun r u' hu => ?_) _)
        obtain ⟨w, hh, tr, tt, px, fl, lb, qu, kn, pa, st, ln, ar, ii⟩ := u'
        exact fin _ _ _ _ _ _ _ _ _ _ _ _ _ _ hu
      refine br_f (nI_ge (a := i) (b := L) (by omega) (by omega)) (l_cell i rfl (by omega) hL (fun v0 => l_mdA (by decide) (fun op => l_cell (i + 1) (nI_1 i) (by omega) hL (fun a => l_cell (i + 2) (nI_add i 2) (by omega) hL (fun b => nm_r (nI_add i 3) ?_)))))
      refine br_c (fun _ => l_mdA (by decide) (fun v1 => l_mdA (by decide) (fun v2 => l_setPixel hI (fun r u' hu => ?_) _ _ _))) (fun _ => br_c (fun _ => l_mdA (l_p2 (by omega)) (fun v1 => l_setRow hI (fun r u' hu => ?_) _ _)) (fun _ => br_c (fun _ => l_trace hI (fun r u' hu => ?_)) (fun _ => br_c (fun _ => l_fill hI (fun u' hu => ?_)) (fun _ => br_c (fun _ => l_count hI (fun r hr => ?_)) (fun _ => l_trace hI (fun r u' hu => ?_))))))
      · obtain ⟨w, hh, tr, tt, px, fl, lb, qu, kn, pa, st, ln, ar, ii⟩ := u'
        exact fin _ _ _ _ _ _ _ _ _ _ _ _ _ _ hu
      · obtain ⟨w, hh, tr, tt, px, fl, lb, qu, kn, pa, st, ln, ar, ii⟩ := u'
        exact fin _ _ _ _ _ _ _ _ _ _ _ _ _ _ hu
      · obtain ⟨w, hh, tr, tt, px, fl, lb, qu, kn, pa, st, ln, ar, ii⟩ := u'
        exact fin _ _ _ _ _ _ _ _ _ _ _ _ _ _ hu
      · obtain ⟨w, hh, tr, tt, px, fl, lb, qu, kn, pa, st, ln, ar, ii⟩ := u'
        exact br_f bd_10 (fin _ _ _ _ _ _ _ _ _ _ _ _ _ _ hu)
      · rcases hr with rfl | ⟨j, hj, rfl⟩
        · exact br_f (by decide) (t259 0 _ (by decide))
        · exact br_t (nI_pos' (by omega)) (t259 (nI j) _ (l_p2 (by omega)))
      · obtain ⟨w, hh, tr, tt, px, fl, lb, qu, kn, pa, st, ln, ar, ii⟩ := u'
        refine l_fill hu (fun u' hu => ?_)
        obtain ⟨w, hh, tr, tt, px, fl, lb, qu, kn, pa, st, ln, ar, ii⟩ := u'
        exact br_f bd_10 (fin _ _ _ _ _ _ _ _ _ _ _ _ _ _ hu)
theorem l_39 (hL : L ≤ 260) (h1 : 1 ≤ h) (h2 : h ≤ 16) (hp : post 1) : ∀ e y, y + e = h → ∀ n, e < n → ∀ w hh tr tt px fl lb qu kn pa st ln ar ii, bd_Iv (w, hh, tr, tt, px, fl, lb, qu, kn, pa, st, ln, ar, ii) → wL_law_39 post L xs (nI h) kc ks n (nI y) w hh tr tt px fl lb qu kn pa st ln ar ii := by
  intro e
  induction e with
  | zero =>
    intro y hy n hn w hh tr tt px fl lb qu kn pa st ln ar ii hI
    obtain ⟨n, rfl⟩ : ∃ m, n = m + 1 := ⟨n - 1, by omega⟩
    refine br_t (nI_le (by omega) (by omega)) (l_trace hI (fun r u' hu => ?_))
    obtain ⟨w, hh, tr, tt, px, fl, lb, qu, kn, pa, st, ln, ar, ii⟩ := u'
    refine l_area hu (br_f bd_10 (l_fill hu (fun u' hu => ?_)))
    obtain ⟨w, hh, tr, tt, px, fl, lb, qu, kn, pa, st, ln, ar, ii⟩ := u'
    refine br_f bd_10 (l_area hu (br_f bd_10 (nm_r (nI_add 2 h) ⟨L + 1, ?_⟩)))
    exact l_103 hL h1 h2 hp L (2 + h) (by omega) (by omega) (L + 1) (by omega) _ _ _ _ _ _ _ _ _ _ _ _ _ _ hu
  | succ e ih =>
    intro y hy n hn w hh tr tt px fl lb qu kn pa st ln ar ii hI
    obtain ⟨n, rfl⟩ : ∃ m, n = m + 1 := ⟨n - 1, by omega⟩
    refine br_f (nI_ge (by omega) (by omega)) (l_cell (2 + y) (nI_add 2 y) (by omega) hL (fun v => l_setRow hI (fun r u' hu => ?_) _ _))
    obtain ⟨w, hh, tr, tt, px, fl, lb, qu, kn, pa, st, ln, ar, ii⟩ := u'
    exact nm_r (nI_1 y) (ih (y + 1) (by omega) n (by omega) _ _ _ _ _ _ _ _ _ _ _ _ _ _ hu)
end
theorem i_vc (xs : Nat → Int32) (L : Nat) (hL : L ≤ 260) : wpL_law (fun r => r = 1) L xs := by
  refine l_cell 0 rfl (by omega) hL (fun v0 => l_md16 (fun w hw => nm_r (nI_1 w) (l_cell 1 rfl (by omega) hL (fun v1 => l_md16 (fun h hh => nm_r (nI_1 h) ⟨10, 2560, by omega, by omega, ?_⟩)))))
  obtain ⟨W, w1, w2, hW⟩ := bd_cl (nI (w + 1))
  obtain ⟨H, h1, h2, hH⟩ := bd_cl (nI (h + 1))
  unfold wpX_init
  dsimp only
  refine ⟨by omega, by omega, by omega, by omega, by omega, by omega, by omega, by omega, by omega, by omega, by omega, by omega, by omega, by omega, by omega, by omega, by omega, by omega, by omega, by omega, x_cl hW (x_cl hH ?_)⟩
  refine ⟨h + 2, l_39 (post := fun r => r = 1) (h := h + 1) hL (by omega) (by omega) rfl (h + 1) 0 (by omega) (h + 2) (by omega) _ _ _ _ _ _ _ _ _ _ _ _ _ _ ?_⟩
  exact bd_iv0 ⟨w1, w2, h1, h2, fun _ => Or.inl rfl, fun _ _ => ⟨rfl, rfl⟩⟩
