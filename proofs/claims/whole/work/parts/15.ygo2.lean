section
variable {kn : Int32} {a : Nat → Int32} {post : SY → Prop} {N : Nat}
theorem ly_nmv {n : Nat} {nm : Nat → Int32} (hn : n < 720) (ha : ly_G a) : ∀ k, k < 6 → ly_tn (ly_tn (ly_N0 a (ly_q n) 6) (ly_N1 a (ly_q n) 6) (ly_N2 a (ly_q n) 6) (ly_N3 a (ly_q n) 6) (nm 4) (nm 5) nm 0) (ly_tn (ly_N0 a (ly_q n) 6) (ly_N1 a (ly_q n) 6) (ly_N2 a (ly_q n) 6) (ly_N3 a (ly_q n) 6) (nm 4) (nm 5) nm 1) (ly_tn (ly_N0 a (ly_q n) 6) (ly_N1 a (ly_q n) 6) (ly_N2 a (ly_q n) 6) (ly_N3 a (ly_q n) 6) (nm 4) (nm 5) nm 2) (ly_tn (ly_N0 a (ly_q n) 6) (ly_N1 a (ly_q n) 6) (ly_N2 a (ly_q n) 6) (ly_N3 a (ly_q n) 6) (nm 4) (nm 5) nm 3) (ly_N4 a (ly_q n) 6) (ly_N5 a (ly_q n) 6) (ly_tn (ly_N0 a (ly_q n) 6) (ly_N1 a (ly_q n) 6) (ly_N2 a (ly_q n) 6) (ly_N3 a (ly_q n) 6) (nm 4) (nm 5) nm) k = ly_v k a n := by
  intro k hk
  rw [ly_tv0, ly_tv1, ly_tv2, ly_tv3]
  rcases (show k = 0 ∨ k = 1 ∨ k = 2 ∨ k = 3 ∨ k = 4 ∨ k = 5 by omega) with rfl | rfl | rfl | rfl | rfl | rfl
  · rw [ly_tv0]; exact ly_n0 hn ha
  · rw [ly_tv1]; exact ly_n1 hn ha
  · rw [ly_tv2]; exact ly_n2
  · rw [ly_tv3]; exact ly_n3
  · rw [ly_tv4]; exact ly_n4v hn ha
  · rw [ly_tv5]; exact ly_n5v hn ha
theorem ly_y38 (hN : N = 720) (ha : ly_G a)
    (h : ∀ lf rw nm ls cs fs, ly_T lf → ly_T rw → (∀ k, k < 6 → ls k = ly_L (ly_v k a) N ∧ cs k = ly_C (ly_v k a) N ∧ fs k = nI (ly_F (ly_v k a) N)) → post (kn, a, lf, rw, nm, ls, cs, fs)) :
    ∀ (d i : Nat) (lf rw nm ls cs fs : Nat → Int32), i + d = N → ly_T lf → ly_T rw → (∀ k, k < 6 → ls k = ly_L (ly_v k a) i) → (0 < i → ∀ k, k < 6 → cs k = ly_C (ly_v k a) i ∧ fs k = nI (ly_F (ly_v k a) i)) →
      wY_goOver_38 post (d + 1) (nI i) kn a lf rw nm ls cs fs := by
  intro d
  induction d with
  | zero =>
    intro i lf rw nm ls cs fs hi hl hr hL hC
    cases (show i = N by omega)
    exact br_t (nI_le (a := 720) (by omega) (by omega)) (h lf rw nm ls cs fs hl hr (fun k hk => ⟨hL k hk, hC (by omega) k hk⟩))
  | succ d ih =>
    intro i lf rw nm ls cs fs hi hl hr hL hC
    have hn : i < 720 := by omega
    have hq := ly_qa i (by omega)
    refine br_f (ly_n720 hn) (ly_yso hn hr (ly_yla hq (ly_yta hq ha.1 hl (fun lf' hl' => ?_))))
    have hv := ly_nmv (nm := nm) hn ha
    revert hv
    generalize ly_tn _ _ _ _ _ _ (ly_tn _ _ _ _ _ _ nm) = nn
    intro hv
    refine ly_y60 (ih (i + 1) _ _ _ _ _ _ (by omega) hl' (ly_arT _) (fun k hk => ?_) (fun _ k hk => ?_))
    · show (if k < 6 then ly_lN nn ls k else ls k) = if ly_L (ly_v k a) i ≤ ly_v k a i then ly_L (ly_v k a) i else ly_v k a i
      rw [if_pos hk]
      unfold ly_lN
      rw [hv k hk, hL k hk]
    · have e1 : ly_mi 6 (ly_cN nn ls cs) cs k = ly_cN nn ls cs k := if_pos hk
      have e2 : ly_mi 6 (ly_fN nn ls fs (nI i)) fs k = ly_fN nn ls fs (nI i) k := if_pos hk
      have eC : ly_C (ly_v k a) (i + 1) = if ly_L (ly_v k a) i ≤ ly_v k a i then (if ly_v k a i = ly_L (ly_v k a) i then ly_C (ly_v k a) i + 1 else ly_C (ly_v k a) i) else 1 := rfl
      have eF : ly_F (ly_v k a) (i + 1) = if ly_L (ly_v k a) i ≤ ly_v k a i then ly_F (ly_v k a) i else i := rfl
      rw [e1, e2, eC, eF]
      unfold ly_cN ly_fN
      rw [hv k hk, hL k hk]
      by_cases hc : ly_L (ly_v k a) i ≤ ly_v k a i
      · have h0 : 0 < i := by
          rcases Nat.eq_zero_or_pos i with h0 | h0
          · subst h0
            exact absurd hc (ly_hb a hk)
          · exact h0
        rw [if_pos hc, if_pos hc, if_pos hc, if_pos hc, (hC h0 k hk).1, (hC h0 k hk).2]
        exact ⟨rfl, rfl⟩
      · rw [if_neg hc, if_neg hc, if_neg hc, if_neg hc]
        exact ⟨rfl, rfl⟩
theorem ly_y15 (ha : ly_G a) {lf rw nm ls cs fs : Nat → Int32} (hl : ly_T lf) (hr : ly_T rw)
    (h : ∀ lf rw nm ls cs fs, ly_T lf → ly_T rw → ly_Ca a ls cs fs → post (kn, a, lf, rw, nm, ls, cs, fs)) : ∃ n, wY_goOver_15 post kn n 0 a lf rw nm ls cs fs := by
  refine ⟨7, ly_st (fun n i l => wY_goOver_15 post kn n (nI i) a lf rw nm l cs fs) (fun i => ly_mi i (fun _ => 1000) ls) 6 ?_ ?_ 6 0 rfl⟩
  · intro n
    refine br_t (by decide) ⟨721, ly_y38 (N := 720) rfl ha h 720 0 lf rw nm _ cs fs rfl hl hr (fun k hk => if_pos hk) (fun z => absurd z (by decide))⟩
  · intro n j hj w
    exact br_f (ly_n6 j hj) ⟨ly_i hj, nm_r (by rw [ly_c hj]; exact ly_miu j (fun _ => 1000) ls) (nm_r (nI_1 j) w)⟩
theorem ly_ygo (ha : ly_G a) {lf rw nm ls cs fs : Nat → Int32} (hl : ly_T lf) (hr : ly_T rw) (hc : kn = 0 ∨ ly_Ca a ls cs fs)
    (h : ∀ kn lf rw nm ls cs fs, ly_T lf → ly_T rw → ly_Ca a ls cs fs → post (kn, a, lf, rw, nm, ls, cs, fs)) : wpY_goOver post (kn, a, lf, rw, nm, ls, cs, fs) := by
  by_cases hk : kn = 0
  · exact br_t hk (ly_y15 ha hl hr (h 1))
  · exact br_f hk (h kn lf rw nm ls cs fs hl hr (hc.resolve_left hk))
theorem ly_yle (ha : ly_G a) {m : Nat} (hm : m < 6) {lf rw nm ls cs fs : Nat → Int32} (hl : ly_T lf) (hr : ly_T rw) (hc : kn = 0 ∨ ly_Ca a ls cs fs) {post : Int32 → SY → Prop}
    (h : ∀ kn lf rw nm ls cs fs, ly_T lf → ly_T rw → ly_Ca a ls cs fs → post (ly_LL m a) (kn, a, lf, rw, nm, ls, cs, fs)) : wpY_least post (kn, a, lf, rw, nm, ls, cs, fs) (nI m) := by
  refine ly_ygo ha hl hr hc (fun kn lf rw nm ls cs fs h1 h2 h3 => ⟨ly_i hm, ?_⟩)
  rw [ly_c hm, (h3 m hm).1]
  exact h kn lf rw nm ls cs fs h1 h2 h3
theorem ly_ycn (ha : ly_G a) {m : Nat} (hm : m < 6) {lf rw nm ls cs fs : Nat → Int32} (hl : ly_T lf) (hr : ly_T rw) (hc : kn = 0 ∨ ly_Ca a ls cs fs) {post : Int32 → SY → Prop}
    (h : ∀ kn lf rw nm ls cs fs, ly_T lf → ly_T rw → ly_Ca a ls cs fs → post (ly_CC m a) (kn, a, lf, rw, nm, ls, cs, fs)) : wpY_countLeast post (kn, a, lf, rw, nm, ls, cs, fs) (nI m) := by
  refine ly_ygo ha hl hr hc (fun kn lf rw nm ls cs fs h1 h2 h3 => ⟨ly_i hm, ?_⟩)
  rw [ly_c hm, (h3 m hm).2.1]
  exact h kn lf rw nm ls cs fs h1 h2 h3
theorem ly_yfl (ha : ly_G a) {m : Nat} (hm : m < 6) {p : Nat} (hp : p < 6) {lf rw nm ls cs fs : Nat → Int32} (hl : ly_T lf) (hr : ly_T rw) (hc : kn = 0 ∨ ly_Ca a ls cs fs) {post : Int32 → SY → Prop}
    (h : ∀ kn lf rw nm ls cs fs, ly_T lf → ly_T rw → ly_Ca a ls cs fs → post (ly_ar (ly_q (ly_FF m a)) p) (kn, a, lf, rw, nm, ls, cs, fs)) : wpY_firstLeast post (kn, a, lf, rw, nm, ls, cs, fs) (nI m) (nI p) := by
  refine br_f (nI_pos (by omega)) (br_t (nI_le (b := 5) (by omega) (by decide)) (ly_ygo ha hl hr hc (fun kn lf rw nm ls cs fs h1 h2 h3 => ⟨ly_i hm, ?_⟩)))
  rw [ly_c hm, (h3 m hm).2.2]
  refine ly_yso (ly_FFl m a) h2 ⟨ly_i hp, ?_⟩
  rw [ly_c hp]
  exact h kn lf _ nm ls cs fs h1 (ly_arT _) h3
theorem ly_y6w {N : Nat} (hN : N = 720) (ha : ly_G a) {post : Int32 → SY → Prop} {ls cs fs : Nat → Int32}
    (h : ∀ lf rw nm, ly_T lf → ly_T rw → post (ly_L (ly_v 4 a) N) (kn, a, lf, rw, nm, ls, cs, fs)) :
    ∀ (d i : Nat) (lf rw nm : Nat → Int32), i + d = N → ly_T lf → ly_T rw → wY_widthNow_6 post (d + 1) (ly_L (ly_v 4 a) i) (nI i) kn a lf rw nm ls cs fs := by
  intro d
  induction d with
  | zero =>
    intro i lf rw nm hi hl hr
    cases (show i = N by omega)
    exact br_t (nI_le (a := 720) (by omega) (by omega)) (h lf rw nm hl hr)
  | succ d ih =>
    intro i lf rw nm hi hl hr
    have hn : i < 720 := by omega
    have hq := ly_qa i (by omega)
    refine br_f (ly_n720 hn) (ly_yso hn hr (ly_yta hq ha.1 hl (fun lf' hl' => ?_)))
    have hv : ly_tn (nm 0) (nm 1) (nm 2) (nm 3) (ly_N4 a (ly_q i) 6) (ly_N5 a (ly_q i) 6) nm 4 = ly_v 4 a i := (ly_tv4 _ _ _ _ _ _ _).trans (ly_n4v hn ha)
    revert hv
    generalize ly_tn (nm 0) (nm 1) (nm 2) (nm 3) (ly_N4 a (ly_q i) 6) (ly_N5 a (ly_q i) 6) nm = nn
    intro hv
    have w := ih (i + 1) lf' _ nn (by omega) hl' (ly_arT (ly_q i))
    have eL : ly_L (ly_v 4 a) (i + 1) = if ly_L (ly_v 4 a) i ≤ ly_v 4 a i then ly_L (ly_v 4 a) i else ly_v 4 a i := rfl
    rw [← hv] at eL
    by_cases hc : ly_L (ly_v 4 a) i ≤ nn 4
    · rw [if_pos hc] at eL
      rw [eL] at w
      exact br_t hc (nm_r (nI_1 i) w)
    · rw [if_neg hc] at eL
      rw [eL] at w
      exact br_f hc (nm_e (nm_r (nI_1 i) w))
theorem ly_ywn (ha : ly_G a) {lf rw nm ls cs fs : Nat → Int32} (hl : ly_T lf) (hr : ly_T rw) {post : Int32 → SY → Prop}
    (h : ∀ lf rw nm, ly_T lf → ly_T rw → post (ly_LL 4 a) (kn, a, lf, rw, nm, ls, cs, fs)) : wpY_widthNow post (kn, a, lf, rw, nm, ls, cs, fs) :=
  ⟨721, ly_y6w (N := 720) rfl ha h 720 0 lf rw nm rfl hl hr⟩
end
