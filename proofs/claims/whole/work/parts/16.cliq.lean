def ly_bad (a : Nat → Int32) (s : Int32) (p : Nat) : Bool := bt s p && !decide ((s &&& (a p ^^^ (-1))) &&& ly_mk p = 0)
def ly_cq (a : Nat → Int32) (s : Int32) : Nat → Nat → Int32
  | 0, _ => 1
  | d + 1, p => if ly_bad a s p = true then 0 else ly_cq a s d (p + 1)
theorem ly_mks (s : Int32) {p : Nat} (hp : p < 6) : s &&& ly_mk p = s ↔ bt s p = false := by
  refine ⟨fun h => ?_, fun h => ?_⟩
  · rw [← h, b_and, ly_bm p (by omega) (by omega), decide_eq_true rfl]
    cases bt s p <;> rfl
  · apply b_ext
    intro k hk
    rw [b_and, ly_bm p (by omega) hk]
    by_cases e : k = p
    · rw [e, h]; rfl
    · rw [decide_eq_false e]; cases bt s k <;> rfl
theorem ly_sub (x y : Int32) : x &&& y = y ↔ y &&& (x ^^^ (-1)) = 0 := by
  refine ⟨fun h => ?_, fun h => ?_⟩
  · apply b_ext
    intro k hk
    have h2 : bt (x &&& y) k = bt y k := by rw [h]
    rw [b_and] at h2
    rw [b_and, ly_bn _ hk, b_0]
    revert h2
    cases bt x k <;> cases bt y k <;> decide
  · apply b_ext
    intro k hk
    have h2 : bt (y &&& (x ^^^ (-1))) k = bt 0 k := by rw [h]
    rw [b_and, ly_bn _ hk, b_0] at h2
    rw [b_and]
    revert h2
    cases bt x k <;> cases bt y k <;> decide
theorem ly_acm (s x m : Int32) : (s &&& m) &&& x = (s &&& x) &&& m := by rw [Int32.and_assoc, Int32.and_assoc, Int32.and_comm m x]
section
variable {fl flo kn : Int32} {a o r f lf rw nm ls cs fs : Nat → Int32}
theorem ly_xic {s : Int32} {post : Int32 → Prop} : ∀ (d p : Nat), p + d = 6 → post (ly_cq a s d p) → wX_isClique_2 post s fl flo a o r f (d + 1) (nI p) := by
  intro d
  induction d with
  | zero =>
    intro p hp h
    cases (show p = 6 by omega)
    exact br_t (by decide) h
  | succ d ih =>
    intro p hp h
    have h6 : p < 6 := by omega
    unfold ly_cq at h
    refine br_f (ly_n6 p h6) (nm_r (e' := s &&& ly_mk p) rfl ?_)
    by_cases hb : bt s p = false
    · have hn : ¬ ly_bad a s p = true := by unfold ly_bad; rw [hb, Bool.false_and]; decide
      rw [if_neg hn] at h
      exact br_t ((ly_mks s h6).mpr hb) (nm_r (nI_1 p) (ih (p + 1) (by omega) h))
    · refine br_f (fun z => hb ((ly_mks s h6).mp z)) ⟨ly_i h6, ?_⟩
      rw [ly_c h6]
      have hb1 : bt s p = true := by cases hx : bt s p with | false => exact absurd hx hb | true => rfl
      by_cases hs : (s &&& (a p ^^^ (-1))) &&& ly_mk p = 0
      · have hn : ¬ ly_bad a s p = true := by unfold ly_bad; rw [decide_eq_true hs, hb1]; decide
        rw [if_neg hn] at h
        exact br_t ((ly_sub _ _).mpr ((ly_acm _ _ _).trans hs)) (nm_r (nI_1 p) (ih (p + 1) (by omega) h))
      · have hn : ly_bad a s p = true := by unfold ly_bad; rw [decide_eq_false hs, hb1]; rfl
        rw [if_pos hn] at h
        exact br_f (fun z => hs ((ly_acm _ _ _).symm.trans ((ly_sub _ _).mp z))) h
theorem ly_yic {s : Int32} {post : Int32 → Prop} : ∀ (d p : Nat), p + d = 6 → post (ly_cq a s d p) → wY_isClique_2 post s kn a lf rw nm ls cs fs (d + 1) (nI p) := by
  intro d
  induction d with
  | zero =>
    intro p hp h
    cases (show p = 6 by omega)
    exact br_t (by decide) h
  | succ d ih =>
    intro p hp h
    have h6 : p < 6 := by omega
    unfold ly_cq at h
    refine br_f (ly_n6 p h6) ?_
    by_cases hb : ly_bit s p = 1
    · have hb1 := (ly_bit1 s (show p < 32 by omega)).mp hb
      refine br_t hb ⟨ly_i h6, ?_⟩
      rw [ly_c h6]
      by_cases hs : (s &&& (a p ^^^ (-1))) &&& ly_mk p = 0
      · have hn : ¬ ly_bad a s p = true := by unfold ly_bad; rw [decide_eq_true hs, hb1]; decide
        rw [if_neg hn] at h
        exact br_t hs (nm_r (nI_1 p) (ih (p + 1) (by omega) h))
      · have hn : ly_bad a s p = true := by unfold ly_bad; rw [decide_eq_false hs, hb1]; rfl
        rw [if_pos hn] at h
        exact br_f hs h
    · have hb1 := (ly_bit0 s (show p < 32 by omega)).mp hb
      have hn : ¬ ly_bad a s p = true := by unfold ly_bad; rw [hb1, Bool.false_and]; decide
      rw [if_neg hn] at h
      exact br_f hb (nm_r (nI_1 p) (ih (p + 1) (by omega) h))
def ly_kf (a : Nat → Int32) : Nat → Int32 → Int32 := fun s g => if ly_pc (nI s) ≤ g then g else if ly_cq a (nI s) 6 0 = 0 then g else ly_pc (nI s)
def ly_kq (a : Nat → Int32) : Int32 := ly_fd (ly_kf a) 0 64
theorem ly_kp : ly_pc (nI 0) ≤ 0 := by decide +kernel
theorem ly_k0 : ly_fd (ly_kf a) 0 1 = 0 := by
  show ly_kf a 0 0 = 0
  unfold ly_kf
  rw [if_pos ly_kp]
theorem ly_xkq {post : Int32 → Prop} (h : post (ly_kq a)) : wpX_clique post (fl, flo, a, o, r, f) := by
  refine ⟨64, ?_⟩
  have key := ly_sj (fun n j g => wX_clique_4 post fl flo a o r f n g (nI j)) (ly_fd (ly_kf a) 0) 64 1 (fun n => br_t (by decide) h) ?_ 63 1 (Nat.le_refl 1) rfl
  · rw [ly_k0] at key
    exact key
  · intro n j _ hj w
    have w' : wX_clique_4 post fl flo a o r f n (ly_kf a j (ly_fd (ly_kf a) 0 j)) (nI (j + 1)) := w
    clear w
    revert w'
    generalize ly_fd (ly_kf a) 0 j = g
    intro w
    unfold ly_kf at w
    refine br_f (nI_nlt (a := 63) (by omega) (by decide)) (ly_xcp ?_)
    by_cases h1 : ly_pc (nI j) ≤ g
    · rw [if_pos h1] at w
      exact br_t h1 (nm_r (nI_1 j) w)
    · rw [if_neg h1] at w
      refine br_f h1 ⟨7, ly_xic 6 0 rfl ?_⟩
      by_cases h2 : ly_cq a (nI j) 6 0 = 0
      · rw [if_pos h2] at w
        exact br_t h2 (nm_r (nI_1 j) w)
      · rw [if_neg h2] at w
        exact br_f h2 (nm_r (nI_1 j) w)
theorem ly_ykq {post : Int32 → Prop} (h : post (ly_kq a)) : wpY_clique post (kn, a, lf, rw, nm, ls, cs, fs) := by
  refine ⟨65, ly_st (fun n j g => wY_clique_4 post kn a lf rw nm ls cs fs n g (nI j)) (ly_fd (ly_kf a) 0) 64 (fun n => br_t (by decide) h) ?_ 64 0 rfl⟩
  intro n j hj w
  have w' : wY_clique_4 post kn a lf rw nm ls cs fs n (ly_kf a j (ly_fd (ly_kf a) 0 j)) (nI (j + 1)) := w
  clear w
  revert w'
  generalize ly_fd (ly_kf a) 0 j = g
  intro w
  unfold ly_kf at w
  refine br_f (nI_ge (b := 64) (by omega) (by decide)) (ly_ycp ?_)
  by_cases h1 : ly_pc (nI j) ≤ g
  · rw [if_pos h1] at w
    exact br_t h1 (nm_r (nI_1 j) w)
  · rw [if_neg h1] at w
    refine br_f h1 ⟨7, ly_yic 6 0 rfl ?_⟩
    by_cases h2 : ly_cq a (nI j) 6 0 = 0
    · rw [if_pos h2] at w
      exact br_t h2 (nm_r (nI_1 j) w)
    · rw [if_neg h2] at w
      exact br_f h2 (nm_r (nI_1 j) w)
end
