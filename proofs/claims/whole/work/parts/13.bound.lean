def ly_bd (b : Nat) (x : Int32) : Prop := ∃ n, n ≤ b ∧ x = nI n
theorem ly_bd0 (b : Nat) : ly_bd b 0 := ⟨0, Nat.zero_le _, rfl⟩
theorem ly_bdw {b c : Nat} {x : Int32} (h : ly_bd b x) (hc : b ≤ c) : ly_bd c x := by
  obtain ⟨n, hn, e⟩ := h
  exact ⟨n, by omega, e⟩
theorem ly_bda {b c : Nat} {x y : Int32} (hx : ly_bd b x) (hy : ly_bd c y) : ly_bd (b + c) (x + y) := by
  obtain ⟨n, hn, rfl⟩ := hx
  obtain ⟨m, hm, rfl⟩ := hy
  exact ⟨n + m, by omega, nI_add n m⟩
theorem ly_bdf {F : Nat → Int32 → Int32} {b e : Nat} (hF : ∀ i s c, i < e → ly_bd c s → ly_bd (c + b) (F i s)) {c0 : Nat} {s0 : Int32} (h0 : ly_bd c0 s0) : ∀ n, n ≤ e → ly_bd (c0 + b * n) (ly_fd F s0 n) := by
  intro n
  induction n with
  | zero => intro _; exact h0
  | succ n ih =>
    intro h
    rw [Nat.mul_succ, ← Nat.add_assoc]
    exact hF n _ (c0 + b * n) (by omega) (ih (by omega))
theorem ly_bdk {F : Nat → Int32 → Int32} {B e : Nat} (hF : ∀ i s, i < e → ly_bd B s → ly_bd B (F i s)) {s0 : Int32} (h0 : ly_bd B s0) : ∀ n, n ≤ e → ly_bd B (ly_fd F s0 n) := by
  intro n
  induction n with
  | zero => intro _; exact h0
  | succ n ih => intro h; exact hF n _ (by omega) (ih (by omega))
theorem ly_bdb (x : Int32) (i : Nat) : ly_bd 1 (ly_bit x i) := by
  obtain ⟨j, hj, e⟩ := pk_andE (x >>> (nI i &&& 31)) (m := 1) 1 (by decide)
  exact ⟨j, by omega, e⟩
theorem ly_bdp (x : Int32) : ly_bd 6 (ly_pc x) := ly_bdf (b := 1) (e := 6) (fun i _ _ _ h => ly_bda h (ly_bdb x i)) (ly_bd0 0) 6 (Nat.le_refl 6)
theorem ly_bdx {B : Nat} {g x : Int32} (hg : ly_bd B g) (hx : ly_bd B x) : ly_bd B (ly_mx g x) := by
  unfold ly_mx
  by_cases h : x ≤ g
  · rw [if_pos h]; exact hg
  · rw [if_neg h]; exact hx
theorem ly_bds {i j : Nat} (h : i < j) (hj : j < 6) : ly_bd 6 (nI j - nI i) := ⟨j - i, by omega, pk_sub (by omega)⟩
theorem ly_bd2 {B : Nat} {x : Int32} (h : ly_bd B x) (hB : B < 2 ^ 31) : ly_bd B (x / 2) := by
  obtain ⟨n, hn, rfl⟩ := h
  exact ⟨n / 2, by omega, pk_div (d := 2) (by omega) (by decide) (by decide)⟩
theorem ly_bdn {B : Nat} {x : Int32} (h : ly_bd B x) (hB : B < 1000) : ¬ (1000 : Int32) ≤ x := by
  obtain ⟨n, hn, rfl⟩ := h
  exact nI_ge (b := 1000) (by omega) (by decide)
section
variable (a : Nat → Int32) (q : Nat → Nat)
theorem ly_bM0 : ly_bd 216 (ly_M0 a q) := by
  refine ly_bdk (e := 5) (fun i s hi hs => ly_bdx hs ?_) (ly_bd0 _) 5 (Nat.le_refl 5)
  exact ly_bdw (ly_bdf (b := 6) (e := i + 1) (fun j _ _ _ h => ly_bda h (ly_bdp _)) (ly_bd0 0) (i + 1) (Nat.le_refl _)) (by omega)
theorem ly_bM1 : ly_bd 216 (ly_M1 a q) := by
  refine ly_bdk (e := 6) (fun i s hi hs => ly_bdx hs ?_) (ly_bd0 _) 6 (Nat.le_refl 6)
  refine ly_bdw (ly_bdf (b := 1) (e := i + 1) (fun j s c _ h => ?_) (ly_bd0 0) (i + 1) (Nat.le_refl _)) (by omega)
  by_cases hc : a (q j) &&& ly_lt q (i + 1) = 0
  · rw [if_pos hc]; exact ly_bdw h (by omega)
  · rw [if_neg hc]; exact ly_bda h ⟨1, Nat.le_refl 1, rfl⟩
theorem ly_bM2 : ly_bd 216 (ly_M2 a q) := by
  refine ly_bdk (e := 6) (fun i s hi hs => ly_bdk (e := 6) (fun j g hj hg => ?_) hs 6 (Nat.le_refl 6)) (ly_bd0 _) 6 (Nat.le_refl 6)
  unfold ly_s2
  by_cases h : i < j
  · rw [if_pos h]
    by_cases h1 : nI j - nI i ≤ g
    · rw [if_pos h1]; exact hg
    · rw [if_neg h1]
      by_cases h2 : ly_bit (a (q i)) (q j) = 1
      · rw [if_pos h2]; exact ly_bdw (ly_bds h hj) (by omega)
      · rw [if_neg h2]; exact hg
  · rw [if_neg h]; exact hg
theorem ly_bM3 : ly_bd 216 (ly_M3 a q) := by
  refine ly_bdf (b := 36) (e := 6) (fun i s c hi hs => ly_bdf (b := 6) (e := 6) (fun j g d hj hg => ?_) hs 6 (Nat.le_refl 6)) (ly_bd0 0) 6 (Nat.le_refl 6)
  unfold ly_s3
  by_cases h : i < j
  · rw [if_pos h]
    by_cases h2 : ly_bit (a (q i)) (q j) = 1
    · rw [if_pos h2]; exact ly_bda hg (ly_bds h hj)
    · rw [if_neg h2]; exact ly_bdw hg (by omega)
  · rw [if_neg h]; exact ly_bdw hg (by omega)
theorem ly_bM4 : ly_bd 216 (ly_M4 a q) :=
  ly_bdk (e := 6) (fun _ _ _ hs => ly_bdx hs (ly_bdw (ly_bdp _) (by omega))) (ly_bd0 _) 6 (Nat.le_refl 6)
theorem ly_bte (b : Nat) (r : Nat → Int32) : ly_bd 36 (ly_te b r) := by
  refine ly_bd2 (ly_bdf (b := 6) (e := 6) (fun p s c _ h => ?_) (ly_bd0 0) 6 (Nat.le_refl 6)) (by decide)
  by_cases hc : ly_bit (r b) p = 1
  · rw [if_pos hc]; exact ly_bda h (ly_bdp _)
  · rw [if_neg hc]; exact ly_bdw h (by omega)
theorem ly_bM5 : ly_bd 216 (ly_M5 a q) :=
  ly_bdf (b := 36) (e := 6) (fun _ _ _ _ h => ly_bda h (ly_bte _ _)) (ly_bd0 0) 6 (Nat.le_refl 6)
theorem ly_bM {m : Nat} (hm : m < 6) : ly_bd 216 (ly_M m a q) := by
  rcases (show m = 0 ∨ m = 1 ∨ m = 2 ∨ m = 3 ∨ m = 4 ∨ m = 5 by omega) with rfl | rfl | rfl | rfl | rfl | rfl
  · rw [ly_Me0]; exact ly_bM0 a q
  · rw [ly_Me1]; exact ly_bM1 a q
  · rw [ly_Me2]; exact ly_bM2 a q
  · rw [ly_Me3]; exact ly_bM3 a q
  · rw [ly_Me4]; exact ly_bM4 a q
  · rw [ly_Me5]; exact ly_bM5 a q
theorem ly_hb {m : Nat} (hm : m < 6) : ¬ (1000 : Int32) ≤ ly_v m a 0 := ly_bdn (ly_bM a (ly_q 0) hm) (by decide)
end
