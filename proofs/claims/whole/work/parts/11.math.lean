theorem ly_b63 (k : Nat) : bt 63 k = decide (k < 6) := by
  rcases Nat.lt_or_ge k 32 with h | h
  · exact (by decide +kernel : ∀ i, i < 32 → bt 63 i = decide (i < 6)) k h
  · rw [b_big h, decide_eq_false (by omega)]
theorem ly_lo {x : Int32} (hx : ∀ k, 6 ≤ k → bt x k = false) : ∃ j, j < 64 ∧ x = nI j := by
  obtain ⟨j, hj, e⟩ := pk_andE x (m := 63) 6 (by decide)
  refine ⟨j, hj, ?_⟩
  rw [← e]
  apply b_ext
  intro k hk
  rw [b_and, ly_b63]
  by_cases h : k < 6
  · rw [decide_eq_true h, Bool.and_true]
  · rw [hx k (by omega), Bool.false_and]
theorem ly_pz1 : ∀ j, j < 64 → (ly_pc (nI j) ≤ 0 ↔ nI j = 0) := by decide +kernel
theorem ly_pz {x : Int32} (hx : ∀ k, 6 ≤ k → bt x k = false) : ly_pc x ≤ 0 ↔ x = 0 := by
  obtain ⟨j, hj, rfl⟩ := ly_lo hx
  exact ly_pz1 j hj
section
variable {a : Nat → Int32} {q : Nat → Nat}
theorem ly_ltb (hq : ∀ i, i < 6 → q i < 6) {k : Nat} (hk : k < 32) : ∀ i, i ≤ 6 → bt (ly_lt q i) k = (decide (k < 6) && !bt (ly_ea q i) k) := by
  intro i
  induction i with
  | zero => intro _; show bt 63 k = (decide (k < 6) && !bt 0 k); rw [ly_b63, b_0]; simp
  | succ i ih =>
    intro h
    have := hq i (by omega)
    show bt (ly_lt q i &&& ly_mk (q i)) k = (decide (k < 6) && !bt (ly_ea q i ||| ((1 : Int32) <<< (nI (q i) &&& 31))) k)
    rw [b_and, ly_bm _ (by omega) hk, b_or, ly_bs _ (by omega) hk, ih (by omega)]
    cases decide (k < 6) <;> cases bt (ly_ea q i) k <;> cases decide (k = q i) <;> rfl
theorem ly_le (hq : ∀ i, i < 6 → q i < 6) {x : Int32} (hx : ∀ k, 6 ≤ k → bt x k = false) {i : Nat} (hi : i ≤ 6) : x &&& (ly_ea q i ^^^ (-1)) = x &&& ly_lt q i := by
  apply b_ext
  intro k hk
  rw [b_and, b_and, ly_bn _ hk, ly_ltb hq hk i hi]
  by_cases h : k < 6
  · rw [decide_eq_true h, Bool.true_and]
  · rw [hx k (by omega), Bool.false_and, Bool.false_and]
theorem ly_mxg (g x : Int32) : g ≤ ly_mx g x := by
  unfold ly_mx
  by_cases h : x ≤ g
  · rw [if_pos h]; exact Int32.le_refl g
  · rw [if_neg h]; exact Int32.le_of_lt (Int32.not_le.mp h)
theorem ly_mx0 (w : Nat → Int32) : ∀ n, (0 : Int32) ≤ ly_fd (fun i g => ly_mx g (w i)) 0 n := by
  intro n
  induction n with
  | zero => exact Int32.le_refl 0
  | succ n ih => exact Int32.le_trans ih (ly_mxg _ _)
theorem ly_fds {σ : Type} (f : Nat → σ → σ) (s : σ) (n : Nat) : ly_fd f s (n + 1) = f n (ly_fd f s n) := rfl
theorem ly_lastn (w w' : Nat → Int32) (n : Nat) (h : ∀ i, i < n → w i = w' i) (h5 : w n = 0) : ly_fd (fun i g => ly_mx g (w i)) 0 (n + 1) = ly_fd (fun i g => ly_mx g (w' i)) 0 n := by
  have e : ly_fd (fun i g => ly_mx g (w i)) 0 n = ly_fd (fun i g => ly_mx g (w' i)) 0 n := ly_fd_eq (fun i t hi => by rw [h i hi])
  have h0 := ly_mx0 w' n
  rw [ly_fds, h5, e]
  revert h0
  generalize ly_fd (fun i g => ly_mx g (w' i)) 0 n = z
  intro h0
  exact if_pos h0
theorem ly_last (w w' : Nat → Int32) (h : ∀ i, i < 5 → w i = w' i) (h5 : w 5 = 0) : ly_fd (fun i g => ly_mx g (w i)) 0 6 = ly_fd (fun i g => ly_mx g (w' i)) 0 5 := ly_lastn w w' 5 h h5
theorem ly_c1e (hq : ∀ i, i < 6 → q i < 6) (ha : ∀ p k, 6 ≤ k → bt (a p) k = false) : ∀ i, i < 6 → ly_c1 a q i (i + 1) = ly_cut a q i := by
  intro i hi
  refine ly_fd_eq (fun k t hk => ?_)
  show t + ly_pc (a (q k) &&& (ly_ea q (i + 1) ^^^ (-1))) = t + ly_pc (a (q k) &&& ly_lt q (i + 1))
  rw [ly_le hq (ha _) (by omega)]
theorem ly_p0 : (0 : Int32) + ly_pc 0 = 0 := by decide
theorem ly_c5 (hz : ly_lt q 6 = 0) : ly_cut a q 5 = 0 := by
  refine ly_fd_id (fun j _ => ?_)
  show (0 : Int32) + ly_pc (a (q j) &&& ly_lt q 6) = 0
  rw [hz, Int32.and_zero, ly_p0]
theorem ly_e0 (hq : ∀ i, i < 6 → q i < 6) (hz : ly_lt q 6 = 0) (ha : ∀ p k, 6 ≤ k → bt (a p) k = false) : ly_N0 a q 6 = ly_M0 a q :=
  ly_last (fun i => ly_c1 a q i (i + 1)) (ly_cut a q) (fun i hi => ly_c1e hq ha i (by omega)) ((ly_c1e hq ha 5 (by omega)).trans (ly_c5 hz))
theorem ly_e1 (hq : ∀ i, i < 6 → q i < 6) (ha : ∀ p k, 6 ≤ k → bt (a p) k = false) : ly_N1 a q 6 = ly_M1 a q := by
  refine ly_fd_eq (fun i t hi => ?_)
  show ly_mx t (ly_c2 a q i (i + 1)) = ly_mx t (ly_sep a q i)
  congr 1
  refine ly_fd_eq (fun k t hk => ?_)
  show (if ly_pc (a (q k) &&& (ly_ea q (i + 1) ^^^ (-1))) ≤ 0 then t else t + 1) = (if a (q k) &&& ly_lt q (i + 1) = 0 then t else t + 1)
  rw [ly_le hq (ha _) (by omega)]
  have hp : ly_pc (a (q k) &&& ly_lt q (i + 1)) ≤ 0 ↔ a (q k) &&& ly_lt q (i + 1) = 0 := ly_pz (fun j hj => by rw [b_and, ha _ j hj, Bool.false_and])
  by_cases h : a (q k) &&& ly_lt q (i + 1) = 0
  · rw [if_pos h, if_pos (hp.mpr h)]
  · rw [if_neg h, if_neg (fun z => h (hp.mp z))]
theorem ly_fle {F : Nat → Int32 → Int32} {P : Nat → Prop} {t : Int32} (hF : ∀ j g, F j g ≤ t ↔ g ≤ t ∧ P j) : ∀ n g, ly_fd F g n ≤ t ↔ g ≤ t ∧ ∀ j, j < n → P j := by
  intro n g
  induction n with
  | zero => exact ⟨fun h => ⟨h, fun j hj => absurd hj (Nat.not_lt_zero j)⟩, fun h => h.1⟩
  | succ n ih =>
    refine (hF n (ly_fd F g n)).trans ⟨fun h => ?_, fun h => ?_⟩
    · refine ⟨(ih.mp h.1).1, fun j hj => ?_⟩
      by_cases e : j = n
      · rw [e]; exact h.2
      · exact (ih.mp h.1).2 j (by omega)
    · exact ⟨ih.mpr ⟨h.1, fun j hj => h.2 j (by omega)⟩, h.2 n (by omega)⟩
theorem ly_mle (g d t : Int32) : (if d ≤ g then g else d) ≤ t ↔ g ≤ t ∧ d ≤ t := by
  by_cases h : d ≤ g
  · rw [if_pos h]; exact ⟨fun z => ⟨z, Int32.le_trans h z⟩, fun z => z.1⟩
  · rw [if_neg h]; exact ⟨fun z => ⟨Int32.le_trans (Int32.le_of_lt (Int32.not_le.mp h)) z, z⟩, fun z => z.2⟩
theorem ly_s2le (a : Nat → Int32) (q : Nat → Nat) (i : Nat) (t : Int32) (j : Nat) (g : Int32) : ly_s2 a q i j g ≤ t ↔ g ≤ t ∧ (i < j → ly_bit (a (q i)) (q j) = 1 → nI j - nI i ≤ t) := by
  unfold ly_s2
  by_cases h : i < j
  · rw [if_pos h]
    by_cases hb : ly_bit (a (q i)) (q j) = 1
    · rw [if_pos hb, ly_mle]
      exact ⟨fun z => ⟨z.1, fun _ _ => z.2⟩, fun z => ⟨z.1, z.2 h hb⟩⟩
    · rw [if_neg hb]
      have e : (if nI j - nI i ≤ g then g else g) = g := by by_cases h2 : nI j - nI i ≤ g <;> simp only [h2, if_true, if_false]
      rw [e]
      exact ⟨fun z => ⟨z, fun _ z2 => absurd z2 hb⟩, fun z => z.1⟩
  · rw [if_neg h]
    exact ⟨fun z => ⟨z, fun z2 => absurd z2 h⟩, fun z => z.1⟩
theorem ly_y2le (a : Nat → Int32) (q : Nat → Nat) (i : Nat) (t : Int32) (k : Nat) (g : Int32) : ly_y2 a q i k g ≤ t ↔ g ≤ t ∧ (ly_bit (a (q k)) (q i) = 1 → nI i - nI k ≤ t) := by
  unfold ly_y2
  by_cases hb : ly_bit (a (q k)) (q i) = 1
  · rw [if_pos hb, ly_mle]
    exact ⟨fun z => ⟨z.1, fun _ => z.2⟩, fun z => ⟨z.1, z.2 hb⟩⟩
  · rw [if_neg hb]
    exact ⟨fun z => ⟨z, fun z2 => absurd z2 hb⟩, fun z => z.1⟩
theorem ly_e2t (a : Nat → Int32) (q : Nat → Nat) (t : Int32) : ly_N2 a q 6 ≤ t ↔ ly_M2 a q ≤ t := by
  have h1 : ly_N2 a q 6 ≤ t ↔ 0 ≤ t ∧ ∀ i, i < 6 → ∀ k, k < i + 1 → ly_bit (a (q k)) (q i) = 1 → nI i - nI k ≤ t :=
    ly_fle (fun i g => ly_fle (ly_y2le a q i t) (i + 1) g) 6 0
  have h2 : ly_M2 a q ≤ t ↔ 0 ≤ t ∧ ∀ i, i < 6 → ∀ j, j < 6 → i < j → ly_bit (a (q i)) (q j) = 1 → nI j - nI i ≤ t :=
    ly_fle (fun i g => ly_fle (ly_s2le a q i t) 6 g) 6 0
  rw [h1, h2]
  refine ⟨fun z => ⟨z.1, fun i hi j hj hij hb => z.2 j hj i (by omega) hb⟩, fun z => ⟨z.1, fun i hi k hk hb => ?_⟩⟩
  by_cases e : k = i
  · rw [e, Int32.sub_self]; exact z.1
  · exact z.2 k (by omega) i hi (by omega) hb
theorem ly_e2 (a : Nat → Int32) (q : Nat → Nat) : ly_N2 a q 6 = ly_M2 a q :=
  Int32.le_antisymm ((ly_e2t a q _).mpr (Int32.le_refl _)) ((ly_e2t a q _).mp (Int32.le_refl _))
def ly_D (a : Nat → Int32) (q : Nat → Nat) (i j : Nat) : Int32 := if i < j then (if ly_bit (a (q i)) (q j) = 1 then nI j - nI i else 0) else 0
theorem ly_Dz (a : Nat → Int32) (q : Nat → Nat) {i j : Nat} (h : j ≤ i) : ly_D a q i j = 0 := if_neg (by omega)
theorem ly_e3a (a : Nat → Int32) (q : Nat → Nat) : ly_M3 a q = ly_fd (fun i g => ly_fd (fun j s => s + ly_D a q i j) g 6) 0 6 := by
  refine ly_fd_eq (fun i t _ => ly_fd_eq (fun j s _ => ?_))
  unfold ly_s3 ly_D
  by_cases h : i < j
  · rw [if_pos h, if_pos h]
    by_cases hb : ly_bit (a (q i)) (q j) = 1
    · rw [if_pos hb, if_pos hb]
    · rw [if_neg hb, if_neg hb, Int32.add_zero]
  · rw [if_neg h, if_neg h, Int32.add_zero]
theorem ly_e3b (a : Nat → Int32) (q : Nat → Nat) : ly_N3 a q 6 = ly_fd (fun i g => ly_fd (fun k s => s + ly_D a q k i) g (i + 1)) 0 6 := by
  refine ly_fd_eq (fun i t _ => ly_fd_eq (fun k s hk => ?_))
  unfold ly_y3 ly_D
  have ea : s + nI i - nI k = s + (nI i - nI k) := by rw [Int32.sub_eq_add_neg, Int32.sub_eq_add_neg, Int32.add_assoc]
  by_cases h : k < i
  · rw [if_pos h]
    by_cases hb : ly_bit (a (q k)) (q i) = 1
    · rw [if_pos hb, if_pos hb, ea]
    · rw [if_neg hb, if_neg hb, Int32.add_zero]
  · have e : k = i := by omega
    rw [if_neg h, Int32.add_zero, ea, e, Int32.sub_self, Int32.add_zero]
    by_cases hb : ly_bit (a (q i)) (q i) = 1
    · rw [if_pos hb]
    · rw [if_neg hb]
theorem ly_e3c (D : Nat → Nat → Int32) (h : ∀ i j, j ≤ i → D i j = 0) : ly_fd (fun i g => ly_fd (fun k s => s + D k i) g (i + 1)) 0 6 = ly_fd (fun i g => ly_fd (fun j s => s + D i j) g 6) 0 6 := by
  simp only [ly_fd]
  rw [h 0 0 (by decide), h 1 0 (by decide), h 1 1 (by decide), h 2 0 (by decide), h 2 1 (by decide), h 2 2 (by decide), h 3 0 (by decide), h 3 1 (by decide), h 3 2 (by decide), h 3 3 (by decide), h 4 0 (by decide), h 4 1 (by decide), h 4 2 (by decide), h 4 3 (by decide), h 4 4 (by decide), h 5 0 (by decide), h 5 1 (by decide), h 5 2 (by decide), h 5 3 (by decide), h 5 4 (by decide), h 5 5 (by decide)]
  simp only [Int32.add_zero, Int32.zero_add]
  ac_rfl
theorem ly_e3 (a : Nat → Int32) (q : Nat → Nat) : ly_N3 a q 6 = ly_M3 a q := by
  rw [ly_e3a, ly_e3b]
  exact ly_e3c (ly_D a q) (fun i j h => ly_Dz a q h)
end
