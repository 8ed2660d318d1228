/-- a fold upwards from 0 -/
def ly_fd {σ : Type} (f : Nat → σ → σ) (s : σ) : Nat → σ
  | 0 => s
  | n + 1 => f n (ly_fd f s n)
/-- a loop whose state at the head of turn j is S j -/
theorem ly_st {σ : Type} (W : Nat → Nat → σ → Prop) (S : Nat → σ) (e : Nat)
    (hx : ∀ n, W (n + 1) e (S e))
    (hs : ∀ n j, j < e → W n (j + 1) (S (j + 1)) → W (n + 1) j (S j)) :
    ∀ d j, j + d = e → W (d + 1) j (S j) := by
  intro d
  induction d with
  | zero => intro j h; cases (show j = e by omega); exact hx 0
  | succ d ih => intro j h; exact hs (d + 1) j (by omega) (ih (j + 1) (by omega))
/-- the same from j0 on -/
theorem ly_sj {σ : Type} (W : Nat → Nat → σ → Prop) (S : Nat → σ) (e j0 : Nat)
    (hx : ∀ n, W (n + 1) e (S e))
    (hs : ∀ n j, j0 ≤ j → j < e → W n (j + 1) (S (j + 1)) → W (n + 1) j (S j)) :
    ∀ d j, j0 ≤ j → j + d = e → W (d + 1) j (S j) := by
  intro d
  induction d with
  | zero => intro j _ h; cases (show j = e by omega); exact hx 0
  | succ d ih => intro j h0 h; exact hs (d + 1) j h0 (by omega) (ih (j + 1) (by omega) (by omega))
theorem ly_fd_id {σ : Type} {f : Nat → σ → σ} {s : σ} : ∀ {k : Nat}, (∀ j, j < k → f j s = s) → ly_fd f s k = s := by
  intro k
  induction k with
  | zero => intro _; rfl
  | succ k ih =>
    intro h
    show f k (ly_fd f s k) = s
    rw [ih (fun j hj => h j (by omega))]
    exact h k (by omega)
theorem ly_fd_eq {σ : Type} {f g : Nat → σ → σ} {s : σ} : ∀ {k : Nat}, (∀ j t, j < k → f j t = g j t) → ly_fd f s k = ly_fd g s k := by
  intro k
  induction k with
  | zero => intro _; rfl
  | succ k ih =>
    intro h
    show f k (ly_fd f s k) = g k (ly_fd g s k)
    rw [ih (fun j t hj => h j t (by omega))]
    exact h k _ (by omega)
theorem ly_br {c A B : Prop} [Decidable c] {α : Type} {P : α → Prop} {x y : α} (ha : P x → A) (hb : P y → B) (h : P (if c then x else y)) : (c → A) ∧ (¬ c → B) := by
  by_cases hc : c
  · rw [if_pos hc] at h
    exact br_t hc (ha h)
  · rw [if_neg hc] at h
    exact br_f hc (hb h)
theorem ly_c {j : Nat} (h : j < 6) : (nI j).toNatClampNeg = j := nI_clamp (by omega)
theorem ly_i {j : Nat} (h : j < 6) : vp_in (nI j) 6 := vp_in_nI h (by omega)
theorem ly_n6 : ∀ j, j < 6 → ¬ (6 : Int32) ≤ nI j := by decide
theorem ly_n5 : ∀ j, j < 5 → ¬ (5 : Int32) ≤ nI j := by decide
theorem ly_n4 : ∀ j, j < 4 → ¬ (4 : Int32) ≤ nI j := by decide
theorem ly_n720 {j : Nat} (h : j < 720) : ¬ (720 : Int32) ≤ nI j := nI_ge (b := 720) h (by decide)
/-- the first i cells of f, then g -/
def ly_mi (i : Nat) (f g : Nat → Int32) : Nat → Int32 := fun j => if j < i then f j else g j
theorem ly_mi0 (f g : Nat → Int32) : ly_mi 0 f g = g := rfl
theorem ly_miu (i : Nat) (f g : Nat → Int32) : upd (ly_mi i f g) i (f i) = ly_mi (i + 1) f g := by
  funext j
  unfold upd ly_mi
  by_cases h : j = i
  · rw [if_pos h, if_pos (by omega), h]
  · rw [if_neg h]
    by_cases h2 : j < i
    · rw [if_pos h2, if_pos (by omega)]
    · rw [if_neg h2, if_neg (by omega)]
/-- nothing beyond the six cells -/
def ly_T (f : Nat → Int32) : Prop := ∀ j, 6 ≤ j → f j = 0
theorem ly_T0 : ly_T (fun _ => 0) := fun _ _ => rfl
theorem ly_Tu {f : Nat → Int32} {i : Nat} {x : Int32} (h : ly_T f) (hi : i < 6) : ly_T (upd f i x) := by
  intro j hj
  rw [pk_un (by omega)]
  exact h j hj
theorem ly_Te {f g : Nat → Int32} (hf : ly_T f) (hg : ly_T g) (h : ∀ j, j < 6 → f j = g j) : f = g := by
  funext j
  by_cases hj : j < 6
  · exact h j hj
  · rw [hf j (by omega), hg j (by omega)]
theorem ly_mi6 {f g : Nat → Int32} (hf : ly_T f) (hg : ly_T g) : ly_mi 6 f g = f := by
  funext j
  unfold ly_mi
  by_cases hj : j < 6
  · rw [if_pos hj]
  · rw [if_neg hj, hf j (by omega), hg j (by omega)]
/-- an order as an array -/
def ly_ar (q : Nat → Nat) : Nat → Int32 := fun j => if j < 6 then nI (q j) else 0
theorem ly_arT (q : Nat → Nat) : ly_T (ly_ar q) := fun _ h => if_neg (by omega)
theorem ly_ar6 (q : Nat → Nat) {j : Nat} (h : j < 6) : ly_ar q j = nI (q j) := if_pos h
theorem ly_arv (q : Nat → Nat) {j : Nat} (h : j < 6) : ly_ar q (nI j).toNatClampNeg = nI (q j) := by rw [ly_c h, ly_ar6 q h]
/-- bit i as the programs ask for it -/
def ly_bit (x : Int32) (i : Nat) : Int32 := (x >>> (nI i &&& 31)) &&& 1
def ly_pc (x : Int32) : Int32 := ly_fd (fun i c => c + ly_bit x i) 0 6
/-- the mask without p -/
def ly_mk (p : Nat) : Int32 := ((1 : Int32) <<< (nI p &&& 31)) ^^^ (-1)
theorem ly_b1 : ∀ i, i < 32 → bt 1 i = decide (i = 0) := by decide +kernel
theorem ly_bs (p : Nat) (hp : p < 32) {i : Nat} (hi : i < 32) : bt ((1 : Int32) <<< (nI p &&& 31)) i = decide (i = p) := by
  rw [b_shl p hp 1 hi, ly_b1 _ (by omega)]
  by_cases h : i = p
  · rw [h]; simp
  · rw [decide_eq_false h]
    by_cases h2 : p ≤ i
    · rw [decide_eq_true h2, decide_eq_false (by omega)]; rfl
    · rw [decide_eq_false h2]; rfl
theorem ly_bn (x : Int32) {i : Nat} (hi : i < 32) : bt (x ^^^ (-1)) i = !bt x i := by
  rw [b_xor, b_m1 i hi]; cases bt x i <;> rfl
theorem ly_bm (p : Nat) (hp : p < 32) {i : Nat} (hi : i < 32) : bt (ly_mk p) i = !decide (i = p) := by
  unfold ly_mk
  rw [ly_bn _ hi, ly_bs p hp hi]
theorem ly_bitv (x : Int32) {i : Nat} (hi : i < 32) : ly_bit x i = if bt x i then 1 else 0 := by
  unfold ly_bit
  apply b_ext
  intro k hk
  rw [b_and, b_sshr i hi x hk, ly_b1 k hk]
  by_cases h : k = 0
  · subst h
    rw [if_pos (by omega)]
    show (bt x i && decide (0 = 0)) = bt (if bt x i = true then 1 else 0) 0
    cases bt x i
    · decide
    · decide
  · rw [decide_eq_false h, Bool.and_false]
    cases bt x i
    · exact (b_0 k).symm
    · exact ((ly_b1 k hk).trans (decide_eq_false h)).symm
theorem ly_bit1 (x : Int32) {i : Nat} (hi : i < 32) : ly_bit x i = 1 ↔ bt x i = true := by
  rw [ly_bitv x hi]; cases bt x i <;> decide
theorem ly_bit0 (x : Int32) {i : Nat} (hi : i < 32) : ¬ ly_bit x i = 1 ↔ bt x i = false := by
  rw [ly_bitv x hi]; cases bt x i <;> decide
theorem ly_st2 {σ τ : Type} (W : Nat → Nat → σ → τ → Prop) (S : Nat → σ) (T : Nat → τ) (e : Nat)
    (hx : ∀ n, W (n + 1) e (S e) (T e))
    (hs : ∀ n j, j < e → W n (j + 1) (S (j + 1)) (T (j + 1)) → W (n + 1) j (S j) (T j)) :
    ∀ d j, j + d = e → W (d + 1) j (S j) (T j) := by
  intro d
  induction d with
  | zero => intro j h; cases (show j = e by omega); exact hx 0
  | succ d ih => intro j h; exact hs (d + 1) j (by omega) (ih (j + 1) (by omega))
theorem ly_st3 {σ τ ρ : Type} (W : Nat → Nat → σ → τ → ρ → Prop) (S : Nat → σ) (T : Nat → τ) (R : Nat → ρ) (e : Nat)
    (hx : ∀ n, W (n + 1) e (S e) (T e) (R e))
    (hs : ∀ n j, j < e → W n (j + 1) (S (j + 1)) (T (j + 1)) (R (j + 1)) → W (n + 1) j (S j) (T j) (R j)) :
    ∀ d j, j + d = e → W (d + 1) j (S j) (T j) (R j) := by
  intro d
  induction d with
  | zero => intro j h; cases (show j = e by omega); exact hx 0
  | succ d ih => intro j h; exact hs (d + 1) j (by omega) (ih (j + 1) (by omega))
