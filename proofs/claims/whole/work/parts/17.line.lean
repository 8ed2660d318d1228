def ly_tg (a : Nat → Int32) (p t : Nat) : Nat → Int32 := upd (upd a p (a p ^^^ ((1 : Int32) <<< (nI t &&& 31)))) t (upd a p (a p ^^^ ((1 : Int32) <<< (nI t &&& 31))) t ^^^ ((1 : Int32) <<< (nI p &&& 31)))
theorem ly_tgv (a : Nat → Int32) {p t : Nat} (hp : p < 6) (ht : t < 6) (hn : ¬ p = t) (x k : Nat) : bt (ly_tg a p t x) k = (bt (a x) k ^^ ((decide (x = p) && decide (k = t)) || (decide (x = t) && decide (k = p)))) := by
  by_cases hk : k < 32
  · unfold ly_tg
    by_cases hxt : x = t
    · subst hxt
      rw [pk_us, pk_un (fun z => hn z.symm), b_xor, ly_bs p (by omega) hk, decide_eq_true rfl, decide_eq_false (show ¬ x = p from fun z => hn z.symm)]
      cases bt (a x) k <;> cases decide (k = p) <;> rfl
    · rw [pk_un hxt, decide_eq_false hxt]
      by_cases hxp : x = p
      · subst hxp
        rw [pk_us, b_xor, ly_bs t (by omega) hk, decide_eq_true rfl]
        cases bt (a x) k <;> cases decide (k = t) <;> rfl
      · rw [pk_un hxp, decide_eq_false hxp]
        cases bt (a x) k <;> rfl
  · rw [b_big (by omega), b_big (by omega), decide_eq_false (show ¬ k = t by omega), decide_eq_false (show ¬ k = p by omega)]
    cases decide (x = p) <;> cases decide (x = t) <;> rfl
theorem ly_tgG {a : Nat → Int32} {p t : Nat} (hp : p < 6) (ht : t < 6) (hn : ¬ p = t) (ha : ly_G a) : ly_G (ly_tg a p t) := by
  have hv := ly_tgv a hp ht hn
  obtain ⟨hT, h6, hs, hi⟩ := ha
  refine ⟨ly_Tu (ly_Tu hT hp) ht, fun x k hk => ?_, fun x k => ?_, fun x => ?_⟩
  · rw [hv, h6 x k hk, decide_eq_false (show ¬ k = t by omega), decide_eq_false (show ¬ k = p by omega)]
    cases decide (x = p) <;> cases decide (x = t) <;> rfl
  · rw [hv, hv, hs x k]
    cases bt (a k) x <;> cases decide (x = p) <;> cases decide (x = t) <;> cases decide (k = p) <;> cases decide (k = t) <;> rfl
  · rw [hv, hi x]
    by_cases e : x = p
    · rw [decide_eq_false (show ¬ x = t from fun z => hn (e.symm.trans z))]
      cases decide (x = p) <;> rfl
    · rw [decide_eq_false e]
      cases decide (x = t) <;> rfl
theorem ly_tgg (a : Nat → Int32) {p t : Nat} (hp : p < 6) (ht : t < 6) (hn : ¬ p = t) : ly_tg (ly_tg a p t) p t = a := by
  funext x
  apply b_ext
  intro k hk
  rw [ly_tgv _ hp ht hn, ly_tgv a hp ht hn]
  cases bt (a x) k <;> cases ((decide (x = p) && decide (k = t)) || (decide (x = t) && decide (k = p))) <;> rfl
section
variable {fl flo kn : Int32} {a o r f lf rw nm ls cs fs : Nat → Int32}
theorem ly_xtl {post : SX → Prop} {p t : Nat} (hp : p < 6) (ht : t < 6) (h : post (fl, flo, ly_tg a p t, o, r, f)) : wpX_turnLine post (fl, flo, a, o, r, f) (nI p) (nI t) :=
  ⟨ly_i hp, ly_i hp, nm_r (e' := upd a p (a p ^^^ ((1 : Int32) <<< (nI t &&& 31)))) (by rw [ly_c hp]) ⟨ly_i ht, ly_i ht, nm_r (e' := ly_tg a p t) (by rw [ly_c ht]; rfl) h⟩⟩
theorem ly_yex {post : SY → Prop} {p t : Nat} (hp : p < 6) (ht : t < 6) (h : post (kn, ly_tg a p t, lf, rw, nm, ls, cs, fs)) : wpY_exchange post (kn, a, lf, rw, nm, ls, cs, fs) (nI p) (nI t) :=
  ⟨ly_i hp, ly_i hp, nm_r (e' := upd a p (a p ^^^ ((1 : Int32) <<< (nI t &&& 31)))) (by rw [ly_c hp]) ⟨ly_i ht, ly_i ht, nm_r (e' := ly_tg a p t) (by rw [ly_c ht]; rfl) h⟩⟩
theorem ly_xr1 {post : Int32 → Prop} {p : Nat} (hp : p < 6) (h : post 1) : wpX_isInRange post (nI p) := br_f (nI_pos (by omega)) (br_f (ly_n6 p hp) h)
theorem ly_xr0 {post : Int32 → Prop} {v : Int32} (hv : v < 0 ∨ nI 6 ≤ v) (h : post 0) : wpX_isInRange post v := by
  by_cases h0 : v < 0
  · exact br_t h0 h
  · exact br_f h0 (br_t (hv.resolve_left h0) h)
theorem ly_h5 {v : Int32} (h : nI 6 ≤ v) : 5 < v := Int32.lt_of_lt_of_le (by decide : (5 : Int32) < nI 6) h
theorem ly_l5 {p : Nat} (hp : p < 6) : ¬ 5 < nI p := nI_nlt (a := 5) (by omega) (by decide)
theorem ly_pair (v1 v2 : Int32) : (∃ p t, p < 6 ∧ t < 6 ∧ ¬ p = t ∧ v1 = nI p ∧ v2 = nI t) ∨ ((∀ post : Int32 → Prop, post 0 → wpX_isPair post v1 v2) ∧ ∀ post : Int32 → Prop, post 0 → wpY_isPair post (kn, a, lf, rw, nm, ls, cs, fs) v1 v2) := by
  have k1 : ∀ v : Int32, (v < 0 ∨ nI 6 ≤ v) ∨ ∃ j : Nat, j < 6 ∧ v = nI j := fun v => by
    rcases pk_ix v (n := 6) (by decide) with h | h | h
    · exact Or.inl (Or.inl h)
    · exact Or.inl (Or.inr h)
    · exact Or.inr h
  rcases k1 v1 with h1 | ⟨p, hp, rfl⟩
  · refine Or.inr ⟨fun post h => ly_xr0 h1 (br_t rfl h), fun post h => ?_⟩
    by_cases h0 : v1 < 0
    · exact br_t h0 h
    · exact br_f h0 (br_t (ly_h5 (h1.resolve_left h0)) h)
  · rcases k1 v2 with h2 | ⟨t, ht, rfl⟩
    · refine Or.inr ⟨fun post h => ly_xr1 hp (br_f (by decide) (ly_xr0 h2 (br_t rfl h))), fun post h => br_f (nI_pos (by omega)) (br_f (ly_l5 hp) ?_)⟩
      by_cases h0 : v2 < 0
      · exact br_t h0 h
      · exact br_f h0 (br_t (ly_h5 (h2.resolve_left h0)) h)
    · by_cases e : p = t
      · subst e
        exact Or.inr ⟨fun post h => ly_xr1 hp (br_f (by decide) (ly_xr1 hp (br_f (by decide) (br_t rfl h)))), fun post h => br_f (nI_pos (by omega)) (br_f (ly_l5 hp) (br_f (nI_pos (by omega)) (br_f (ly_l5 hp) (br_t rfl h))))⟩
      · exact Or.inl ⟨p, t, hp, ht, e, rfl, rfl⟩
theorem ly_ine {p t : Nat} (hp : p < 6) (ht : t < 6) (hn : ¬ p = t) : ¬ nI p = nI t := fun z => hn ((nI_eq (by omega) (by omega)).mp z)
theorem ly_xpr {post : Int32 → Prop} {p t : Nat} (hp : p < 6) (ht : t < 6) (hn : ¬ p = t) (h : post 1) : wpX_isPair post (nI p) (nI t) :=
  ly_xr1 hp (br_f (by decide) (ly_xr1 ht (br_f (by decide) (br_f (ly_ine hp ht hn) h))))
theorem ly_ypr {post : Int32 → Prop} {p t : Nat} (hp : p < 6) (ht : t < 6) (hn : ¬ p = t) (h : post 1) : wpY_isPair post (kn, a, lf, rw, nm, ls, cs, fs) (nI p) (nI t) :=
  br_f (nI_pos (by omega)) (br_f (ly_l5 hp) (br_f (nI_pos (by omega)) (br_f (ly_l5 ht) (br_f (ly_ine hp ht hn) h))))
end
