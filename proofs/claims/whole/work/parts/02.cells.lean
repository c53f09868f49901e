/-! 02: shifts and masks of nI; cells of a language in an array: X's at o + code, Y's at o + code - 1 -/
theorem wr_p31 {t : Nat} (ht : t < 31) : 2 ^ t < 2 ^ 31 := Nat.pow_lt_pow_right (by decide) ht
theorem wr_shl {a t : Nat} (ht : t < 32) (h : a * 2 ^ t < 2 ^ 32) : nI a <<< (nI t &&& 31) = nI (a * 2 ^ t) := pk_shlN _ t (s_l t ht) h
theorem wr_shl1 {t : Nat} (ht : t < 31) : (1 : Int32) <<< (nI t &&& 31) = nI (2 ^ t) := by
  have h := wr_shl (a := 1) (t := t) (by omega) (by rw [Nat.one_mul]; exact Nat.lt_trans (wr_p31 ht) (by decide))
  rw [Nat.one_mul] at h
  exact h
theorem wr_shl2 {t : Nat} (ht : t < 30) : (2 : Int32) <<< (nI t &&& 31) = nI (2 ^ (t + 1)) := by
  have e : 2 * 2 ^ t = 2 ^ (t + 1) := by rw [Nat.pow_succ, Nat.mul_comm]
  have h := wr_shl (a := 2) (t := t) (by omega) (by rw [e]; exact Nat.lt_trans (wr_p31 (by omega)) (by decide))
  rw [e] at h
  exact h
theorem wr_shr {a t : Nat} (ha : a < 2 ^ 31) (ht : t < 32) : nI a >>> (nI t &&& 31) = nI (a / 2 ^ t) := pk_shrN ha _ t (s_l t ht)
theorem wr_and1 {a : Nat} (ha : a < 2 ^ 31) : nI a &&& 1 = nI (a % 2) := pk_andN (by omega) (m := 1) 1 (by decide)
theorem wr_sub1 {a : Nat} (h : 1 ≤ a) : nI a - 1 = nI (a - 1) := pk_sub (b := 1) h
theorem wr_msk {a t : Nat} (ha : a < 2 ^ 31) (ht : t < 31) : nI a &&& (nI (2 ^ t) - 1) = nI (a % 2 ^ t) := by
  have p := Nat.two_pow_pos t
  have q := wr_p31 ht
  rw [wr_sub1 p]
  exact pk_andN (by omega) t (pk_tn (by omega))
theorem wr_256 {N : Nat} (h : N ≤ 7) : 2 ^ (N + 1) ≤ 256 := wr_pw (show N + 1 ≤ 8 by omega)
theorem wr_4 {N : Nat} (h : 1 ≤ N) : 4 ≤ 2 ^ (N + 1) := wr_pw (show 2 ≤ N + 1 by omega)
def wr_X (M o : Nat) (a : Nat → Int32) (G : Nat → Prop) : Prop := ∀ c, 1 ≤ c → c < M → a (o + c) = wr_d (G c)
def wr_Y (o : Nat) (a : Nat → Int32) (G : Nat → Prop) : Prop := ∀ w, w < 255 → a (o + w) = wr_d (G (w + 1))
theorem wr_Xu {M o w : Nat} {a : Nat → Int32} {G G' : Nat → Prop} {q : Prop} (h : wr_X M o a G) (hq : G' w ↔ q) (hG : ∀ c, 1 ≤ c → c < M → c ≠ w → (G' c ↔ G c)) : wr_X M o (upd a (o + w) (wr_d q)) G' := by
  intro c h1 h2
  by_cases e : c = w
  · rw [e, pk_us]
    exact (wr_dc hq).symm
  · rw [pk_un (by omega), h c h1 h2]
    exact (wr_dc (hG c h1 h2 e)).symm
theorem wr_Xk {M o : Nat} {a b : Nat → Int32} {G : Nat → Prop} (h : wr_X M o a G) (hk : ∀ c, 1 ≤ c → c < M → b (o + c) = a (o + c)) : wr_X M o b G := fun c h1 h2 => (hk c h1 h2).trans (h c h1 h2)
theorem wr_Xc {M o : Nat} {a : Nat → Int32} {G G' : Nat → Prop} (h : wr_X M o a G) (hG : ∀ c, 1 ≤ c → c < M → (G' c ↔ G c)) : wr_X M o a G' := fun c h1 h2 => (h c h1 h2).trans (wr_dc (hG c h1 h2)).symm
/-! loops: a search, a count -/
theorem wr_srch (W : Nat → Nat → Prop) (H : Nat → Prop) {p1 p0 : Prop} (i0 e : Nat) (hie : i0 ≤ e) (hp1 : (∃ i, i0 ≤ i ∧ i < e ∧ H i) → p1) (hp0 : (¬ ∃ i, i0 ≤ i ∧ i < e ∧ H i) → p0)
    (hx : p0 → ∀ n, W (n + 1) e) (hs : ∀ n i, i0 ≤ i → i < e → (H i → p1) → (¬ H i → W n (i + 1)) → W (n + 1) i) : W (e - i0 + 1) i0 := by
  have key : ∀ d i, i + d = e → i0 ≤ i → (∀ j, i0 ≤ j → j < i → ¬ H j) → W (d + 1) i := by
    intro d
    induction d with
    | zero =>
      intro i hi h0 hn
      have : i = e := by omega
      subst this
      exact hx (hp0 fun ⟨j, a, b, c⟩ => hn j a b c) 0
    | succ d ih =>
      intro i hi h0 hn
      refine hs _ i h0 (by omega) (fun h => hp1 ⟨i, h0, by omega, h⟩) fun h => ih (i + 1) (by omega) (by omega) fun j a b => ?_
      by_cases e : j = i
      · rw [e]; exact h
      · exact hn j a (by omega)
  exact key (e - i0) i0 (by omega) (Nat.le_refl _) (fun j a b => absurd b (by omega))
theorem wr_cnt (W : Nat → Nat → Nat → Prop) (P : Nat → Prop) (a k : Nat) (hx : ∀ n, W (n + 1) (a + k) (wr_n P a k))
    (hs : ∀ n i s, a ≤ i → i < a + k → s ≤ i - a → W n (i + 1) (s + wr_o (P i)) → W (n + 1) i s) : W (k + 1) a 0 := by
  have key : ∀ d i, i + d = k → W (d + 1) (a + i) (wr_n P a i) := by
    intro d
    induction d with
    | zero =>
      intro i hi
      have : i = k := by omega
      subst this
      exact hx 0
    | succ d ih =>
      intro i hi
      exact hs _ _ _ (by omega) (by omega) (by have := wr_n_le P a i; omega) (ih (i + 1) (by omega))
  exact key k 0 (by omega)
/-! heads, tails and mirror images as Y reckons them (bits = c - 2^l) -/
theorem wr_y1 {c l p : Nat} (h : 2 ^ l ≤ c) (hp : p ≤ l) : 2 ^ p + (c - 2 ^ l) / 2 ^ (l - p) = c / 2 ^ (l - p) := by
  obtain ⟨b, rfl⟩ : ∃ b, c = 2 ^ l + b := ⟨c - 2 ^ l, by omega⟩
  have e : 2 ^ l = 2 ^ (l - p) * 2 ^ p := by rw [← Nat.pow_add, show l - p + p = l by omega]
  rw [Nat.add_sub_cancel_left, e, Nat.mul_add_div (Nat.two_pow_pos _)]
theorem wr_y2 {c l r : Nat} (h : 2 ^ l ≤ c) (hr : r ≤ l) : (c - 2 ^ l) % 2 ^ r = c % 2 ^ r := by
  obtain ⟨b, rfl⟩ : ∃ b, c = 2 ^ l + b := ⟨c - 2 ^ l, by omega⟩
  have e : 2 ^ l = 2 ^ r * 2 ^ (l - r) := by rw [← Nat.pow_add, show r + (l - r) = l by omega]
  rw [Nat.add_sub_cancel_left, e, Nat.mul_add_mod]
theorem wr_y3 {c l i : Nat} (h : 2 ^ l ≤ c) (hi : i < l) : (c - 2 ^ l) / 2 ^ i % 2 = c / 2 ^ i % 2 := by
  obtain ⟨b, rfl⟩ : ∃ b, c = 2 ^ l + b := ⟨c - 2 ^ l, by omega⟩
  have e : 2 ^ l = 2 ^ i * (2 * 2 ^ (l - i - 1)) := by
    rw [← Nat.pow_succ', ← Nat.pow_add, show i + Nat.succ (l - i - 1) = l by omega]
  rw [Nat.add_sub_cancel_left, e, Nat.mul_add_div (Nat.two_pow_pos _), Nat.mul_add_mod]
