/-! 08: the relation, and how the makers keep it -/
def wr_ok (N D T : Nat) (L : Nat → Nat) : Prop := 1 ≤ N ∧ N ≤ 7 ∧ D ≤ 8 ∧ T ≤ 255 ∧ wr_s L D ≤ 12
def wr_RX (N D : Nat) (L : Nat → Nat) (A S : Nat → Nat → Prop) (st le sl : Nat → Int32) : Prop :=
  (∀ i, i < D → le i = nI (L i)) ∧ (∀ i, i < D → wr_X (2 ^ (N + 1)) (i * 256) st (A i)) ∧ (∀ i, i < 3 → wr_X (2 ^ (N + 1)) (i * 256) sl (S i))
def wr_RY (D : Nat) (L : Nat → Nat) (A S : Nat → Nat → Prop) (st le sl : Nat → Int32) : Prop :=
  (∀ i, i < D → le i = nI (L i)) ∧ (∀ i, i < D → wr_Y (i * 255) st (A i)) ∧ (∀ i, i < 3 → wr_Y (i * 255) sl (S i))
/-- both states picture one stack of languages, three slots, one table, one N -/
def i_Rel (_ : Nat) (u : SX) (v : SY) : Prop :=
  ∃ (N D T : Nat) (L : Nat → Nat) (A S : Nat → Nat → Prop) (sx lx ox sy ly oy fy : Nat → Int32), wr_ok N D T L ∧ u = (nI N, nI D, nI T, sx, lx, ox) ∧ v = (nI D, nI T, nI N, sy, ly, oy, fy) ∧ wr_RX N D L A S sx lx ox ∧ wr_RY D L A S sy ly oy
theorem i_up {k : Nat} {u : SX} {v : SY} (h : i_Rel k u v) : i_Rel (k + 3) u v := h
section
variable {N D T k : Nat} {L : Nat → Nat} {A S : Nat → Nat → Prop} {st le sl a b fy : Nat → Int32} {G : Nat → Prop}
theorem wr_mk {sx lx ox sy ly oy : Nat → Int32} (h : wr_ok N D T L) (hx : wr_RX N D L A S sx lx ox) (hy : wr_RY D L A S sy ly oy) : i_Rel k (nI N, nI D, nI T, sx, lx, ox) (nI D, nI T, nI N, sy, ly, oy, fy) :=
  ⟨N, D, T, L, A, S, sx, lx, ox, sy, ly, oy, fy, h, rfl, rfl, hx, hy⟩
theorem wr_lep {p : Nat} (h : ∀ i, i < D → le i = nI (L i)) (h3 : ∀ i, i < D → b i = le i) (h4 : b D = nI p) : ∀ i, i < D + 1 → b i = nI (wr_u L D p i) := by
  intro i hi
  by_cases e : i = D
  · rw [e, wr_us]
    exact h4
  · rw [wr_un e, h3 i (by omega)]
    exact h i (by omega)
theorem wr_RXp {p : Nat} (hN : N ≤ 7) (h : wr_RX N D L A S st le sl) (h1 : wr_X (2 ^ (N + 1)) (D * 256) a G) (h2 : ∀ j, j < D * 256 → a j = st j) (h3 : ∀ i, i < D → b i = le i) (h4 : b D = nI p) : wr_RX N (D + 1) (wr_u L D p) (wr_u A D G) S a b sl := by
  have hM := wr_256 hN
  refine ⟨wr_lep h.1 h3 h4, fun i hi => ?_, h.2.2⟩
  by_cases e : i = D
  · rw [e, wr_us]
    exact h1
  · rw [wr_un e]
    exact wr_Xk (h.2.1 i (by omega)) fun c _ hc => h2 _ (by omega)
theorem wr_RYp {p : Nat} (h : wr_RY D L A S st le sl) (h1 : wr_Y (D * 255) a G) (h2 : ∀ j, j < D * 255 → a j = st j) (h3 : ∀ i, i < D → b i = le i) (h4 : b D = nI p) : wr_RY (D + 1) (wr_u L D p) (wr_u A D G) S a b sl := by
  refine ⟨wr_lep h.1 h3 h4, fun i hi => ?_, h.2.2⟩
  by_cases e : i = D
  · rw [e, wr_us]
    exact h1
  · rw [wr_un e]
    exact fun w hw => (h2 _ (by omega)).trans (h.2.1 i (by omega) w hw)
theorem wr_RXs (hN : N ≤ 7) (hD : 1 ≤ D) (h : wr_RX N D L A S st le sl) (h1 : wr_X (2 ^ (N + 1)) ((D - 1) * 256) a G) (h2 : ∀ j, j < (D - 1) * 256 → a j = st j) : wr_RX N D L (wr_u A (D - 1) G) S a le sl := by
  have hM := wr_256 hN
  refine ⟨h.1, fun i hi => ?_, h.2.2⟩
  by_cases e : i = D - 1
  · rw [e, wr_us]
    exact h1
  · rw [wr_un e]
    exact wr_Xk (h.2.1 i hi) fun c _ hc => h2 _ (by omega)
theorem wr_RYs (hD : 1 ≤ D) (h : wr_RY D L A S st le sl) (h1 : wr_Y ((D - 1) * 255) a G) (h2 : ∀ j, j < (D - 1) * 255 → a j = st j) : wr_RY D L (wr_u A (D - 1) G) S a le sl := by
  refine ⟨h.1, fun i hi => ?_, h.2.2⟩
  by_cases e : i = D - 1
  · rw [e, wr_us]
    exact h1
  · rw [wr_un e]
    exact fun w hw => (h2 _ (by omega)).trans (h.2.1 i hi w hw)
theorem wr_lem (hD : 2 ≤ D) (h : ∀ i, i < D → le i = nI (L i)) : ∀ i, i < D - 1 → upd le (D - 2) (le (D - 2) + le (D - 1)) i = nI (wr_u L (D - 2) (L (D - 2) + L (D - 1)) i) := by
  intro i hi
  by_cases e : i = D - 2
  · rw [e, wr_us, pk_us, h _ (by omega), h _ (by omega), nI_add]
  · rw [wr_un e, pk_un e]
    exact h i (by omega)
theorem wr_RXm (hN : N ≤ 7) (hD : 2 ≤ D) (h : wr_RX N D L A S st le sl) (h1 : wr_X (2 ^ (N + 1)) ((D - 2) * 256) a G) (h2 : ∀ j, j < (D - 2) * 256 → a j = st j) : wr_RX N (D - 1) (wr_u L (D - 2) (L (D - 2) + L (D - 1))) (wr_u A (D - 2) G) S a (upd le (D - 2) (le (D - 2) + le (D - 1))) sl := by
  have hM := wr_256 hN
  refine ⟨wr_lem hD h.1, fun i hi => ?_, h.2.2⟩
  by_cases e : i = D - 2
  · rw [e, wr_us]
    exact h1
  · rw [wr_un e]
    exact wr_Xk (h.2.1 i (by omega)) fun c _ hc => h2 _ (by omega)
theorem wr_RYm (hD : 2 ≤ D) (h : wr_RY D L A S st le sl) (h1 : wr_Y ((D - 2) * 255) a G) (h2 : ∀ j, j < (D - 2) * 255 → a j = st j) : wr_RY (D - 1) (wr_u L (D - 2) (L (D - 2) + L (D - 1))) (wr_u A (D - 2) G) S a (upd le (D - 2) (le (D - 2) + le (D - 1))) sl := by
  refine ⟨wr_lem hD h.1, fun i hi => ?_, h.2.2⟩
  by_cases e : i = D - 2
  · rw [e, wr_us]
    exact h1
  · rw [wr_un e]
    exact fun w hw => (h2 _ (by omega)).trans (h.2.1 i (by omega) w hw)
theorem wr_RXt {j : Nat} (hN : N ≤ 7) (h : wr_RX N D L A S st le sl) (h1 : wr_X (2 ^ (N + 1)) (j * 256) a G) (h2 : wr_fr (j * 256) sl a) : wr_RX N (D - 1) L A (wr_u S j G) st le a := by
  have hM := wr_256 hN
  refine ⟨fun i hi => h.1 i (by omega), fun i hi => h.2.1 i (by omega), fun i hi => ?_⟩
  by_cases e : i = j
  · rw [e, wr_us]
    exact h1
  · rw [wr_un e]
    refine wr_Xk (h.2.2 i hi) fun c _ hc => ?_
    by_cases e2 : i < j
    · exact h2.1 _ (by omega)
    · exact h2.2 _ (by omega)
theorem wr_RYt {j : Nat} (h : wr_RY D L A S st le sl) (h1 : wr_Y (j * 255) a G) (h2 : ∀ k, k < j * 255 → a k = sl k) (h3 : ∀ k, j * 255 + 255 ≤ k → a k = sl k) : wr_RY (D - 1) L A (wr_u S j G) st le a := by
  refine ⟨fun i hi => h.1 i (by omega), fun i hi => h.2.1 i (by omega), fun i hi => ?_⟩
  by_cases e : i = j
  · rw [e, wr_us]
    exact h1
  · rw [wr_un e]
    intro w hw
    by_cases e2 : i < j
    · exact (h2 _ (by omega)).trans (h.2.2 i hi w hw)
    · exact (h3 _ (by omega)).trans (h.2.2 i hi w hw)
theorem wr_okp {p : Nat} (h : wr_ok N D T L) (hD : D < 8) (hs : wr_s L D + p ≤ 12) : wr_ok N (D + 1) T (wr_u L D p) := by
  refine ⟨h.1, h.2.1, hD, h.2.2.2.1, ?_⟩
  show wr_s (wr_u L D p) D + wr_u L D p D ≤ 12
  rw [wr_us, wr_s_cg (M := L) D (fun i hi => wr_un (by omega))]
  exact hs
theorem wr_okm (h : wr_ok N D T L) (hD : 2 ≤ D) : wr_ok N (D - 1) T (wr_u L (D - 2) (L (D - 2) + L (D - 1))) := by
  have h5 := h.2.2.2.2
  refine ⟨h.1, h.2.1, by have := h.2.2.1; omega, h.2.2.2.1, ?_⟩
  obtain ⟨e, rfl⟩ : ∃ e, D = e + 2 := ⟨D - 2, by omega⟩
  have g : wr_s L (e + 2) = wr_s L e + L e + L (e + 1) := rfl
  show wr_s (wr_u L e (L e + L (e + 1))) e + wr_u L e (L e + L (e + 1)) e ≤ 12
  rw [wr_us, wr_s_cg (M := L) e (fun i hi => wr_un (by omega))]
  omega
theorem wr_okt (h : wr_ok N D T L) : wr_ok N (D - 1) T L := by
  have h5 := h.2.2.2.2
  have h6 := wr_s_mono L (show D - 1 ≤ D by omega)
  exact ⟨h.1, h.2.1, by have := h.2.2.1; omega, h.2.2.2.1, by omega⟩
end
