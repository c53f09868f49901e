/-! 03: X's questions -/
theorem wr_di {p q : Prop} (h : wr_d p = wr_d q) : p ↔ q :=
  ⟨fun a => wr_d1.mp (h.symm.trans (wr_dt a)), fun a => wr_d1.mp (h.trans (wr_dt a))⟩
theorem wr_cb {p A B : Prop} (a : ¬ p → A) (b : p → B) : (wr_d p = 0 → A) ∧ (¬ wr_d p = 0 → B) :=
  ⟨fun h => a (wr_d0.mp h), fun h => b (Classical.byContradiction fun q => h (wr_df q))⟩
theorem wr_n_s (P : Nat → Prop) {i : Nat} (h : 1 ≤ i) : wr_n P 1 i = wr_n P 1 (i - 1) + wr_o (P i) := by
  obtain ⟨j, rfl⟩ : ∃ j, i = j + 1 := ⟨i - 1, by omega⟩
  show wr_n P 1 j + wr_o (P (1 + j)) = wr_n P 1 j + wr_o (P (j + 1))
  rw [Nat.add_comm 1 j]
def wr_bad (N : Nat) (v : Int32) : Prop := v < 0 ∨ (¬ v < 0 ∧ nI N < v)
theorem wr_len {N : Nat} (hN : N ≤ 7) (v : Int32) : wr_bad N v ∨ ∃ l, l ≤ N ∧ v = nI l := by
  by_cases h0 : v < 0
  · exact Or.inl (Or.inl h0)
  · obtain ⟨j, hj, rfl⟩ := nI_of h0
    by_cases h : j ≤ N
    · exact Or.inr ⟨j, h, rfl⟩
    · exact Or.inl (Or.inr ⟨h0, nI_lt (by omega) hj⟩)
def wr_bad2 (N : Nat) (v w : Int32) : Prop := wr_bad N v ∨ ∃ l, l ≤ N ∧ v = nI l ∧ (w < 0 ∨ (¬ w < 0 ∧ nI (2 ^ l) ≤ w))
theorem wr_val {N : Nat} (hN : N ≤ 7) (v w : Int32) : wr_bad2 N v w ∨ ∃ l b, l ≤ N ∧ b < 2 ^ l ∧ v = nI l ∧ w = nI b := by
  rcases wr_len hN v with h | ⟨l, hl, e⟩
  · exact Or.inl (Or.inl h)
  · by_cases h0 : w < 0
    · exact Or.inl (Or.inr ⟨l, hl, e, Or.inl h0⟩)
    · obtain ⟨j, hj, rfl⟩ := nI_of h0
      by_cases h : j < 2 ^ l
      · exact Or.inr ⟨l, j, hl, h, e, rfl⟩
      · exact Or.inl (Or.inr ⟨l, hl, e, Or.inr ⟨h0, nI_le (by omega) hj⟩⟩)
section
variable {N D T : Nat} {st le sl : Nat → Int32} {S : Nat → Nat → Prop} {post : Int32 → Prop}
theorem wx_picked1 (hN : N ≤ 7) (hS : ∀ i, i < 3 → wr_X (2 ^ (N + 1)) (i * 256) sl (S i)) {c : Nat} (h1 : 1 ≤ c) (h2 : c < 2 ^ (N + 1)) {j x y n : Nat} (hj : j < 3) (hy : y = x + 2 ^ j * wr_o (S j c))
    (h : wX_isPicked_4 post (nI c) (nI N) (nI D) (nI T) st le sl n (nI y) (nI (j + 1))) : wX_isPicked_4 post (nI c) (nI N) (nI D) (nI T) st le sl (n + 1) (nI x) (nI j) := by
  have hM := wr_256 hN
  have e : nI j * 256 + nI c = nI (j * 256 + c) := by
    rw [← nI_add, ← pk_mul]
    rfl
  have e2 : sl (nI j * 256 + nI c).toNatClampNeg = wr_d (S j c) := by
    rw [e, nI_clamp (by omega)]
    exact hS j hj c h1 h2
  have e3 : vp_in (nI j * 256 + nI c) 768 := by
    rw [e]
    exact vp_in_nI (by omega) (by decide)
  subst hy
  refine br_f (nI_ge (b := 3) hj (by decide)) ⟨e3, ?_⟩
  rw [e2]
  refine wr_cb (fun q => nm_r (nI_1 j) ?_) (fun q => nm_r (e' := nI (x + 2 ^ j * wr_o (S j c))) ?_ (nm_r (nI_1 j) h))
  · rw [wr_of q, Nat.mul_zero, Nat.add_zero] at h
    exact h
  · rw [wr_ot q, Nat.mul_one, wr_shl1 (by omega), nI_add]
theorem wx_picked (hN : N ≤ 7) (hT : T ≤ 255) (hS : ∀ i, i < 3 → wr_X (2 ^ (N + 1)) (i * 256) sl (S i)) {c : Nat} (h1 : 1 ≤ c) (h2 : c < 2 ^ (N + 1)) (hp : post (wr_d (wr_Ch S T c))) : wpX_isPicked post (nI N, nI D, nI T, st, le, sl) (nI c) := by
  have hi := wr_i8 S c
  have k3 : wX_isPicked_4 post (nI c) (nI N) (nI D) (nI T) st le sl 1 (nI (wr_i S c)) (nI 3) := by
    refine br_t (nI_le (a := 3) (b := 3) (Nat.le_refl 3) (by decide)) ?_
    rw [wr_shr (by omega) (by omega), wr_and1 (Nat.lt_of_le_of_lt (Nat.div_le_self _ _) (by omega))]
    by_cases q : wr_Ch S T c
    · rw [wr_dt q] at hp
      exact br_t (congrArg nI q) hp
    · rw [wr_df q] at hp
      exact br_f (fun e => q ((nI_eq (b := 1) (Nat.lt_trans (Nat.mod_lt _ (by decide)) (by decide : 2 < 2 ^ 31)) (by decide)).mp e)) hp
  have k2 : wX_isPicked_4 post (nI c) (nI N) (nI D) (nI T) st le sl 2 (nI (wr_o (S 0 c) + 2 * wr_o (S 1 c))) (nI 2) := wx_picked1 hN hS h1 h2 (by decide) (by unfold wr_i; omega) k3
  have k1 : wX_isPicked_4 post (nI c) (nI N) (nI D) (nI T) st le sl 3 (nI (wr_o (S 0 c))) (nI 1) := wx_picked1 hN hS h1 h2 (by decide) (by omega) k2
  have k0 : wX_isPicked_4 post (nI c) (nI N) (nI D) (nI T) st le sl 4 (nI 0) (nI 0) := wx_picked1 hN hS h1 h2 (by decide) (by omega) k1
  exact Exists.intro 4 k0
theorem wx_count5 (hN : N ≤ 7) (hT : T ≤ 255) (hS : ∀ i, i < 3 → wr_X (2 ^ (N + 1)) (i * 256) sl (S i)) {a e : Nat} (h1 : 1 ≤ a) (h2 : a ≤ e) (h3 : e ≤ 2 ^ (N + 1)) (hp : post (nI (wr_n (wr_Ch S T) a (e - a)))) : wpX_countChosen post (nI N, nI D, nI T, st, le, sl) (nI a) (nI e) := by
  have hM := wr_256 hN
  show ∃ n, wX_countChosen_5 post (nI e) (nI N) (nI D) (nI T) st le sl n 0 (nI a)
  refine ⟨_, wr_cnt (fun n i s => wX_countChosen_5 post (nI e) (nI N) (nI D) (nI T) st le sl n (nI s) (nI i)) (wr_Ch S T) a (e - a) (fun n => ?_) (fun n i s h4 h5 h6 hk => ?_)⟩
  · rw [show a + (e - a) = e by omega]
    exact br_t (nI_le (Nat.le_refl e) (by omega)) hp
  · refine br_f (nI_ge (by omega) (by omega)) (wx_picked hN hT hS (by omega) (by omega) (wr_cb (fun q => nm_r (nI_1 i) ?_) (fun q => nm_r (nI_1 s) (nm_r (nI_1 i) ?_))))
    · rw [wr_of q] at hk
      exact hk
    · rw [wr_ot q] at hk
      exact hk
theorem wx_len0 {v : Int32} (h : wr_bad N v) (hp : post 0) : wpX_isLength post (nI N, nI D, nI T, st, le, sl) v := h.elim (fun h => br_t h hp) fun h => br_f h.1 (br_t h.2 hp)
theorem wx_len1 (hN : N ≤ 7) {l : Nat} (hl : l ≤ N) (hp : post 1) : wpX_isLength post (nI N, nI D, nI T, st, le, sl) (nI l) := br_f (nI_pos (by omega)) (br_f (nI_nlt hl (by omega)) hp)
theorem wx_countB {v : Int32} (h : wr_bad N v) (hp : post (-1)) : wpX_count post (nI N, nI D, nI T, st, le, sl) v := by
  unfold wpX_count
  dsimp only
  exact wx_len0 h (br_t rfl hp)
theorem wx_countG (hN : N ≤ 7) (hT : T ≤ 255) (hS : ∀ i, i < 3 → wr_X (2 ^ (N + 1)) (i * 256) sl (S i)) {l : Nat} (hl : l ≤ N) (hp : post (nI (wr_n (wr_Ch S T) (2 ^ l) (2 ^ l)))) : wpX_count post (nI N, nI D, nI T, st, le, sl) (nI l) := by
  unfold wpX_count
  dsimp only
  have p := Nat.two_pow_pos l
  have q := wr_pw (show l + 1 ≤ N + 1 by omega)
  have e : 2 ^ (l + 1) = 2 ^ l * 2 := Nat.pow_succ ..
  refine wx_len1 hN hl (br_f (by decide) ?_)
  rw [wr_shl1 (by omega), wr_shl2 (by omega)]
  refine wx_count5 hN hT hS p (by omega) q ?_
  rw [show 2 ^ (l + 1) - 2 ^ l = 2 ^ l by omega]
  exact hp
theorem wx_total (hN : N ≤ 7) (hT : T ≤ 255) (hS : ∀ i, i < 3 → wr_X (2 ^ (N + 1)) (i * 256) sl (S i)) (hp : post (nI (wr_n (wr_Ch S T) 1 (2 ^ (N + 1) - 1)))) : wpX_total post (nI N, nI D, nI T, st, le, sl) := by
  unfold wpX_total
  dsimp only
  rw [wr_shl2 (by omega)]
  exact wx_count5 (a := 1) hN hT hS (Nat.le_refl 1) (Nat.two_pow_pos _) (Nat.le_refl _) hp
theorem wx_val0 (hN : N ≤ 7) {v w : Int32} (h : wr_bad2 N v w) (hp : post 0) : wpX_isValid post (nI N, nI D, nI T, st, le, sl) v w := by
  unfold wpX_isValid
  dsimp only
  rcases h with h | ⟨l, hl, rfl, h⟩
  · exact wx_len0 h (br_t rfl hp)
  · refine wx_len1 hN hl (br_f (by decide) ?_)
    rw [wr_shl1 (by omega)]
    exact h.elim (fun h => br_t h hp) fun h => br_f h.1 (br_t h.2 hp)
theorem wx_val1 (hN : N ≤ 7) {l b : Nat} (hl : l ≤ N) (hb : b < 2 ^ l) (hp : post 1) : wpX_isValid post (nI N, nI D, nI T, st, le, sl) (nI l) (nI b) := by
  unfold wpX_isValid
  dsimp only
  have q := wr_pw (show l ≤ 7 by omega)
  refine wx_len1 hN hl (br_f (by decide) ?_)
  rw [wr_shl1 (by omega)]
  exact br_f (nI_pos (by omega)) (br_f (nI_ge hb (by omega)) hp)
theorem wx_isChosenB (hN : N ≤ 7) {v w : Int32} (h : wr_bad2 N v w) (hp : post (-1)) : wpX_isChosen post (nI N, nI D, nI T, st, le, sl) v w := by
  unfold wpX_isChosen
  dsimp only
  exact wx_val0 hN h (br_t rfl hp)
theorem wr_lb {N l b : Nat} (hl : l ≤ N) (hb : b < 2 ^ l) : 1 ≤ 2 ^ l + b ∧ 2 ^ l + b < 2 ^ (l + 1) ∧ 2 ^ l + b < 2 ^ (N + 1) := by
  have p := Nat.two_pow_pos l
  have q := wr_pw (show l + 1 ≤ N + 1 by omega)
  have e : 2 ^ (l + 1) = 2 ^ l * 2 := Nat.pow_succ ..
  omega
theorem wx_isChosenG (hN : N ≤ 7) (hT : T ≤ 255) (hS : ∀ i, i < 3 → wr_X (2 ^ (N + 1)) (i * 256) sl (S i)) {l b : Nat} (hl : l ≤ N) (hb : b < 2 ^ l) (hp : post (wr_d (wr_Ch S T (2 ^ l + b)))) : wpX_isChosen post (nI N, nI D, nI T, st, le, sl) (nI l) (nI b) := by
  unfold wpX_isChosen
  dsimp only
  have q := wr_lb hl hb
  refine wx_val1 hN hl hb (br_f (by decide) ?_)
  rw [wr_shl1 (by omega), nI_add]
  refine wx_picked hN hT hS q.1 q.2.2 (wr_cb (fun z => ?_) (fun z => ?_))
  · rw [wr_df z] at hp
    exact hp
  · rw [wr_dt z] at hp
    exact hp
theorem wx_rankB (hN : N ≤ 7) {v w : Int32} (h : wr_bad2 N v w) (hp : post (-1)) : wpX_rank post (nI N, nI D, nI T, st, le, sl) v w := by
  unfold wpX_rank
  dsimp only
  exact wx_val0 hN h (br_t rfl hp)
theorem wx_rankG (hN : N ≤ 7) (hT : T ≤ 255) (hS : ∀ i, i < 3 → wr_X (2 ^ (N + 1)) (i * 256) sl (S i)) {l b : Nat} (hl : l ≤ N) (hb : b < 2 ^ l) (hp : post (nI (wr_n (wr_Ch S T) 1 (2 ^ l + b - 1)))) : wpX_rank post (nI N, nI D, nI T, st, le, sl) (nI l) (nI b) := by
  unfold wpX_rank
  dsimp only
  have q := wr_lb hl hb
  refine wx_val1 hN hl hb (br_f (by decide) ?_)
  rw [wr_shl1 (by omega), nI_add]
  exact wx_count5 (a := 1) hN hT hS (Nat.le_refl 1) q.1 (Nat.le_of_lt q.2.2) hp
theorem wx_find (hN : N ≤ 7) (hT : T ≤ 255) (hS : ∀ i, i < 3 → wr_X (2 ^ (N + 1)) (i * 256) sl (S i)) {k : Int32} (hp : ∀ r, wr_F (2 ^ (N + 1)) (wr_Ch S T) k r → post (nI r)) : wpX_findChosen post (nI N, nI D, nI T, st, le, sl) k := by
  have hM := wr_256 hN
  have key : ∀ d i, 1 ≤ i → i + d = 2 ^ (N + 1) → (∀ c, 1 ≤ c → c < i → wr_Ch S T c → nI (wr_n (wr_Ch S T) 1 (c - 1)) ≠ k) → wX_findChosen_4 post k (nI N) (nI D) (nI T) st le sl (d + 1) (nI (wr_n (wr_Ch S T) 1 (i - 1))) (nI i) := by
    intro d
    induction d with
    | zero =>
      intro i h1 hi hn
      refine br_t ?_ (hp 0 (Or.inl ⟨rfl, fun c a b => hn c a (by omega)⟩))
      rw [wr_shl2 (by omega)]
      exact nI_le (by omega) (by omega)
    | succ d ih =>
      intro i h1 hi hn
      have hs := wr_n_s (wr_Ch S T) h1
      refine br_f ?_ (wx_picked hN hT hS h1 (by omega) (wr_cb (fun q => nm_r (nI_1 i) ?_) (fun q => br_c (fun e => hp i (Or.inr ⟨h1, by omega, q, e⟩)) (fun e => nm_r (nI_1 _) (nm_r (nI_1 i) ?_)))))
      · rw [wr_shl2 (by omega)]
        exact nI_ge (by omega) (by omega)
      · have g := ih (i + 1) (by omega) (by omega) (fun c a b z => if e : c = i then absurd (e ▸ z) q else hn c a (by omega) z)
        rw [Nat.add_sub_cancel, hs, wr_of q] at g
        exact g
      · have g := ih (i + 1) (by omega) (by omega) (fun c a b z => if e' : c = i then (by rw [e']; exact e) else hn c a (by omega) z)
        rw [Nat.add_sub_cancel, hs, wr_ot q] at g
        exact g
  exact Exists.intro _ (key (2 ^ (N + 1) - 1) 1 (Nat.le_refl 1) (by have := Nat.two_pow_pos (N + 1); omega) (fun c a b => absurd b (by omega)))
theorem wx_lengthOf {c : Nat} (h1 : 1 ≤ c) (h2 : c < 256) (hp : post (nI (Nat.log2 c))) : wpX_lengthOf post (nI c) := by
  have hl := wr_lgN (N := 7) h1 h2
  have key : ∀ d i x, 1 ≤ i → i + d = 8 → ((Nat.log2 c < i ∧ x = Nat.log2 c) ∨ (i ≤ Nat.log2 c ∧ x = i - 1)) → wX_lengthOf_4 post (nI c) (d + 1) (nI x) (nI i) := by
    intro d
    induction d with
    | zero =>
      intro i x h3 hi hx
      have e1 : i = 8 := by omega
      have e2 : x = Nat.log2 c := by omega
      subst e1 e2
      exact br_t (nI_lt (a := 7) (b := 8) (by decide) (by decide)) hp
    | succ d ih =>
      intro i x h3 hi hx
      have hb := Nat.log2_lt (n := c) (k := i) (by omega)
      have hq := wr_p31 (show i < 31 by omega)
      refine br_f (nI_nlt (a := 7) (by omega) (by decide)) ?_
      rw [wr_shl1 (by omega)]
      refine br_c (fun z => nm_r (nI_1 i) ?_) (fun z => nm_r (nI_1 i) ?_)
      · have w := hb.mpr ((nI_ltI (by omega) hq).mp z)
        exact ih (i + 1) x (by omega) (by omega) (by omega)
      · have w : ¬ Nat.log2 c < i := fun y => z ((nI_ltI (by omega) hq).mpr (hb.mp y))
        exact ih (i + 1) i (by omega) (by omega) (by omega)
  exact Exists.intro _ (key 7 1 0 (Nat.le_refl 1) rfl (by omega))
theorem wx_wordLen (hN : N ≤ 7) (hT : T ≤ 255) (hS : ∀ i, i < 3 → wr_X (2 ^ (N + 1)) (i * 256) sl (S i)) {k : Int32} (h0 : wr_F (2 ^ (N + 1)) (wr_Ch S T) k 0 → post (-1)) (h1 : ∀ r, 1 ≤ r → r < 256 → wr_F (2 ^ (N + 1)) (wr_Ch S T) k r → post (nI (Nat.log2 r))) : wpX_wordLen post (nI N, nI D, nI T, st, le, sl) k := by
  unfold wpX_wordLen
  dsimp only
  have hM := wr_256 hN
  refine wx_find hN hT hS fun r hr => ?_
  by_cases e : r = 0
  · subst e
    exact br_t rfl (h0 hr)
  · have hb : r < 256 := by
      rcases hr with h | h
      · omega
      · have := h.2.1
        omega
    exact br_f (nI_ne0 (by omega) (by omega)) (wx_lengthOf (by omega) hb (h1 r (by omega) hb hr))
theorem wx_wordBits (hN : N ≤ 7) (hT : T ≤ 255) (hS : ∀ i, i < 3 → wr_X (2 ^ (N + 1)) (i * 256) sl (S i)) {k : Int32} (h0 : wr_F (2 ^ (N + 1)) (wr_Ch S T) k 0 → post (-1)) (h1 : ∀ r, 1 ≤ r → r < 256 → wr_F (2 ^ (N + 1)) (wr_Ch S T) k r → post (nI (r - 2 ^ Nat.log2 r))) : wpX_wordBits post (nI N, nI D, nI T, st, le, sl) k := by
  unfold wpX_wordBits
  dsimp only
  have hM := wr_256 hN
  refine wx_find hN hT hS fun r hr => ?_
  by_cases e : r = 0
  · subst e
    exact br_t rfl (h0 hr)
  · have hb : r < 256 := by
      rcases hr with h | h
      · omega
      · have := h.2.1
        omega
    have hl := wr_lgN (N := 7) (show 1 ≤ r by omega) hb
    refine br_f (nI_ne0 (by omega) (by omega)) (wx_lengthOf (by omega) hb ?_)
    rw [wr_shl1 (by omega), pk_sub (wr_lg1 (by omega))]
    exact h1 r (by omega) hb hr
theorem wx_countFromB (hN : N ≤ 7) {v w : Int32} (h : wr_bad2 N v w) (hp : post (-1)) : wpX_countFrom post (nI N, nI D, nI T, st, le, sl) v w := by
  unfold wpX_countFrom
  dsimp only
  exact wx_val0 hN h (br_t rfl hp)
theorem wx_countFromG (hN : N ≤ 7) (hT : T ≤ 255) (hS : ∀ i, i < 3 → wr_X (2 ^ (N + 1)) (i * 256) sl (S i)) {l b : Nat} (hl : l ≤ N) (hb : b < 2 ^ l) (hp : post (nI (wr_S (wr_Ch S T) (2 ^ l + b) (N - l + 1)))) : wpX_countFrom post (nI N, nI D, nI T, st, le, sl) (nI l) (nI b) := by
  unfold wpX_countFrom
  dsimp only
  have hM := wr_256 hN
  have q := wr_lb hl hb
  refine wx_val1 hN hl hb (br_f (by decide) (nm_r (e' := nI (2 ^ l + b)) ?_ ?_))
  · rw [wr_shl1 (by omega), nI_add]
  generalize hw : 2 ^ l + b = w at hp q ⊢
  have key : ∀ d i, i + d = N - l + 1 → wX_countFrom_23 post (nI l) (nI w) (nI N) (nI D) (nI T) st le sl (d + 1) (nI (wr_S (wr_Ch S T) w i)) (nI i) := by
    intro d
    induction d with
    | zero =>
      intro i hi
      have e : i = N - l + 1 := by omega
      subst e
      refine br_t ?_ hp
      rw [pk_sub hl]
      exact nI_lt (by omega) (by omega)
    | succ d ih =>
      intro i hi
      have p := Nat.two_pow_pos i
      have a1 : (w + 1) * 2 ^ i ≤ 2 ^ (l + 1) * 2 ^ i := Nat.mul_le_mul_right _ q.2.1
      rw [← Nat.pow_add] at a1
      have a2 := wr_pw (show l + 1 + i ≤ N + 1 by omega)
      have a3 : (w + 1) * 2 ^ i = w * 2 ^ i + 2 ^ i := by rw [Nat.add_mul, Nat.one_mul]
      have a4 : 1 * 1 ≤ w * 2 ^ i := Nat.mul_le_mul q.1 p
      refine br_f ?_ ?_
      · rw [pk_sub hl]
        exact nI_nlt (by omega) (by omega)
      · rw [nI_1 w, wr_shl (by omega) (by omega), wr_shl (by omega) (by omega)]
        refine wx_count5 hN hT hS (by omega) (by omega) (by omega) (nm_r (nI_add _ _) (nm_r (nI_1 i) ?_))
        rw [show (w + 1) * 2 ^ i - w * 2 ^ i = 2 ^ i by omega]
        exact ih (i + 1) (by omega)
  exact ⟨_, key (N - l + 1) 0 (by omega)⟩
theorem wr_wb {N l e m z r : Nat} (h1 : 2 ^ l ≤ e) (h2 : e < 2 ^ (l + 1)) (hr : l + r ≤ N) (hm : m ≤ r) (hz : z < 2 ^ m) : 1 ≤ e * 2 ^ m + z ∧ e * 2 ^ m + z < 2 ^ (N + 1) := by
  have p := Nat.two_pow_pos m
  have p2 := Nat.two_pow_pos l
  have a1 : (e + 1) * 2 ^ m ≤ 2 ^ (l + 1) * 2 ^ m := Nat.mul_le_mul_right _ h2
  rw [← Nat.pow_add] at a1
  have a2 := wr_pw (show l + 1 + m ≤ N + 1 by omega)
  have a3 : (e + 1) * 2 ^ m = e * 2 ^ m + 2 ^ m := by rw [Nat.add_mul, Nat.one_mul]
  have a4 : 1 * 1 ≤ e * 2 ^ m := Nat.mul_le_mul (by omega) p
  omega
theorem wx_alike (hN : N ≤ 7) (hT : T ≤ 255) (hS : ∀ i, i < 3 → wr_X (2 ^ (N + 1)) (i * 256) sl (S i)) {l r e c : Nat} (hr : l + r ≤ N) (h1 : 2 ^ l ≤ e) (h2 : e < 2 ^ (l + 1)) (h3 : 2 ^ l ≤ c) (h4 : c < 2 ^ (l + 1)) (hp : post (wr_d (wr_A (wr_Ch S T) r e c))) : wpX_areAlike post (nI N, nI D, nI T, st, le, sl) (nI e) (nI c) (nI r) := by
  have hM := wr_256 hN
  show ∃ n, wX_areAlike_3 post (nI e) (nI c) (nI r) (nI N) (nI D) (nI T) st le sl n 0
  refine ⟨_, wr_srch (fun n i => wX_areAlike_3 post (nI e) (nI c) (nI r) (nI N) (nI D) (nI T) st le sl n (nI i)) (fun m => ∃ z, 0 ≤ z ∧ z < 2 ^ m ∧ ¬ (wr_Ch S T (e * 2 ^ m + z) ↔ wr_Ch S T (c * 2 ^ m + z))) (p1 := post 0) (p0 := post 1) 0 (r + 1) (by omega) ?_ ?_ ?_ ?_⟩
  · intro ⟨m, _, hm, z, _, hz, q⟩
    rw [wr_df (fun h => q (h m (by omega) z hz))] at hp
    exact hp
  · intro h
    rw [wr_dt (p := wr_A (wr_Ch S T) r e c) (fun m hm z hz => Classical.byContradiction fun q => h ⟨m, Nat.zero_le _, by omega, z, Nat.zero_le _, hz, q⟩)] at hp
    exact hp
  · exact fun h n => br_t (nI_lt (Nat.lt_succ_self r) (by omega)) h
  · intro n m _ hm k1 k2
    have hq := wr_p31 (show m < 31 by omega)
    refine br_f (nI_nlt (by omega) (by omega)) ⟨_, wr_srch (fun n' z => wX_areAlike_12 post (wX_areAlike_3 post (nI e) (nI c) (nI r) (nI N) (nI D) (nI T) st le sl n) (nI e) (nI c) (nI r) (nI m) (nI N) (nI D) (nI T) st le sl n' (nI z)) (fun z => ¬ (wr_Ch S T (e * 2 ^ m + z) ↔ wr_Ch S T (c * 2 ^ m + z))) (p1 := post 0) (p0 := wX_areAlike_3 post (nI e) (nI c) (nI r) (nI N) (nI D) (nI T) st le sl n (nI (m + 1))) 0 (2 ^ m) (Nat.zero_le _) k1 k2 ?_ ?_⟩
    · intro h n'
      refine br_t ?_ (nm_r (nI_1 m) h)
      rw [wr_shl1 (by omega)]
      exact nI_le (Nat.le_refl _) hq
    · intro n' z _ hz j1 j2
      have b1 := wr_wb h1 h2 hr (show m ≤ r by omega) hz
      have b2 := wr_wb h3 h4 hr (show m ≤ r by omega) hz
      refine br_f ?_ ?_
      · rw [wr_shl1 (by omega)]
        exact nI_ge hz hq
      · rw [wr_shl (by omega) (by omega), wr_shl (by omega) (by omega), nI_add, nI_add]
        exact wx_picked hN hT hS b1.1 b1.2 (wx_picked hN hT hS b2.1 b2.2 (br_c (fun h => nm_r (nI_1 z) (j2 (fun q => q (wr_di h)))) (fun h => j1 (fun q => h (wr_dc q)))))
theorem wx_first (hN : N ≤ 7) (hT : T ≤ 255) (hS : ∀ i, i < 3 → wr_X (2 ^ (N + 1)) (i * 256) sl (S i)) {l c : Nat} (hl : l ≤ N) (h3 : 2 ^ l ≤ c) (h4 : c < 2 ^ (l + 1)) (hp : post (wr_d (wr_G (wr_Ch S T) l (N - l) c))) : wpX_isFirstOfItsGroup post (nI N, nI D, nI T, st, le, sl) (nI c) (nI l) := by
  have hM := wr_256 hN
  have hq := wr_pw (show l + 1 ≤ N + 1 by omega)
  unfold wpX_isFirstOfItsGroup
  dsimp only
  refine nm_r (wr_shl1 (by omega)) ⟨_, wr_srch (fun n i => wX_isFirstOfItsGroup_4 post (nI c) (nI l) (nI N) (nI D) (nI T) st le sl n (nI i)) (fun e => wr_A (wr_Ch S T) (N - l) e c) (p1 := post 0) (p0 := post 1) (2 ^ l) c h3 ?_ ?_ ?_ ?_⟩
  · intro h
    rw [wr_df (fun g => g h)] at hp
    exact hp
  · intro h
    rw [wr_dt (p := wr_G (wr_Ch S T) l (N - l) c) h] at hp
    exact hp
  · exact fun h n => br_t (nI_le (Nat.le_refl c) (by omega)) h
  · intro n e h1 h2 k1 k2
    refine br_f (nI_ge h2 (by omega)) ?_
    rw [pk_sub hl]
    exact wx_alike hN hT hS (by omega) h1 (by omega) h3 h4 (wr_cb (fun q => nm_r (nI_1 e) (k2 q)) k1)
theorem wx_groupsB {v : Int32} (h : wr_bad N v) (hp : post (-1)) : wpX_groups post (nI N, nI D, nI T, st, le, sl) v := by
  unfold wpX_groups
  dsimp only
  exact wx_len0 h (br_t rfl hp)
theorem wx_groupsG (hN : N ≤ 7) (hT : T ≤ 255) (hS : ∀ i, i < 3 → wr_X (2 ^ (N + 1)) (i * 256) sl (S i)) {l : Nat} (hl : l ≤ N) (hp : post (nI (wr_n (wr_G (wr_Ch S T) l (N - l)) (2 ^ l) (2 ^ l)))) : wpX_groups post (nI N, nI D, nI T, st, le, sl) (nI l) := by
  have hM := wr_256 hN
  have hq := wr_pw (show l + 1 ≤ N + 1 by omega)
  have e : 2 ^ (l + 1) = 2 ^ l * 2 := Nat.pow_succ ..
  unfold wpX_groups
  dsimp only
  refine wx_len1 hN hl (br_f (by decide) (nm_r (wr_shl1 (by omega)) ⟨_, wr_cnt (fun n i s => wX_groups_16 post (nI l) (nI N) (nI D) (nI T) st le sl n (nI s) (nI i)) (wr_G (wr_Ch S T) l (N - l)) (2 ^ l) (2 ^ l) (fun n => ?_) (fun n i s h4 h5 h6 hk => ?_)⟩))
  · refine br_t ?_ hp
    rw [wr_shl2 (by omega)]
    exact nI_le (by omega) (by omega)
  · refine br_f ?_ (wx_first hN hT hS hl h4 (by omega) (wr_cb (fun q => nm_r (nI_1 i) ?_) (fun q => nm_r (nI_1 s) (nm_r (nI_1 i) ?_))))
    · rw [wr_shl2 (by omega)]
      exact nI_ge (by omega) (by omega)
    · rw [wr_of q] at hk
      exact hk
    · rw [wr_ot q] at hk
      exact hk
end
