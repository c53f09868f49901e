/-! 06: Y's questions -/
section
variable {N D T : Nat} {st le sl fr : Nat → Int32} {S : Nat → Nat → Prop} {post : Int32 → Prop}
theorem wy_51 (hT : T ≤ 255) {a b c : Nat} (hab : a + b = wr_i S c) (hp : post (wr_d (wr_Ch S T c))) : wY_chosen_51 post (nI b) (nI a) (nI D) (nI T) (nI N) st le sl fr := by
  have hi := wr_i8 S c
  refine nm_r (e' := nI (wr_i S c)) (by rw [nI_add, hab]) ?_
  rw [wr_shr (by omega) (by omega), wr_and1 (Nat.lt_of_le_of_lt (Nat.div_le_self _ _) (by omega))]
  by_cases q : wr_Ch S T c
  · rw [wr_dt q] at hp
    exact br_t (congrArg nI q) hp
  · rw [wr_df q] at hp
    exact br_f (fun e => q ((nI_eq (b := 1) (Nat.lt_trans (Nat.mod_lt _ (by decide)) (by decide : 2 < 2 ^ 31)) (by decide)).mp e)) hp
theorem wy_32 (hT : T ≤ 255) (hS : ∀ i, i < 3 → wr_Y (i * 255) sl (S i)) {w a b : Nat} (hw : w < 255) (hab : a + b = wr_o (S 0 (w + 1)) + 2 * wr_o (S 1 (w + 1))) (hp : post (wr_d (wr_Ch S T (w + 1)))) : wY_chosen_32 post (nI w) (nI b) (nI a) (nI D) (nI T) (nI N) st le sl fr := by
  have hx := wr_ix (o := 510) (w := w) (n := 765) (by omega) (by decide)
  have e : sl (510 + w) = wr_d (S 2 (w + 1)) := hS 2 (by decide) w hw
  refine ⟨hx.1, ?_⟩
  have e2 : sl ((510 : Int32) + nI w).toNatClampNeg = wr_d (S 2 (w + 1)) := (congrArg sl hx.2).trans e
  rw [e2, nI_add]
  refine wr_cb (fun q => ?_) (fun q => ?_)
  · exact wy_51 (a := a + b) (b := 0) (c := w + 1) hT (by unfold wr_i; rw [wr_of q]; omega) hp
  · exact wy_51 (a := a + b) (b := 4) (c := w + 1) hT (by unfold wr_i; rw [wr_ot q]; omega) hp
theorem wy_14 (hT : T ≤ 255) (hS : ∀ i, i < 3 → wr_Y (i * 255) sl (S i)) {w a : Nat} (hw : w < 255) (ha : a = wr_o (S 0 (w + 1))) (hp : post (wr_d (wr_Ch S T (w + 1)))) : wY_chosen_14 post (nI w) (nI a) (nI D) (nI T) (nI N) st le sl fr := by
  have hx := wr_ix (o := 255) (w := w) (n := 765) (by omega) (by decide)
  have e : sl (255 + w) = wr_d (S 1 (w + 1)) := hS 1 (by decide) w hw
  refine ⟨hx.1, ?_⟩
  have e2 : sl ((255 : Int32) + nI w).toNatClampNeg = wr_d (S 1 (w + 1)) := (congrArg sl hx.2).trans e
  rw [e2]
  refine wr_cb (fun q => ?_) (fun q => ?_)
  · exact wy_32 (a := a) (b := 0) hT hS hw (by rw [wr_of q]; omega) hp
  · exact wy_32 (a := a) (b := 2) hT hS hw (by rw [wr_ot q]; omega) hp
theorem wy_chosen (hT : T ≤ 255) (hS : ∀ i, i < 3 → wr_Y (i * 255) sl (S i)) {w : Nat} (hw : w < 255) (hp : post (wr_d (wr_Ch S T (w + 1)))) : wpY_chosen post (nI D, nI T, nI N, st, le, sl, fr) (nI w) := by
  have e : sl w = wr_d (S 0 (w + 1)) := by
    have := hS 0 (by decide) w hw
    rw [Nat.zero_mul, Nat.zero_add] at this
    exact this
  unfold wpY_chosen
  dsimp only
  refine ⟨vp_in_nI (by omega) (by decide), ?_⟩
  rw [nI_clamp (by omega), e]
  refine wr_cb (fun q => ?_) (fun q => ?_)
  · exact wy_14 (a := 0) hT hS hw (wr_of q).symm hp
  · exact wy_14 (a := 1) hT hS hw (wr_ot q).symm hp
theorem wy_lenOf {w : Nat} (hw : w < 255) (hp : post (nI (Nat.log2 (w + 1)))) : wpY_lenOf post (nI D, nI T, nI N, st, le, sl, fr) (nI w) := by
  have hl := wr_lgN (c := w + 1) (N := 7) (by omega) (show w + 1 < 256 by omega)
  have key : ∀ d i, i + d = Nat.log2 (w + 1) → wY_lenOf_2 post (nI w) (nI D) (nI T) (nI N) st le sl fr (d + 1) (nI i) := by
    intro d
    induction d with
    | zero =>
      intro i hi
      have e : i = Nat.log2 (w + 1) := by omega
      by_cases e7 : i = 7
      · subst e7
        rw [← e] at hp
        exact br_t (nI_le (a := 7) (b := 7) (Nat.le_refl 7) (by decide)) hp
      · have p := Nat.two_pow_pos (i + 1)
        have q := wr_p31 (show i + 1 < 31 by omega)
        have r := @wr_lg2 (w + 1)
        rw [← e] at r hp
        refine br_f (nI_ge (b := 7) (by omega) (by decide)) (br_t ?_ hp)
        rw [nI_1, wr_shl1 (by omega), wr_sub1 p]
        exact nI_lt (by omega) (by omega)
    | succ d ih =>
      intro i hi
      have p := Nat.two_pow_pos (i + 1)
      have r := wr_lg1 (c := w + 1) (by omega)
      have q := wr_pw (show i + 1 ≤ Nat.log2 (w + 1) by omega)
      refine br_f (nI_ge (b := 7) (by omega) (by decide)) (br_f ?_ (nm_r (nI_1 i) (ih (i + 1) (by omega))))
      rw [nI_1, wr_shl1 (by omega), wr_sub1 p]
      exact nI_nlt (by omega) (by omega)
  exact Exists.intro _ (key _ 0 (Nat.zero_add _))
theorem wr_bits {w : Nat} (hw : w < 255) : nI w - ((1 : Int32) <<< (nI (Nat.log2 (w + 1)) &&& 31) - 1) = nI (w + 1 - 2 ^ Nat.log2 (w + 1)) := by
  have hl := wr_lgN (c := w + 1) (N := 7) (by omega) (show w + 1 < 256 by omega)
  have r := wr_lg1 (c := w + 1) (by omega)
  have p := Nat.two_pow_pos (Nat.log2 (w + 1))
  rw [wr_shl1 (by omega), wr_sub1 p, pk_sub (by omega)]
  exact congrArg nI (by omega)
theorem wy_prefix {w p : Nat} (hw : w < 255) (hpl : p ≤ Nat.log2 (w + 1)) (hp : post (nI ((w + 1) / 2 ^ (Nat.log2 (w + 1) - p) - 1))) : wpY_prefix post (nI D, nI T, nI N, st, le, sl, fr) (nI w) (nI p) := by
  have hl := wr_lgN (c := w + 1) (N := 7) (by omega) (show w + 1 < 256 by omega)
  have r := wr_lg1 (c := w + 1) (by omega)
  have y := wr_y1 r hpl
  have p2 := Nat.two_pow_pos p
  have p3 := Nat.two_pow_pos (Nat.log2 (w + 1))
  have z : 2 ^ p - 1 + (w + 1 - 2 ^ Nat.log2 (w + 1)) / 2 ^ (Nat.log2 (w + 1) - p) = (w + 1) / 2 ^ (Nat.log2 (w + 1) - p) - 1 := by
    rw [← y]
    generalize (w + 1 - 2 ^ Nat.log2 (w + 1)) / 2 ^ (Nat.log2 (w + 1) - p) = x
    omega
  unfold wpY_prefix
  dsimp only
  refine wy_lenOf hw (nm_r (wr_bits hw) ?_)
  rw [pk_sub hpl, wr_shl1 (by omega), wr_sub1 p2, wr_shr (by omega) (by omega), nI_add, z]
  exact hp
theorem wy_suffix {w p : Nat} (hw : w < 255) (hpl : p ≤ Nat.log2 (w + 1)) (hp : post (nI (2 ^ (Nat.log2 (w + 1) - p) + (w + 1) % 2 ^ (Nat.log2 (w + 1) - p) - 1))) : wpY_suffix post (nI D, nI T, nI N, st, le, sl, fr) (nI w) (nI p) := by
  have hl := wr_lgN (c := w + 1) (N := 7) (by omega) (show w + 1 < 256 by omega)
  have r := wr_lg1 (c := w + 1) (by omega)
  have y := wr_y2 r (show Nat.log2 (w + 1) - p ≤ Nat.log2 (w + 1) by omega)
  have p2 := Nat.two_pow_pos (Nat.log2 (w + 1) - p)
  have p3 := Nat.two_pow_pos (Nat.log2 (w + 1))
  unfold wpY_suffix
  dsimp only
  refine wy_lenOf hw (nm_r (wr_bits hw) (nm_r (pk_sub hpl) ?_))
  rw [wr_shl1 (by omega), wr_msk (by omega) (by omega), y, wr_sub1 p2, nI_add, show 2 ^ (Nat.log2 (w + 1) - p) - 1 + (w + 1) % 2 ^ (Nat.log2 (w + 1) - p) = 2 ^ (Nat.log2 (w + 1) - p) + (w + 1) % 2 ^ (Nat.log2 (w + 1) - p) - 1 by omega]
  exact hp
theorem wy_between (hT : T ≤ 255) (hS : ∀ i, i < 3 → wr_Y (i * 255) sl (S i)) {lo hi : Nat} (h1 : 1 ≤ lo) (h2 : lo ≤ hi) (h3 : hi ≤ 256) (hp : post (nI (wr_n (wr_Ch S T) lo (hi - lo)))) : wpY_chosenBetween post (nI D, nI T, nI N, st, le, sl, fr) (nI (lo - 1)) (nI (hi - 1)) := by
  rw [← wr_n_btw (P := wr_Ch S T) (Q := fun c => lo ≤ c ∧ c < hi ∧ wr_Ch S T c) h1 h2 h3 (fun c => Iff.rfl)] at hp
  show ∃ n, wY_chosenBetween_5 post (nI (lo - 1)) (nI (hi - 1)) (nI D) (nI T) (nI N) st le sl fr n 0 0
  refine ⟨_, wr_cnt (fun n i s => wY_chosenBetween_5 post (nI (lo - 1)) (nI (hi - 1)) (nI D) (nI T) (nI N) st le sl fr n (nI s) (nI (i - 1))) (fun c => lo ≤ c ∧ c < hi ∧ wr_Ch S T c) 1 255 (fun n => ?_) (fun n i s h4 h5 h6 hk => ?_)⟩
  · exact br_t (nI_le (a := 255) (b := 255) (Nat.le_refl _) (by decide)) hp
  · obtain ⟨w, rfl⟩ : ∃ w, i = w + 1 := ⟨i - 1, by omega⟩
    rw [Nat.add_sub_cancel] at hk ⊢
    refine br_f (nI_ge (b := 255) (by omega) (by decide)) (pk_lt w (lo - 1) (fun q => nm_r (nI_1 w) ?_) (fun q => pk_le (hi - 1) w (fun q2 => nm_r (nI_1 w) ?_) (fun q2 => wy_chosen hT hS (by omega) (wr_cb (fun q3 => nm_r (nI_1 w) ?_) (fun q3 => nm_r (nI_1 s) (nm_r (nI_1 w) ?_))))))
    · rw [wr_of (fun z => by have := z.1; omega)] at hk
      exact hk
    · rw [wr_of (fun z => by have := z.2.1; omega)] at hk
      exact hk
    · rw [wr_of (fun z => q3 z.2.2)] at hk
      exact hk
    · rw [wr_ot ⟨by omega, by omega, q3⟩] at hk
      exact hk
theorem wr_eM {t : Nat} (h : t < 30) : (1 : Int32) <<< ((nI t + 1) &&& 31) - 1 = nI (2 ^ (t + 1) - 1) := by
  rw [nI_1, wr_shl1 (by omega), wr_sub1 (Nat.two_pow_pos _)]
theorem wy_countB {v : Int32} (hN : N ≤ 7) (h : wr_bad N v) (hp : post (-1)) : wpY_count post (nI D, nI T, nI N, st, le, sl, fr) v :=
  h.elim (fun h => br_t h hp) fun h => br_f h.1 (br_f (Int32.not_le.mpr h.2) hp)
theorem wy_countG (hN : N ≤ 7) (hT : T ≤ 255) (hS : ∀ i, i < 3 → wr_Y (i * 255) sl (S i)) {l : Nat} (hl : l ≤ N) (hp : post (nI (wr_n (wr_Ch S T) (2 ^ l) (2 ^ l)))) : wpY_count post (nI D, nI T, nI N, st, le, sl, fr) (nI l) := by
  have p := Nat.two_pow_pos l
  have q := wr_pw (show l + 1 ≤ 8 by omega)
  have e : 2 ^ (l + 1) = 2 ^ l * 2 := Nat.pow_succ ..
  refine br_f (nI_pos (by omega)) (br_t (nI_le hl (by omega)) ?_)
  rw [wr_eM (by omega), wr_shl1 (by omega), wr_sub1 p]
  refine wy_between hT hS p (by omega) q ?_
  rw [show 2 ^ (l + 1) - 2 ^ l = 2 ^ l by omega]
  exact hp
theorem wy_total (hN : N ≤ 7) (hT : T ≤ 255) (hS : ∀ i, i < 3 → wr_Y (i * 255) sl (S i)) (hp : post (nI (wr_n (wr_Ch S T) 1 (2 ^ (N + 1) - 1)))) : wpY_total post (nI D, nI T, nI N, st, le, sl, fr) := by
  unfold wpY_total
  dsimp only
  rw [wr_eM (by omega)]
  exact wy_between (lo := 1) hT hS (Nat.le_refl 1) (Nat.two_pow_pos _) (wr_256 hN) hp
theorem wy_val0 (hN : N ≤ 7) {v w : Int32} (h : wr_bad2 N v w) (hp : post 0) : wpY_valid post (nI D, nI T, nI N, st, le, sl, fr) v w := by
  rcases h with h | ⟨l, hl, rfl, h⟩
  · exact h.elim (fun h => br_t h hp) fun h => br_f h.1 (br_t h.2 hp)
  · refine br_f (nI_pos (by omega)) (br_f (nI_nlt hl (by omega)) ?_)
    rw [wr_shl1 (by omega)]
    exact h.elim (fun h => br_t h hp) fun h => br_f h.1 (br_t h.2 hp)
theorem wy_val1 (hN : N ≤ 7) {l b : Nat} (hl : l ≤ N) (hb : b < 2 ^ l) (hp : post 1) : wpY_valid post (nI D, nI T, nI N, st, le, sl, fr) (nI l) (nI b) := by
  have q := wr_pw (show l ≤ 7 by omega)
  refine br_f (nI_pos (by omega)) (br_f (nI_nlt hl (by omega)) ?_)
  rw [wr_shl1 (by omega)]
  exact br_f (nI_pos (by omega)) (br_f (nI_ge hb (by omega)) hp)
theorem wr_st {l b : Nat} (hl : l ≤ 7) : ((1 : Int32) <<< (nI l &&& 31) - 1) + nI b = nI (2 ^ l + b - 1) := by
  have p := Nat.two_pow_pos l
  rw [wr_shl1 (by omega), wr_sub1 p, nI_add]
  exact congrArg nI (by omega)
theorem wy_isChosenB (hN : N ≤ 7) {v w : Int32} (h : wr_bad2 N v w) (hp : post (-1)) : wpY_isChosen post (nI D, nI T, nI N, st, le, sl, fr) v w := by
  unfold wpY_isChosen
  dsimp only
  exact wy_val0 hN h (br_t rfl hp)
theorem wy_isChosenG (hN : N ≤ 7) (hT : T ≤ 255) (hS : ∀ i, i < 3 → wr_Y (i * 255) sl (S i)) {l b : Nat} (hl : l ≤ N) (hb : b < 2 ^ l) (hp : post (wr_d (wr_Ch S T (2 ^ l + b)))) : wpY_isChosen post (nI D, nI T, nI N, st, le, sl, fr) (nI l) (nI b) := by
  unfold wpY_isChosen
  dsimp only
  have q := wr_lb hl hb
  have hM := wr_256 hN
  refine wy_val1 hN hl hb (br_f (by decide) ?_)
  rw [wr_st (by omega)]
  have e : 2 ^ l + b = 2 ^ l + b - 1 + 1 := by omega
  rw [e] at hp
  refine wy_chosen hT hS (by omega) (wr_cb (fun z => ?_) (fun z => ?_))
  · rw [wr_df z] at hp
    exact hp
  · rw [wr_dt z] at hp
    exact hp
theorem wy_rankB (hN : N ≤ 7) {v w : Int32} (h : wr_bad2 N v w) (hp : post (-1)) : wpY_rank post (nI D, nI T, nI N, st, le, sl, fr) v w := by
  unfold wpY_rank
  dsimp only
  exact wy_val0 hN h (br_t rfl hp)
theorem wy_rankG (hN : N ≤ 7) (hT : T ≤ 255) (hS : ∀ i, i < 3 → wr_Y (i * 255) sl (S i)) {l b : Nat} (hl : l ≤ N) (hb : b < 2 ^ l) (hp : post (nI (wr_n (wr_Ch S T) 1 (2 ^ l + b - 1)))) : wpY_rank post (nI D, nI T, nI N, st, le, sl, fr) (nI l) (nI b) := by
  unfold wpY_rank
  dsimp only
  have q := wr_lb hl hb
  have hM := wr_256 hN
  refine wy_val1 hN hl hb (br_f (by decide) ?_)
  rw [wr_st (by omega)]
  exact wy_between (lo := 1) hT hS (Nat.le_refl 1) q.1 (by omega) hp
theorem wy_find (hN : N ≤ 7) (hT : T ≤ 255) (hS : ∀ i, i < 3 → wr_Y (i * 255) sl (S i)) {k : Int32} (hp : ∀ r, wr_F (2 ^ (N + 1)) (wr_Ch S T) k r → post (nI r - 1)) : wpY_find post (nI D, nI T, nI N, st, le, sl, fr) k := by
  have hM := wr_256 hN
  have p := Nat.two_pow_pos (N + 1)
  have key : ∀ d w r, w + d = 2 ^ (N + 1) - 1 → wr_F (w + 1) (wr_Ch S T) k r → wY_find_7 post k (nI D) (nI T) (nI N) st le sl fr (d + 1) (nI (wr_n (wr_Ch S T) 1 w)) (nI r - 1) (nI w) := by
    intro d
    induction d with
    | zero =>
      intro w r hw hr
      rw [show w + 1 = 2 ^ (N + 1) by omega] at hr
      refine br_t ?_ (hp r hr)
      rw [wr_eM (by omega)]
      exact nI_le (by omega) (by omega)
    | succ d ih =>
      intro w r hw hr
      have hs := wr_n_s (wr_Ch S T) (show 1 ≤ w + 1 by omega)
      rw [Nat.add_sub_cancel] at hs
      refine br_f ?_ (wy_chosen hT hS (by omega) (wr_cb (fun q => nm_r (nI_1 w) ?_) (fun q => br_c (fun e => nm_r (nI_1 _) (nm_r (nI_1 w) ?_)) (fun e => nm_r (nI_1 _) (nm_r (nI_1 w) ?_)))))
      · rw [wr_eM (by omega)]
        exact nI_ge (by omega) (by omega)
      · have g := ih (w + 1) r (by omega) ?_
        · rw [hs, wr_of q] at g
          exact g
        · rcases hr with ⟨h0, h1⟩ | ⟨a1, b1, c1, d1⟩
          · refine Or.inl ⟨h0, fun c a b z => ?_⟩
            by_cases e : c = w + 1
            · rw [e] at z
              exact absurd z q
            · exact h1 c a (by omega) z
          · exact Or.inr ⟨a1, by omega, c1, d1⟩
      · have g := ih (w + 1) (w + 1) (by omega) (Or.inr ⟨by omega, by omega, q, by rw [Nat.add_sub_cancel]; exact e⟩)
        rw [hs, wr_ot q, nI_pred] at g
        exact g
      · have g := ih (w + 1) r (by omega) ?_
        · rw [hs, wr_ot q] at g
          exact g
        · rcases hr with ⟨h0, h1⟩ | ⟨a1, b1, c1, d1⟩
          · refine Or.inl ⟨h0, fun c a b z => ?_⟩
            by_cases e' : c = w + 1
            · rw [e', Nat.add_sub_cancel]
              exact e
            · exact h1 c a (by omega) z
          · exact Or.inr ⟨a1, by omega, c1, d1⟩
  have g := key (2 ^ (N + 1) - 1) 0 0 (Nat.zero_add _) (Or.inl ⟨rfl, fun c a b => absurd b (by omega)⟩)
  rw [show nI 0 - 1 = (-1 : Int32) by decide] at g
  exact Exists.intro _ g
theorem wy_wordLen (hN : N ≤ 7) (hT : T ≤ 255) (hS : ∀ i, i < 3 → wr_Y (i * 255) sl (S i)) {k : Int32} (h0 : wr_F (2 ^ (N + 1)) (wr_Ch S T) k 0 → post (-1)) (h1 : ∀ r, 1 ≤ r → r < 256 → wr_F (2 ^ (N + 1)) (wr_Ch S T) k r → post (nI (Nat.log2 r))) : wpY_wordLen post (nI D, nI T, nI N, st, le, sl, fr) k := by
  unfold wpY_wordLen
  dsimp only
  have hM := wr_256 hN
  refine wy_find hN hT hS fun r hr => ?_
  by_cases e : r = 0
  · subst e
    exact br_f (by decide) (h0 hr)
  · have hb : r < 256 := by
      rcases hr with h | h
      · omega
      · have := h.2.1
        omega
    obtain ⟨w, rfl⟩ : ∃ w, r = w + 1 := ⟨r - 1, by omega⟩
    rw [nI_pred]
    exact br_t (nI_pos' (by omega)) (wy_lenOf (by omega) (h1 _ (by omega) hb hr))
theorem wy_wordBits (hN : N ≤ 7) (hT : T ≤ 255) (hS : ∀ i, i < 3 → wr_Y (i * 255) sl (S i)) {k : Int32} (h0 : wr_F (2 ^ (N + 1)) (wr_Ch S T) k 0 → post (-1)) (h1 : ∀ r, 1 ≤ r → r < 256 → wr_F (2 ^ (N + 1)) (wr_Ch S T) k r → post (nI (r - 2 ^ Nat.log2 r))) : wpY_wordBits post (nI D, nI T, nI N, st, le, sl, fr) k := by
  unfold wpY_wordBits
  dsimp only
  have hM := wr_256 hN
  refine wy_find hN hT hS fun r hr => ?_
  by_cases e : r = 0
  · subst e
    exact br_f (by decide) (h0 hr)
  · have hb : r < 256 := by
      rcases hr with h | h
      · omega
      · have := h.2.1
        omega
    obtain ⟨w, rfl⟩ : ∃ w, r = w + 1 := ⟨r - 1, by omega⟩
    rw [nI_pred]
    refine br_t (nI_pos' (by omega)) (wy_lenOf (by omega) ?_)
    rw [wr_bits (by omega)]
    exact h1 _ (by omega) hb hr
theorem wy_countFromB (hN : N ≤ 7) {v w : Int32} (h : wr_bad2 N v w) (hp : post (-1)) : wpY_countFrom post (nI D, nI T, nI N, st, le, sl, fr) v w := by
  unfold wpY_countFrom
  dsimp only
  exact wy_val0 hN h (br_t rfl hp)
theorem wy_countFromG (hN : N ≤ 7) (hT : T ≤ 255) (hS : ∀ i, i < 3 → wr_Y (i * 255) sl (S i)) {l b : Nat} (hl : l ≤ N) (hb : b < 2 ^ l) (hp : post (nI (wr_S (wr_Ch S T) (2 ^ l + b) (N - l + 1)))) : wpY_countFrom post (nI D, nI T, nI N, st, le, sl, fr) (nI l) (nI b) := by
  unfold wpY_countFrom
  dsimp only
  have hM := wr_256 hN
  have q := wr_lb hl hb
  have p := Nat.two_pow_pos (N + 1)
  have hK := wr_KS (P := wr_Ch S T) (l := l) (w := 2 ^ l + b) (Nat.le_add_right _ _) q.2.1 (N - l + 1)
  rw [show l + (N - l + 1) = N + 1 by omega] at hK
  rw [← hK] at hp
  refine wy_val1 hN hl hb (br_f (by decide) (nm_r (wr_st (by omega)) ?_))
  generalize hw : 2 ^ l + b = v at hp q ⊢
  refine ⟨_, wr_cnt (fun n i s => wY_countFrom_25 post (nI l) (nI (v - 1)) (nI D) (nI T) (nI N) st le sl fr n (nI s) (nI (i - 1))) (wr_K (wr_Ch S T) l v) 1 (2 ^ (N + 1) - 1) (fun n => ?_) (fun n i s h4 h5 h6 hk => ?_)⟩
  · refine br_t ?_ hp
    rw [wr_eM (by omega)]
    exact nI_le (by omega) (by omega)
  · obtain ⟨w, rfl⟩ : ∃ w, i = w + 1 := ⟨i - 1, by omega⟩
    rw [Nat.add_sub_cancel] at hk ⊢
    have hg := wr_lgN (c := w + 1) (N := 7) (by omega) (show w + 1 < 256 by omega)
    refine br_f ?_ (wy_lenOf (by omega) (pk_lt (Nat.log2 (w + 1)) l (fun z => nm_r (nI_1 w) ?_) (fun z => wy_prefix (by omega) z ?_)))
    · rw [wr_eM (by omega)]
      exact nI_ge (by omega) (by omega)
    · rw [wr_of (fun y => by have := y.1; omega)] at hk
      exact hk
    · have h1 := wr_hd1 (c := w + 1) (t := Nat.log2 (w + 1) - l) (by omega) (by omega)
      have h2 : (w + 1) / 2 ^ (Nat.log2 (w + 1) - l) ≤ w + 1 := Nat.div_le_self _ _
      refine pk_eq ((w + 1) / 2 ^ (Nat.log2 (w + 1) - l) - 1) (v - 1) (fun y => wy_chosen hT hS (by omega) (wr_cb (fun x => nm_r (nI_1 w) ?_) (fun x => nm_r (nI_1 s) (nm_r (nI_1 w) ?_)))) (fun y => nm_r (nI_1 w) ?_)
      · rw [wr_of (fun t => x t.2.2)] at hk
        exact hk
      · rw [wr_ot (p := wr_K (wr_Ch S T) l v (w + 1)) ⟨z, by omega, x⟩] at hk
        exact hk
      · rw [wr_of (fun t => by have := t.2.1; omega)] at hk
        exact hk
theorem wy_alike (hN : N ≤ 7) (hT : T ≤ 255) (hS : ∀ i, i < 3 → wr_Y (i * 255) sl (S i)) {l u v : Nat} (hl : l ≤ N) (hu : u < 2 ^ l) (hv : v < 2 ^ l) (hp : post (wr_d (wr_A (wr_Ch S T) (N - l) (2 ^ l + u) (2 ^ l + v)))) : wpY_alike post (nI D, nI T, nI N, st, le, sl, fr) (nI l) (nI u) (nI v) := by
  have hM := wr_256 hN
  have q1 := wr_lb hl hu
  have q2 := wr_lb hl hv
  have pM := Nat.two_pow_pos (N - l + 1)
  have pN := wr_pw (show N - l + 1 ≤ N + 1 by omega)
  have eM : (1 : Int32) <<< ((nI N - nI l + 1) &&& 31) - 1 = nI (2 ^ (N - l + 1) - 1) := by rw [pk_sub hl, wr_eM (by omega)]
  show ∃ n, wY_alike_3 post (nI l) (nI u) (nI v) (nI D) (nI T) (nI N) st le sl fr n 0
  refine ⟨_, wr_srch (fun n i => wY_alike_3 post (nI l) (nI u) (nI v) (nI D) (nI T) (nI N) st le sl fr n (nI i)) (fun z => ¬ (wr_Ch S T ((2 ^ l + u) * 2 ^ Nat.log2 (z + 1) + (z + 1 - 2 ^ Nat.log2 (z + 1))) ↔ wr_Ch S T ((2 ^ l + v) * 2 ^ Nat.log2 (z + 1) + (z + 1 - 2 ^ Nat.log2 (z + 1))))) (p1 := post 0) (p0 := post 1) 0 (2 ^ (N - l + 1) - 1) (Nat.zero_le _) ?_ ?_ ?_ ?_⟩
  · intro ⟨z, _, hz, q⟩
    rw [wr_df (fun h => q (wr_Az.mp h (z + 1) (by omega) (by omega)))] at hp
    exact hp
  · intro h
    rw [wr_dt (wr_Az.mpr fun d a b => Classical.byContradiction fun q => h ⟨d - 1, Nat.zero_le _, by omega, by rw [show d - 1 + 1 = d by omega]; exact q⟩)] at hp
    exact hp
  · intro h n
    refine br_t ?_ h
    rw [eM]
    exact nI_le (Nat.le_refl _) (by omega)
  · intro n z _ hz k1 k2
    have hg := wr_lgN (c := z + 1) (N := N - l) (by omega) (by omega)
    have g1 := wr_lg1 (c := z + 1) (by omega)
    have g2 := @wr_lg2 (z + 1)
    refine br_f ?_ (wy_lenOf (by omega) (nm_r (wr_bits (by omega)) (nm_r (e' := nI (2 ^ (l + Nat.log2 (z + 1)) + (z + 1 - 2 ^ Nat.log2 (z + 1)) - 1)) ?_ ?_)))
    · rw [eM]
      exact nI_ge hz (by omega)
    · rw [nI_add]
      exact wr_st (by omega)
    · generalize hm : Nat.log2 (z + 1) = m at k1 k2 hg g1 g2 ⊢
      have e2 : 2 ^ (m + 1) = 2 ^ m * 2 := Nat.pow_succ ..
      have e3 : 2 ^ (l + m) = 2 ^ l * 2 ^ m := Nat.pow_add ..
      have pm := Nat.two_pow_pos m
      have b1 := wr_wb (N := N) (r := N - l) (Nat.le_add_right (2 ^ l) u) q1.2.1 (by omega) hg (show z + 1 - 2 ^ m < 2 ^ m by omega)
      have b2 := wr_wb (N := N) (r := N - l) (Nat.le_add_right (2 ^ l) v) q2.2.1 (by omega) hg (show z + 1 - 2 ^ m < 2 ^ m by omega)
      have c1 : 2 ^ (l + m) + (z + 1 - 2 ^ m) - 1 + u * 2 ^ m = (2 ^ l + u) * 2 ^ m + (z + 1 - 2 ^ m) - 1 := by
        rw [Nat.add_mul, e3]
        have := Nat.mul_le_mul (Nat.two_pow_pos l) pm
        omega
      have c2 : 2 ^ (l + m) + (z + 1 - 2 ^ m) - 1 + v * 2 ^ m = (2 ^ l + v) * 2 ^ m + (z + 1 - 2 ^ m) - 1 := by
        rw [Nat.add_mul, e3]
        have := Nat.mul_le_mul (Nat.two_pow_pos l) pm
        omega
      have d1 : u * 2 ^ m < 2 ^ 32 := by
        rw [Nat.add_mul] at b1
        omega
      have d2 : v * 2 ^ m < 2 ^ 32 := by
        rw [Nat.add_mul] at b2
        omega
      rw [wr_shl (by omega) d1, wr_shl (by omega) d2, nI_add, nI_add, c1, c2]
      generalize (2 ^ l + u) * 2 ^ m + (z + 1 - 2 ^ m) = x1 at b1 k1 k2 ⊢
      generalize (2 ^ l + v) * 2 ^ m + (z + 1 - 2 ^ m) = x2 at b2 k1 k2 ⊢
      obtain ⟨y1, rfl⟩ : ∃ y, x1 = y + 1 := ⟨x1 - 1, by omega⟩
      obtain ⟨y2, rfl⟩ : ∃ y, x2 = y + 1 := ⟨x2 - 1, by omega⟩
      rw [Nat.add_sub_cancel, Nat.add_sub_cancel]
      exact wy_chosen hT hS (by omega) (wy_chosen hT hS (by omega) (br_c (fun h => nm_r (nI_1 z) (k2 (fun q => q (wr_di h)))) (fun h => k1 (fun q => h (wr_dc q)))))
theorem wy_like (hN : N ≤ 7) (hT : T ≤ 255) (hS : ∀ i, i < 3 → wr_Y (i * 255) sl (S i)) {l u : Nat} (hl : l ≤ N) (hu : u < 2 ^ l) (hp : post (wr_d (¬ wr_G (wr_Ch S T) l (N - l) (2 ^ l + u)))) : wpY_likeSmaller post (nI D, nI T, nI N, st, le, sl, fr) (nI l) (nI u) := by
  have hM := wr_256 hN
  have q := wr_lb hl hu
  show ∃ n, wY_likeSmaller_2 post (nI l) (nI u) (nI D) (nI T) (nI N) st le sl fr n 0
  refine ⟨_, wr_srch (fun n i => wY_likeSmaller_2 post (nI l) (nI u) (nI D) (nI T) (nI N) st le sl fr n (nI i)) (fun v => wr_A (wr_Ch S T) (N - l) (2 ^ l + u) (2 ^ l + v)) (p1 := post 1) (p0 := post 0) 0 u (Nat.zero_le _) ?_ ?_ ?_ ?_⟩
  · intro ⟨v, _, hv, h⟩
    rw [wr_dt (fun g => g ⟨2 ^ l + v, Nat.le_add_right _ _, by omega, wr_As.mp h⟩)] at hp
    exact hp
  · intro h
    rw [wr_df (fun g => g fun ⟨e, a, b, c⟩ => h ⟨e - 2 ^ l, Nat.zero_le _, by omega, by rw [show 2 ^ l + (e - 2 ^ l) = e by omega]; exact wr_As.mp c⟩)] at hp
    exact hp
  · exact fun h n => br_t (nI_le (Nat.le_refl u) (by omega)) h
  · intro n v _ hv k1 k2
    exact br_f (nI_ge hv (by omega)) (wy_alike hN hT hS hl hu (by omega) (wr_cb (fun q => nm_r (nI_1 v) (k2 q)) k1))
theorem wy_groupsB {v : Int32} (h : wr_bad N v) (hp : post (-1)) : wpY_groups post (nI D, nI T, nI N, st, le, sl, fr) v :=
  h.elim (fun h => br_t h hp) fun h => br_f h.1 (br_f (Int32.not_le.mpr h.2) hp)
theorem wy_groupsG (hN : N ≤ 7) (hT : T ≤ 255) (hS : ∀ i, i < 3 → wr_Y (i * 255) sl (S i)) {l : Nat} (hl : l ≤ N) (hp : post (nI (wr_n (wr_G (wr_Ch S T) l (N - l)) (2 ^ l) (2 ^ l)))) : wpY_groups post (nI D, nI T, nI N, st, le, sl, fr) (nI l) := by
  have hM := wr_256 hN
  have hq := wr_pw (show l + 1 ≤ N + 1 by omega)
  have e : 2 ^ (l + 1) = 2 ^ l * 2 := Nat.pow_succ ..
  have g : wY_groups_18 post (nI l) (nI D) (nI T) (nI N) st le sl fr (2 ^ l + 1) (nI 0) (nI (2 ^ l - 2 ^ l)) := wr_cnt (fun n i s => wY_groups_18 post (nI l) (nI D) (nI T) (nI N) st le sl fr n (nI s) (nI (i - 2 ^ l))) (wr_G (wr_Ch S T) l (N - l)) (2 ^ l) (2 ^ l) (fun n => ?_) (fun n i s h4 h5 h6 hk => ?_)
  · rw [Nat.sub_self] at g
    exact br_f (nI_pos (by omega)) (br_t (nI_le hl (by omega)) (Exists.intro _ g))
  · rw [Nat.add_sub_cancel]
    refine br_t ?_ hp
    rw [wr_shl1 (by omega)]
    exact nI_le (Nat.le_refl _) (by omega)
  · obtain ⟨u, rfl⟩ : ∃ u, i = 2 ^ l + u := ⟨i - 2 ^ l, by omega⟩
    rw [Nat.add_assoc, Nat.add_sub_cancel_left] at hk
    rw [Nat.add_sub_cancel_left]
    refine br_f ?_ (wy_like hN hT hS hl (by omega) (wr_cb (fun q => nm_r (nI_1 s) (nm_r (nI_1 u) ?_)) (fun q => nm_r (nI_1 u) ?_)))
    · rw [wr_shl1 (by omega)]
      exact nI_ge (by omega) (by omega)
    · rw [wr_ot (Classical.byContradiction q)] at hk
      exact hk
    · rw [wr_of q] at hk
      exact hk
end
