/-! 04: X's makers: what they leave in the cells -/
theorem wr_ix {o w n : Nat} (h : o + w < n) (hn : n < 2 ^ 31) : vp_in (nI o + nI w) n ∧ (nI o + nI w).toNatClampNeg = o + w := by
  rw [nI_add]
  exact ⟨vp_in_nI h hn, nI_clamp (by omega)⟩
theorem wr_v0 : vp_nar .boolean 0 = 0 := by first | rfl | decide
theorem wr_v1 : vp_nar .boolean 1 = 1 := by first | rfl | decide
def wr_fr (o : Nat) (st a : Nat → Int32) : Prop := (∀ j, j < o → a j = st j) ∧ (∀ j, o + 256 ≤ j → a j = st j)
theorem wr_fr0 {o : Nat} {st : Nat → Int32} : wr_fr o st st := ⟨fun _ _ => rfl, fun _ _ => rfl⟩
theorem wr_fru {o w : Nat} {st a : Nat → Int32} {v : Int32} (h : wr_fr o st a) (hw : w < 256) : wr_fr o st (upd a (o + w) v) :=
  ⟨fun j hj => (pk_un (by omega)).trans (h.1 j hj), fun j hj => (pk_un (by omega)).trans (h.2 j hj)⟩
def wr_mix (R G A : Nat → Prop) (c : Nat) : Prop := (R c ∧ G c) ∨ (¬ R c ∧ A c)
theorem wr_mt1 {R G A : Nat → Prop} {c : Nat} (h : R c) : wr_mix R G A c ↔ G c :=
  ⟨fun z => z.elim (fun y => y.2) (fun y => absurd h y.1), fun z => Or.inl ⟨h, z⟩⟩
theorem wr_mf {R G A : Nat → Prop} {c : Nat} (h : ¬ R c) : wr_mix R G A c ↔ A c :=
  ⟨fun z => z.elim (fun y => absurd y.1 h) (fun y => y.2), fun z => Or.inr ⟨h, z⟩⟩
theorem wr_mr {R Q G A : Nat → Prop} {c : Nat} (h : R c ↔ Q c) : wr_mix R G A c ↔ wr_mix Q G A c := by
  unfold wr_mix
  rw [h]
theorem wr_mxu {M o w : Nat} {a : Nat → Int32} {R Q G A : Nat → Prop} {q : Prop} (h : wr_X M o a (wr_mix R G A)) (hq : G w ↔ q) (hw : Q w) (hR : ∀ c, c ≠ w → (Q c ↔ R c)) : wr_X M o (upd a (o + w) (wr_d q)) (wr_mix Q G A) :=
  wr_Xu h ((wr_mt1 hw).trans hq) (fun c _ _ e => wr_mr (hR c e))
section
variable {N D T : Nat} {st le sl : Nat → Int32} {L : Nat → Nat} {A S : Nat → Nat → Prop}
theorem wx_letters {post : Int32 → Prop} (hD : D ≤ 8) (hL : ∀ i, i < D → le i = nI (L i)) (hp : post (nI (wr_s L D))) : wpX_letters post (nI N, nI D, nI T, st, le, sl) := by
  have key : ∀ d i, i + d = D → wX_letters_4 post (nI N) (nI D) (nI T) st le sl (d + 1) (nI (wr_s L i)) (nI i) := by
    intro d
    induction d with
    | zero =>
      intro i hi
      have e : i = D := by omega
      subst e
      exact br_t (nI_le (Nat.le_refl _) (by omega)) hp
    | succ d ih =>
      intro i hi
      refine br_f (nI_ge (by omega) (by omega)) ⟨vp_in_nI (by omega) (by decide), nm_r ?_ (nm_r (nI_1 i) (ih (i + 1) (by omega)))⟩
      rw [nI_clamp (by omega), hL i (by omega), nI_add]
      rfl
  exact Exists.intro _ (key D 0 (by omega))
theorem wx_top {post : Int32 → Prop} (hD : 1 ≤ D) (hp : post (nI ((D - 1) * 256))) : wpX_topStart post (nI N, nI D, nI T, st, le, sl) := by
  show post ((nI D - 1) * nI 256)
  rw [wr_sub1 hD, pk_mul]
  exact hp
theorem wx_push {post : SX → Prop} (hN : N ≤ 7) (hD : D < 8) (hp : ∀ a, wr_X (2 ^ (N + 1)) (D * 256) a (fun _ => False) → (∀ j, j < D * 256 → a j = st j) → post (nI N, nI (D + 1), nI T, a, upd le D 0, sl)) : wpX_pushNoWord post (nI N, nI D, nI T, st, le, sl) := by
  have hM := wr_256 hN
  unfold wpX_pushNoWord
  dsimp only
  refine ⟨vp_in_nI hD (by decide), nm_r (e' := upd le D 0) (by rw [nI_clamp (by omega)]) (nm_r (nI_1 D) (wx_top (D := D + 1) (by omega) ?_))⟩
  rw [Nat.add_sub_cancel]
  refine pk_loop (fun n i a => wX_pushNoWord_27 post (nI (D * 256)) (nI N) (nI (D + 1)) (nI T) n (nI i) a (upd le D 0) sl) (fun i a => (∀ c, 1 ≤ c → c < i → a (D * 256 + c) = 0) ∧ ∀ j, j < D * 256 → a j = st j) (2 ^ (N + 1)) 1 st (Nat.two_pow_pos _) ⟨fun c a b => absurd b (by omega), fun _ _ => rfl⟩ ?_ ?_
  · intro n a ⟨h1, h2⟩
    refine br_t ?_ (hp a (fun c h3 h4 => (h1 c h3 h4).trans wr_Fa.symm) h2)
    rw [wr_shl2 (by omega)]
    exact nI_le (Nat.le_refl _) (by omega)
  · intro n i a hi ⟨h1, h2⟩ hk
    have hx := wr_ix (o := D * 256) (w := i) (n := 2048) (by omega) (by decide)
    refine br_f ?_ ⟨hx.1, nm_r (e' := upd a (D * 256 + i) 0) (by rw [hx.2, wr_v0]) (nm_r (nI_1 i) (hk _ ⟨?_, ?_⟩))⟩
    · rw [wr_shl2 (by omega)]
      exact nI_ge hi (by omega)
    · intro c h3 h4
      by_cases e : c = i
      · rw [e, pk_us]
      · rw [pk_un (by omega)]
        exact h1 c h3 (by omega)
    · exact fun j hj => (pk_un (by omega)).trans (h2 j hj)
def wr_Le (j c : Nat) : Prop := (c = 2 ∧ j ≠ 1) ∨ (c = 3 ∧ j ≠ 0)
theorem wx_l75 {post : Int32 → SX → Prop} (hD : D < 8) {q : Prop} (hp : post (nI (D + 1)) (nI N, nI (D + 1), nI T, upd st (D * 256 + 3) (wr_d q), upd le D 1, sl)) : wX_letter_75 post (wr_d q) (nI (D * 256) + 3) (nI N) (nI (D + 1)) (nI T) st le sl := by
  have hx := wr_ix (o := D * 256) (w := 3) (n := 2048) (by omega) (by decide)
  have hy : (nI (D + 1) - 1).toNatClampNeg = D := by rw [nI_pred, nI_clamp (by omega)]
  refine ⟨hx.1, nm_r (e' := upd st (D * 256 + 3) (wr_d q)) ?_ ⟨?_, nm_r (e' := upd le D 1) (by rw [hy]) hp⟩⟩
  · rw [wr_dv]
    exact congrArg (fun z => upd st z (wr_d q)) hx.2
  · rw [nI_pred]
    exact vp_in_nI hD (by decide)
theorem wx_l58 {post : Int32 → SX → Prop} (hD : D < 8) {j : Nat} (hj : j < 3) {q : Prop} (hp : post (nI (D + 1)) (nI N, nI (D + 1), nI T, upd (upd st (D * 256 + 2) (wr_d q)) (D * 256 + 3) (wr_d (j ≠ 0)), upd le D 1, sl)) : wX_letter_58 post (nI j) (nI (D * 256)) (wr_d q) (nI (D * 256) + 2) (nI N) (nI (D + 1)) (nI T) st le sl := by
  have hx := wr_ix (o := D * 256) (w := 2) (n := 2048) (by omega) (by decide)
  have k := wx_l75 hD hp
  refine ⟨hx.1, nm_r (e' := upd st (D * 256 + 2) (wr_d q)) ?_ (br_c (fun z => ?_) (fun z => ?_))⟩
  · rw [wr_dv]
    exact congrArg (fun z => upd st z (wr_d q)) hx.2
  · have e : j = 0 := (nI_eq (b := 0) (by omega) (by decide)).mp z
    rw [wr_df (fun y => y e)] at k
    exact k
  · have e : j ≠ 0 := fun y => z (by rw [y]; exact nI_0)
    rw [wr_dt e] at k
    exact k
theorem wx_letterG {post : Int32 → SX → Prop} (hN1 : 1 ≤ N) (hN : N ≤ 7) (hD : D < 8) (hL : ∀ i, i < D → le i = nI (L i)) (hs : wr_s L D < 12) {j : Nat} (hj : j < 3)
    (hp : ∀ a b, wr_X (2 ^ (N + 1)) (D * 256) a (wr_Le j) → (∀ j, j < D * 256 → a j = st j) → (∀ i, i < D → b i = le i) → b D = 1 → post (nI (D + 1)) (nI N, nI (D + 1), nI T, a, b, sl)) : wpX_letter post (nI N, nI D, nI T, st, le, sl) (nI j) := by
  have hM := wr_4 hN1
  refine br_f (nI_pos (by omega)) (br_t (nI_le (b := 2) (by omega) (by decide)) (br_f (nI_ge (b := 8) hD (by decide)) (wx_letters (by omega) hL (br_t (nI_lt (b := 12) hs (by decide)) (wx_push hN hD fun a h1 h2 => ?_)))))
  refine wx_top (D := D + 1) (by omega) ?_
  rw [Nat.add_sub_cancel]
  have k := wx_l58 (N := N) (T := T) (st := a) (le := upd le D 0) (sl := sl) (post := post) hD hj (q := j ≠ 1) (hp _ _ ?_ ?_ ?_ pk_us)
  · refine br_c (fun z => ?_) (fun z => ?_)
    · have e : j = 1 := (nI_eq (b := 1) (by omega) (by decide)).mp z
      rw [wr_df (p := j ≠ 1) (fun y => y e)] at k
      exact k
    · have e : j ≠ 1 := fun y => z (by rw [y]; rfl)
      rw [wr_dt e] at k
      exact k
  · refine wr_Xu (G := fun c => c = 2 ∧ j ≠ 1) (wr_Xu h1 (by omega) (fun c _ _ e => ⟨fun y => absurd y.1 e, False.elim⟩)) ?_ ?_
    · unfold wr_Le
      omega
    · intro c _ _ e
      unfold wr_Le
      omega
  · intro j hj
    rw [pk_un (by omega), pk_un (by omega)]
    exact h2 j hj
  · intro i hi
    rw [pk_un (by omega), pk_un (by omega)]
theorem wx_addE {post : SX → Prop} (hD1 : 1 ≤ D) (hD : D ≤ 8) (hp : post (nI N, nI D, nI T, upd st ((D - 1) * 256 + 1) 1, le, sl)) : wpX_addEmptyWordToTop post (nI N, nI D, nI T, st, le, sl) := by
  unfold wpX_addEmptyWordToTop
  dsimp only
  have hx := wr_ix (o := (D - 1) * 256) (w := 1) (n := 2048) (by omega) (by decide)
  refine wx_top hD1 ⟨hx.1, nm_r (e' := upd st ((D - 1) * 256 + 1) 1) ?_ hp⟩
  rw [wr_v1]
  exact congrArg (fun z => upd st z 1) hx.2
theorem wx_split {post : Int32 → Prop} {A B : Nat → Prop} {o1 o2 c s l : Nat} (ho1 : o1 + 256 ≤ 2048) (ho2 : o2 + 256 ≤ 2048) (hc : c < 256) (hl : l ≤ 7) (hs : s ≤ l + 1)
    (hA : ∀ t, s ≤ t → t ≤ l → st (o1 + c / 2 ^ t) = wr_d (A (c / 2 ^ t))) (hB : ∀ t, s ≤ t → t ≤ l → st (o2 + (2 ^ t + c % 2 ^ t)) = wr_d (B (2 ^ t + c % 2 ^ t)))
    (hp : post (wr_d (∃ t, s ≤ t ∧ t < l + 1 ∧ A (c / 2 ^ t) ∧ B (2 ^ t + c % 2 ^ t)))) : wpX_isSplit post (nI N, nI D, nI T, st, le, sl) (nI o1) (nI o2) (nI c) (nI s) (nI l) := by
  show ∃ n, wX_isSplit_4 post (nI o1) (nI o2) (nI c) (nI l) (nI N) (nI D) (nI T) st le sl n (nI s)
  refine ⟨_, wr_srch (fun n t => wX_isSplit_4 post (nI o1) (nI o2) (nI c) (nI l) (nI N) (nI D) (nI T) st le sl n (nI t)) (fun t => A (c / 2 ^ t) ∧ B (2 ^ t + c % 2 ^ t)) (p1 := post 1) (p0 := post 0) s (l + 1) hs ?_ ?_ ?_ ?_⟩
  · intro h
    rw [wr_dt h] at hp
    exact hp
  · intro h
    rw [wr_df h] at hp
    exact hp
  · exact fun h n => br_t (nI_lt (Nat.lt_succ_self l) (by omega)) h
  · intro n t h1 h2 k1 k2
    have d1 : c / 2 ^ t < 256 := Nat.lt_of_le_of_lt (Nat.div_le_self _ _) hc
    have d2 : 2 ^ t + c % 2 ^ t < 256 := Nat.lt_of_lt_of_le (wr_tlt c t) (wr_256 (N := t) (by omega))
    have e2 : (1 : Int32) <<< (nI t &&& 31) + (nI c &&& ((1 : Int32) <<< (nI t &&& 31) - 1)) = nI (2 ^ t + c % 2 ^ t) := by
      rw [wr_shl1 (by omega), wr_msk (by omega) (by omega), nI_add]
    have x1 := wr_ix (o := o1) (w := c / 2 ^ t) (n := 2048) (by omega) (by decide)
    have x2 := wr_ix (o := o2) (w := 2 ^ t + c % 2 ^ t) (n := 2048) (by omega) (by decide)
    refine br_f (nI_nlt (by omega) (by omega)) (nm_r (wr_shr (by omega) (by omega)) (nm_r e2 ⟨x1.1, ?_⟩))
    rw [x1.2, hA t h1 (by omega)]
    refine wr_cb (fun q => nm_r (nI_1 t) (k2 fun z => q z.1)) (fun q => ⟨x2.1, ?_⟩)
    rw [x2.2, hB t h1 (by omega)]
    exact wr_cb (fun q2 => nm_r (nI_1 t) (k2 fun z => q2 z.2)) (fun q2 => k1 ⟨q, q2⟩)
theorem wx_merge {post : SX → Prop} (hD2 : 2 ≤ D) (hD : D ≤ 8) (hp : post (nI N, nI (D - 1), nI T, st, upd le (D - 2) (le (D - 2) + le (D - 1)), sl)) : wpX_mergeTopIntoLower post (nI N, nI D, nI T, st, le, sl) := by
  unfold wpX_mergeTopIntoLower
  dsimp only
  have e1 : nI (D - 1) - 1 = nI (D - 2) := wr_sub1 (by omega)
  have c1 : (nI (D - 2)).toNatClampNeg = D - 2 := nI_clamp (by omega)
  have c2 : (nI (D - 1)).toNatClampNeg = D - 1 := nI_clamp (by omega)
  refine nm_r (wr_sub1 (by omega)) ?_
  rw [e1, c1, c2]
  exact ⟨vp_in_nI (by omega) (by decide), vp_in_nI (by omega) (by decide), vp_in_nI (by omega) (by decide), nm_e hp⟩
theorem wx_cat_in {post : Int32 → SX → Prop} {J : Int32 → (Nat → Int32) → (Nat → Int32) → (Nat → Int32) → Prop} (hN : N ≤ 7) {A B : Nat → Prop} {o l : Nat} (ho : o + 512 ≤ 2048) (hl : l ≤ N) (hB : wr_X (2 ^ (N + 1)) (o + 256) st B) {a : Nat → Int32}
    (h0 : wr_X (2 ^ (N + 1)) o a (wr_mix (fun c => 2 ^ (l + 1) ≤ c) (wr_Cat A B) A)) (h1 : wr_fr o st a)
    (hJ : ∀ a, wr_X (2 ^ (N + 1)) o a (wr_mix (fun c => 2 ^ l ≤ c) (wr_Cat A B) A) → wr_fr o st a → J (nI l + (-1)) a le sl) : ∃ n, wX_cat_36 post J (nI (o + 256)) (nI o) (nI l) (nI N) (nI D) (nI T) n (nI (2 ^ l)) a le sl := by
  have hM := wr_256 hN
  have hq := wr_pw (show l + 1 ≤ N + 1 by omega)
  have e2 : 2 ^ (l + 1) = 2 ^ l * 2 := Nat.pow_succ ..
  have p2 := Nat.two_pow_pos l
  refine pk_loop (fun n i a => wX_cat_36 post J (nI (o + 256)) (nI o) (nI l) (nI N) (nI D) (nI T) n (nI i) a le sl) (fun i a => 2 ^ l ≤ i ∧ wr_X (2 ^ (N + 1)) o a (wr_mix (fun c => 2 ^ (l + 1) ≤ c ∨ (2 ^ l ≤ c ∧ c < i)) (wr_Cat A B) A) ∧ wr_fr o st a) (2 ^ (l + 1)) (2 ^ l) a (by omega) ⟨Nat.le_refl _, ?_, h1⟩ ?_ ?_
  · exact wr_Xc h0 fun c _ _ => wr_mr (by omega)
  · intro n a ⟨_, h2, h3⟩
    refine br_t ?_ (nm_e (hJ a (wr_Xc h2 fun c _ _ => wr_mr (by omega)) h3))
    rw [wr_shl2 (by omega)]
    exact nI_le (Nat.le_refl _) (by omega)
  · intro n w a hw ⟨h2, h3, h4⟩ hk
    have hg : Nat.log2 w = l := wr_lg h2 hw
    have hx := wr_ix (o := o) (w := w) (n := 2048) (by omega) (by decide)
    refine br_f ?_ (wx_split (A := A) (B := B) (s := 0) (by omega) (by omega) (by omega) (by omega) (Nat.zero_le _) ?_ ?_ ⟨hx.1, nm_r (e' := upd a (o + w) (wr_d (∃ t, 0 ≤ t ∧ t < l + 1 ∧ A (w / 2 ^ t) ∧ B (2 ^ t + w % 2 ^ t)))) ?_ (nm_r (nI_1 w) (hk _ ⟨by omega, ?_, wr_fru h4 (by omega)⟩))⟩)
    · rw [wr_shl2 (by omega)]
      exact nI_ge hw (by omega)
    · intro t _ ht
      have b1 := wr_hd1 (c := w) (t := t) (by omega) (by omega)
      have b2 : w / 2 ^ t ≤ w := Nat.div_le_self _ _
      rw [h3 (w / 2 ^ t) b1 (by omega)]
      refine wr_dc (wr_mf ?_)
      by_cases e : t = 0
      · rw [e, Nat.pow_zero, Nat.div_one]
        omega
      · have b3 := wr_hdl (c := w) (t := t) (l := l) (by omega) hw
        omega
    · intro t _ ht
      have b1 := wr_tlt w t
      have b2 := wr_pw (show t + 1 ≤ N + 1 by omega)
      have b3 := wr_tl1 w t
      rw [h4.2 _ (by omega)]
      exact hB _ b3 (by omega)
    · rw [wr_dv, hx.2]
    · refine wr_mxu h3 ?_ (by omega) (fun c e => by omega)
      unfold wr_Cat
      rw [hg]
      exact ⟨fun ⟨t, x, y⟩ => ⟨t, Nat.zero_le _, by omega, y⟩, fun ⟨t, _, x, y⟩ => ⟨t, by omega, y⟩⟩
theorem wx_cat {post : Int32 → SX → Prop} (hN : N ≤ 7) (hD2 : 2 ≤ D) (hD : D ≤ 8) {A B : Nat → Prop} (hA : wr_X (2 ^ (N + 1)) ((D - 2) * 256) st A) (hB : wr_X (2 ^ (N + 1)) ((D - 1) * 256) st B)
    (hp : ∀ a, wr_X (2 ^ (N + 1)) ((D - 2) * 256) a (wr_Cat A B) → wr_fr ((D - 2) * 256) st a → post (nI (D - 1)) (nI N, nI (D - 1), nI T, a, upd le (D - 2) (le (D - 2) + le (D - 1)), sl)) : wpX_cat post (nI N, nI D, nI T, st, le, sl) := by
  have hM := wr_256 hN
  have eo : (D - 1) * 256 = (D - 2) * 256 + 256 := by omega
  refine br_t (nI_le (a := 2) hD2 (by omega)) (wx_top (by omega) (nm_r (e' := nI ((D - 2) * 256)) ?_ ?_))
  · exact (pk_sub (b := 256) (by omega)).trans (congrArg nI (by omega))
  rw [eo] at hB ⊢
  generalize ho : (D - 2) * 256 = o at hA hB hp ⊢
  have key : ∀ l, l ≤ N → ∀ a, wr_X (2 ^ (N + 1)) o a (wr_mix (fun c => 2 ^ (l + 1) ≤ c) (wr_Cat A B) A) → wr_fr o st a → wX_cat_27 post (nI (o + 256)) (nI o) (nI N) (nI D) (nI T) (l + 2) (nI l) a le sl := by
    intro l
    induction l with
    | zero =>
      intro hl a h0 h1
      refine br_f (nI_pos (n := 0) (by decide)) (nm_r (wr_shl1 (t := 0) (by decide)) (wx_cat_in hN (by omega) hl hB h0 h1 fun a h2 h3 => ?_))
      refine br_t (by decide) (wx_merge hD2 hD (hp a (wr_Xc h2 fun c h _ => (wr_mt1 (R := fun c => 2 ^ 0 ≤ c) h).symm) h3))
    | succ l ih =>
      intro hl a h0 h1
      refine br_f (nI_pos (by omega)) (nm_r (wr_shl1 (by omega)) (wx_cat_in hN (by omega) hl hB h0 h1 fun a h2 h3 => ?_))
      rw [pk_m1]
      exact ih (by omega) a h2 h3
  refine ⟨N + 2, key N (Nat.le_refl N) st ?_ wr_fr0⟩
  exact wr_Xc hA fun c _ h => wr_mf (by omega)
end
