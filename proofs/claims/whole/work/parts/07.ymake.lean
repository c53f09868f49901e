/-! 07: Y's makers -/
def wr_f (k : Nat) (f : Nat → Int32) (G : Nat → Prop) : Prop := ∀ w, w < k → f w = wr_d (G (w + 1))
theorem wr_f_u {k w : Nat} {f : Nat → Int32} {G G' : Nat → Prop} {q : Prop} (h : wr_f k f G) (hq : G' (w + 1) ↔ q) (hG : ∀ c, c ≠ w + 1 → (G' c ↔ G c)) : wr_f k (upd f w (wr_d q)) G' := by
  intro v hv
  by_cases e : v = w
  · rw [e, pk_us]
    exact (wr_dc hq).symm
  · rw [pk_un e, h v hv]
    exact (wr_dc (hG (v + 1) (by omega))).symm
theorem wr_f_s {w : Nat} {f : Nat → Int32} {G : Nat → Prop} (h : wr_f w f G) : wr_f (w + 1) (upd f w (wr_d (G (w + 1)))) G := by
  intro v hv
  by_cases e : v = w
  · rw [e, pk_us]
  · rw [pk_un e]
    exact h v (by omega)
theorem wr_f_0 {f : Nat → Int32} {G : Nat → Prop} : wr_f 0 f G := fun w h => absurd h (Nat.not_lt_zero w)
section
variable {N D T : Nat} {st le sl fr : Nat → Int32} {L : Nat → Nat}
theorem wy_letters {post : Int32 → Prop} (hD : D ≤ 8) (hL : ∀ i, i < D → le i = nI (L i)) (hp : post (nI (wr_s L D))) : wpY_letters post (nI D, nI T, nI N, st, le, sl, fr) := by
  have key : ∀ d i, i + d = D → wY_letters_4 post (nI D) (nI T) (nI N) st le sl fr (d + 1) (nI (wr_s L i)) (nI i) := by
    intro d
    induction d with
    | zero =>
      intro i hi
      have e : i = D := by omega
      subst e
      exact br_t (nI_le (Nat.le_refl _) (by omega)) hp
    | succ d ih =>
      intro i hi
      refine br_f (nI_ge (by omega) (by omega)) ⟨vp_in_nI (by omega) (by decide), nm_r ?_ (nm_r (nI_1 i) (ih (i + 1) (by omega)))⟩
      rw [nI_clamp (by omega), hL i (by omega), nI_add]
      rfl
  exact Exists.intro _ (key D 0 (by omega))
theorem wy_clear {post : SY → Prop} (hp : ∀ f, wr_f 255 f (fun _ => False) → post (nI D, nI T, nI N, st, le, sl, f)) : wpY_clearFresh post (nI D, nI T, nI N, st, le, sl, fr) := by
  show ∃ n, wY_clearFresh_2 post (nI D) (nI T) (nI N) n 0 st le sl fr
  refine pk_loop (fun n i f => wY_clearFresh_2 post (nI D) (nI T) (nI N) n (nI i) st le sl f) (fun i f => wr_f i f (fun _ => False)) 255 0 fr (by decide) wr_f_0 ?_ ?_
  · exact fun n f h => br_t (nI_le (a := 255) (b := 255) (Nat.le_refl _) (by decide)) (hp f h)
  · intro n i f hi h hk
    refine br_f (nI_ge (b := 255) hi (by decide)) ⟨vp_in_nI hi (by decide), nm_r (e' := upd f i (wr_d False)) ?_ (nm_r (nI_1 i) (hk _ (wr_f_s h)))⟩
    rw [wr_v0, nI_clamp (by omega), wr_Fa]
theorem wr_o1 (h : 1 ≤ D) : (nI D - 1) * 255 = nI ((D - 1) * 255) := by
  rw [wr_sub1 h]
  exact pk_mul _ 255
theorem wr_o2 (h : 2 ≤ D) : (nI D - 2) * 255 = nI ((D - 2) * 255) := by
  have e : nI D - 2 = nI (D - 2) := pk_sub (b := 2) h
  rw [e]
  exact pk_mul _ 255
theorem wy_toTop {post : SY → Prop} (hD1 : 1 ≤ D) (hD : D ≤ 8) {G : Nat → Prop} (hf : wr_f 255 fr G) (hp : ∀ a, wr_Y ((D - 1) * 255) a G → (∀ j, j < (D - 1) * 255 → a j = st j) → post (nI D, nI T, nI N, a, le, sl, fr)) : wpY_freshToTop post (nI D, nI T, nI N, st, le, sl, fr) := by
  show ∃ n, wY_freshToTop_2 post (nI D) (nI T) (nI N) n 0 st le sl fr
  refine pk_loop (fun n i a => wY_freshToTop_2 post (nI D) (nI T) (nI N) n (nI i) a le sl fr) (fun i a => (∀ w, w < i → a ((D - 1) * 255 + w) = wr_d (G (w + 1))) ∧ ∀ j, j < (D - 1) * 255 → a j = st j) 255 0 st (by decide) ⟨fun w h => absurd h (Nat.not_lt_zero w), fun _ _ => rfl⟩ ?_ ?_
  · exact fun n a h => br_t (nI_le (a := 255) (b := 255) (Nat.le_refl _) (by decide)) (hp a h.1 h.2)
  · intro n i a hi ⟨h1, h2⟩ hk
    have hx := wr_ix (o := (D - 1) * 255) (w := i) (n := 2040) (by omega) (by decide)
    refine br_f (nI_ge (b := 255) hi (by decide)) ⟨vp_in_nI hi (by decide), ?_⟩
    rw [wr_o1 hD1, hx.2, nI_clamp (by omega), hf i hi, wr_dv]
    refine ⟨hx.1, nm_e (nm_r (nI_1 i) (hk _ ⟨?_, fun j hj => (pk_un (by omega)).trans (h2 j hj)⟩))⟩
    intro w hw
    by_cases e : w = i
    · rw [e, pk_us]
    · rw [pk_un (by omega)]
      exact h1 w (by omega)
theorem wy_push {post : Int32 → SY → Prop} (hD : D < 8) {p : Nat} {G : Nat → Prop} (hf : wr_f 255 fr G) (hp : ∀ a, wr_Y (D * 255) a G → (∀ j, j < D * 255 → a j = st j) → post (nI (D + 1)) (nI (D + 1), nI T, nI N, a, upd le D (nI p), sl, fr)) : wpY_push post (nI D, nI T, nI N, st, le, sl, fr) (nI p) := by
  unfold wpY_push
  dsimp only
  refine ⟨vp_in_nI hD (by decide), nm_r (e' := upd le D (nI p)) (by rw [nI_clamp (by omega)]) (nm_r (nI_1 D) (wy_toTop (D := D + 1) (by omega) (by omega) hf ?_))⟩
  rw [Nat.add_sub_cancel]
  exact hp
theorem wy_l51 {post : Int32 → SY → Prop} (hD : D < 8) {j : Nat} (hj : j < 3) (hf : wr_f 255 fr (fun c => c = 2 ∧ j ≠ 1)) (hp : ∀ a f, wr_Y (D * 255) a (wr_Le j) → (∀ j, j < D * 255 → a j = st j) → post (nI (D + 1)) (nI (D + 1), nI T, nI N, a, upd le D 1, sl, f)) : wY_letter_51 post (nI j) (nI D) (nI T) (nI N) st le sl fr := by
  refine br_c (fun z => ?_) (fun z => nm_r (e' := upd fr 2 (wr_d True)) (by rw [wr_v1, wr_T]) ?_)
  · have e : j = 0 := (nI_eq (b := 0) (by omega) (by decide)).mp z
    refine wy_push (p := 1) (G := wr_Le j) hD (fun w hw => (hf w hw).trans (wr_dc ?_)) (fun a h1 h2 => hp a _ h1 h2)
    unfold wr_Le
    omega
  · have e : j ≠ 0 := fun y => z (by rw [y]; exact nI_0)
    refine wy_push (p := 1) (G := wr_Le j) hD (wr_f_u hf ⟨fun _ => trivial, fun _ => Or.inr ⟨rfl, e⟩⟩ (fun c hc => ?_)) (fun a h1 h2 => hp a _ h1 h2)
    unfold wr_Le
    omega
theorem wy_letterG {post : Int32 → SY → Prop} (hD : D < 8) (hL : ∀ i, i < D → le i = nI (L i)) (hs : wr_s L D < 12) {j : Nat} (hj : j < 3)
    (hp : ∀ a f, wr_Y (D * 255) a (wr_Le j) → (∀ j, j < D * 255 → a j = st j) → post (nI (D + 1)) (nI (D + 1), nI T, nI N, a, upd le D 1, sl, f)) : wpY_letter post (nI D, nI T, nI N, st, le, sl, fr) (nI j) := by
  refine br_f (nI_pos (by omega)) (br_t (nI_le (b := 2) (by omega) (by decide)) (br_f (fun z => absurd ((nI_eq (b := 8) (by omega) (by decide)).mp z) (by omega)) (wy_letters (by omega) hL (br_f (fun z => absurd ((nI_eq (b := 12) (by omega) (by decide)).mp z) (by omega)) (wy_clear fun f hf => ?_)))))
  refine br_c (fun z => ?_) (fun z => nm_r (e' := upd f 1 (wr_d True)) (by rw [wr_v1, wr_T]) ?_)
  · have e : j = 1 := (nI_eq (b := 1) (by omega) (by decide)).mp z
    exact wy_l51 hD hj (fun w hw => (hf w hw).trans (wr_dc ⟨False.elim, fun y => y.2 e⟩)) hp
  · have e : j ≠ 1 := fun y => z (by rw [y]; rfl)
    exact wy_l51 hD hj (wr_f_u hf ⟨fun _ => trivial, fun _ => ⟨rfl, e⟩⟩ (fun c hc => ⟨fun y => hc y.1, False.elim⟩)) hp
theorem wy_unitG {post : Int32 → SY → Prop} (hD : D < 8) (hp : ∀ a f, wr_Y (D * 255) a (fun c => c = 1) → (∀ j, j < D * 255 → a j = st j) → post (nI (D + 1)) (nI (D + 1), nI T, nI N, a, upd le D 0, sl, f)) : wpY_unit post (nI D, nI T, nI N, st, le, sl, fr) := by
  refine br_f (fun z => absurd ((nI_eq (b := 8) (by omega) (by decide)).mp z) (by omega)) (wy_clear fun f hf => ?_)
  refine nm_r (e' := upd f 0 (wr_d True)) (by rw [wr_v1, wr_T]) ?_
  exact wy_push (p := 0) (G := fun c => c = 1) hD (wr_f_u hf ⟨fun _ => trivial, fun _ => rfl⟩ (fun c hc => ⟨fun y => hc y, False.elim⟩)) (fun a h1 h2 => hp a _ h1 h2)
theorem wy_noneG {post : Int32 → SY → Prop} (hD : D < 8) (hp : ∀ a f, wr_Y (D * 255) a (fun _ => False) → (∀ j, j < D * 255 → a j = st j) → post (nI (D + 1)) (nI (D + 1), nI T, nI N, a, upd le D 0, sl, f)) : wpY_none post (nI D, nI T, nI N, st, le, sl, fr) := by
  refine br_f (fun z => absurd ((nI_eq (b := 8) (by omega) (by decide)).mp z) (by omega)) (wy_clear fun f hf => ?_)
  exact wy_push (p := 0) hD hf (fun a h1 h2 => hp a _ h1 h2)
theorem wy_inTop {post : Int32 → Prop} (hD1 : 1 ≤ D) (hD : D ≤ 8) {A : Nat → Prop} (hA : wr_Y ((D - 1) * 255) st A) {w : Nat} (hw : w < 255) (hp : post (wr_d (A (w + 1)))) : wpY_inTop post (nI D, nI T, nI N, st, le, sl, fr) (nI w) := by
  have hx := wr_ix (o := (D - 1) * 255) (w := w) (n := 2040) (by omega) (by decide)
  unfold wpY_inTop
  dsimp only
  rw [wr_o1 hD1, hx.2, hA w hw]
  exact ⟨hx.1, wr_dn _, hp⟩
theorem wy_inSecond {post : Int32 → Prop} (hD2 : 2 ≤ D) (hD : D ≤ 8) {A : Nat → Prop} (hA : wr_Y ((D - 2) * 255) st A) {w : Nat} (hw : w < 255) (hp : post (wr_d (A (w + 1)))) : wpY_inSecond post (nI D, nI T, nI N, st, le, sl, fr) (nI w) := by
  have hx := wr_ix (o := (D - 2) * 255) (w := w) (n := 2040) (by omega) (by decide)
  unfold wpY_inSecond
  dsimp only
  rw [wr_o2 hD2, hx.2, hA w hw]
  exact ⟨hx.1, wr_dn _, hp⟩
theorem wr_hb {c p : Nat} (h1 : 1 ≤ c) (h2 : c < 256) : 1 ≤ c / 2 ^ (Nat.log2 c - p) ∧ c / 2 ^ (Nat.log2 c - p) < 256 ∧ 1 ≤ 2 ^ (Nat.log2 c - p) + c % 2 ^ (Nat.log2 c - p) ∧ 2 ^ (Nat.log2 c - p) + c % 2 ^ (Nat.log2 c - p) < 256 := by
  have hl := wr_lgN (N := 7) h1 h2
  exact ⟨wr_hd1 h1 (by omega), Nat.lt_of_le_of_lt (Nat.div_le_self _ _) h2, wr_tl1 _ _, Nat.lt_of_lt_of_le (wr_tlt _ _) (wr_256 (N := Nat.log2 c - p) (by omega))⟩
theorem wy_splits {post : Int32 → Prop} (hD2 : 2 ≤ D) (hD : D ≤ 8) {A B : Nat → Prop} (hA : wr_Y ((D - 2) * 255) st A) (hB : wr_Y ((D - 1) * 255) st B) {w : Nat} (hw : w < 255) (hp : post (wr_d (wr_Cat A B (w + 1)))) : wpY_splits post (nI D, nI T, nI N, st, le, sl, fr) (nI w) := by
  have hl := wr_lgN (c := w + 1) (N := 7) (by omega) (show w + 1 < 256 by omega)
  unfold wpY_splits
  dsimp only
  refine wy_lenOf hw ?_
  refine ⟨_, wr_srch (fun n p => wY_splits_8 post (nI w) (nI (Nat.log2 (w + 1))) (nI D) (nI T) (nI N) st le sl fr n (nI p)) (fun p => A ((w + 1) / 2 ^ (Nat.log2 (w + 1) - p)) ∧ B (2 ^ (Nat.log2 (w + 1) - p) + (w + 1) % 2 ^ (Nat.log2 (w + 1) - p))) (p1 := post 1) (p0 := post 0) 0 (Nat.log2 (w + 1) + 1) (Nat.zero_le _) ?_ ?_ ?_ ?_⟩
  · intro ⟨p, _, h1, h2⟩
    rw [wr_dt (p := wr_Cat A B (w + 1)) ⟨_, Nat.sub_le _ p, h2⟩] at hp
    exact hp
  · intro h
    rw [wr_df (p := wr_Cat A B (w + 1)) (fun ⟨t, h1, h2⟩ => h ⟨Nat.log2 (w + 1) - t, Nat.zero_le _, by omega, by rw [show Nat.log2 (w + 1) - (Nat.log2 (w + 1) - t) = t by omega]; exact h2⟩)] at hp
    exact hp
  · exact fun h n => br_t (nI_lt (Nat.lt_succ_self _) (by omega)) h
  · intro n p _ hpl k1 k2
    have hb := wr_hb (c := w + 1) (p := p) (by omega) (by omega)
    generalize hx : (w + 1) / 2 ^ (Nat.log2 (w + 1) - p) = x at hb k1 k2
    generalize hy : 2 ^ (Nat.log2 (w + 1) - p) + (w + 1) % 2 ^ (Nat.log2 (w + 1) - p) = y at hb k1 k2
    obtain ⟨x, rfl⟩ : ∃ z, x = z + 1 := ⟨x - 1, by omega⟩
    obtain ⟨y, rfl⟩ : ∃ z, y = z + 1 := ⟨y - 1, by omega⟩
    refine br_f (nI_nlt (by omega) (by omega)) (wy_prefix hw (by omega) (wy_suffix hw (by omega) ?_))
    rw [hx, hy, Nat.add_sub_cancel, Nat.add_sub_cancel]
    exact wy_inSecond hD2 hD hA (by omega) (wr_cb (fun q => nm_r (nI_1 p) (k2 fun z => q z.1)) (fun q => wy_inTop (by omega) hD hB (by omega) (wr_cb (fun q2 => nm_r (nI_1 p) (k2 fun z => q2 z.2)) (fun q2 => k1 ⟨q, q2⟩))))
theorem wy_drop {post : Int32 → SY → Prop} (hD2 : 2 ≤ D) (hD : D ≤ 8) {G : Nat → Prop} (hf : wr_f 255 fr G) (hp : ∀ a, wr_Y ((D - 2) * 255) a G → (∀ j, j < (D - 2) * 255 → a j = st j) → post (nI (D - 1)) (nI (D - 1), nI T, nI N, a, upd le (D - 2) (le (D - 2) + le (D - 1)), sl, fr)) : wpY_dropPair post (nI D, nI T, nI N, st, le, sl, fr) := by
  have e1 : nI D - 1 = nI (D - 1) := wr_sub1 (by omega)
  have e2 : nI D - 2 = nI (D - 2) := pk_sub (b := 2) hD2
  unfold wpY_dropPair
  dsimp only
  rw [e1, e2, nI_clamp (by omega), nI_clamp (by omega)]
  exact ⟨vp_in_nI (by omega) (by decide), vp_in_nI (by omega) (by decide), vp_in_nI (by omega) (by decide), nm_e (nm_e (wy_toTop (by omega) (by omega) hf hp))⟩
theorem wy_cat {post : Int32 → SY → Prop} (hD2 : 2 ≤ D) (hD : D ≤ 8) {A B : Nat → Prop} (hA : wr_Y ((D - 2) * 255) st A) (hB : wr_Y ((D - 1) * 255) st B)
    (hp : ∀ a f, wr_Y ((D - 2) * 255) a (wr_Cat A B) → (∀ j, j < (D - 2) * 255 → a j = st j) → post (nI (D - 1)) (nI (D - 1), nI T, nI N, a, upd le (D - 2) (le (D - 2) + le (D - 1)), sl, f)) : wpY_cat post (nI D, nI T, nI N, st, le, sl, fr) := by
  refine br_t (nI_le (a := 2) hD2 (by omega)) (pk_loop (fun n i f => wY_cat_13 post (nI D) (nI T) (nI N) n (nI i) st le sl f) (fun i f => wr_f i f (wr_Cat A B)) 255 0 fr (by decide) wr_f_0 ?_ ?_)
  · exact fun n f h => br_t (nI_le (a := 255) (b := 255) (Nat.le_refl _) (by decide)) (wy_drop hD2 hD h (fun a h1 h2 => hp a f h1 h2))
  · intro n i f hi h hk
    refine br_f (nI_ge (b := 255) hi (by decide)) (wy_splits hD2 hD hA hB hi ⟨vp_in_nI hi (by decide), nm_r (e' := upd f i (wr_d (wr_Cat A B (i + 1)))) ?_ (nm_r (nI_1 i) (hk _ (wr_f_s h)))⟩)
    rw [wr_dv, nI_clamp (by omega)]
theorem wy_alt {post : Int32 → SY → Prop} (hD2 : 2 ≤ D) (hD : D ≤ 8) {A B : Nat → Prop} (hA : wr_Y ((D - 2) * 255) st A) (hB : wr_Y ((D - 1) * 255) st B)
    (hp : ∀ a f, wr_Y ((D - 2) * 255) a (fun c => A c ∨ B c) → (∀ j, j < (D - 2) * 255 → a j = st j) → post (nI (D - 1)) (nI (D - 1), nI T, nI N, a, upd le (D - 2) (le (D - 2) + le (D - 1)), sl, f)) : wpY_alt post (nI D, nI T, nI N, st, le, sl, fr) := by
  refine br_t (nI_le (a := 2) hD2 (by omega)) (pk_loop (fun n i f => wY_alt_13 post (nI D) (nI T) (nI N) n (nI i) st le sl f) (fun i f => wr_f i f (fun c => A c ∨ B c)) 255 0 fr (by decide) wr_f_0 ?_ ?_)
  · exact fun n f h => br_t (nI_le (a := 255) (b := 255) (Nat.le_refl _) (by decide)) (wy_drop hD2 hD h (fun a h1 h2 => hp a f h1 h2))
  · intro n i f hi h hk
    have hn : wY_alt_13 post (nI D) (nI T) (nI N) n (nI (i + 1)) st le sl (upd f i (wr_d (A (i + 1) ∨ B (i + 1)))) := hk _ (wr_f_s h)
    have hc : (nI i).toNatClampNeg = i := nI_clamp (by omega)
    refine br_f (nI_ge (b := 255) hi (by decide)) (wy_inSecond hD2 hD hA hi (wr_cb (fun q => wy_inTop (by omega) hD hB hi (wr_cb (fun q2 => ⟨vp_in_nI hi (by decide), nm_r (e' := upd f i (wr_d (A (i + 1) ∨ B (i + 1)))) ?_ (nm_r (nI_1 i) hn)⟩) (fun q2 => ⟨vp_in_nI hi (by decide), nm_r (e' := upd f i (wr_d (A (i + 1) ∨ B (i + 1)))) ?_ (nm_r (nI_1 i) hn)⟩))) (fun q => ⟨vp_in_nI hi (by decide), nm_r (e' := upd f i (wr_d (A (i + 1) ∨ B (i + 1)))) ?_ (nm_r (nI_1 i) hn)⟩)))
    · rw [hc, wr_v0, wr_df (fun z => z.elim q q2)]
    · rw [hc, wr_v1, wr_dt (Or.inr q2)]
    · rw [hc, wr_v1, wr_dt (Or.inl q)]
theorem wy_chains {post : Int32 → Prop} (hD1 : 1 ≤ D) (hD : D ≤ 8) {A G : Nat → Prop} (hA : wr_Y ((D - 1) * 255) st A) {w : Nat} (hw1 : 1 ≤ w) (hw : w < 255) (hf : wr_f w fr G) (hp : post (wr_d (wr_C A G (w + 1)))) : wpY_chains post (nI D, nI T, nI N, st, le, sl, fr) (nI w) := by
  have hl := wr_lgN (c := w + 1) (N := 7) (by omega) (show w + 1 < 256 by omega)
  have hl1 : 1 ≤ Nat.log2 (w + 1) := (Nat.le_log2 (by omega)).mpr (by omega)
  have hg1 := wr_lg1 (c := w + 1) (by omega)
  unfold wpY_chains
  dsimp only
  refine wy_lenOf hw ?_
  refine ⟨_, wr_srch (fun n p => wY_chains_8 post (nI w) (nI (Nat.log2 (w + 1))) (nI D) (nI T) (nI N) st le sl fr n (nI p)) (fun p => A ((w + 1) / 2 ^ (Nat.log2 (w + 1) - p)) ∧ (p = Nat.log2 (w + 1) ∨ G (2 ^ (Nat.log2 (w + 1) - p) + (w + 1) % 2 ^ (Nat.log2 (w + 1) - p)))) (p1 := post 1) (p0 := post 0) 1 (Nat.log2 (w + 1) + 1) (by omega) ?_ ?_ ?_ ?_⟩
  · intro ⟨p, h0, h1, h2, h3⟩
    have z : wr_C A G (w + 1) := by
      by_cases e : p = Nat.log2 (w + 1)
      · rw [e, Nat.sub_self, Nat.pow_zero, Nat.div_one] at h2
        exact Or.inl h2
      · exact Or.inr ⟨_, by omega, by omega, h2, h3.elim (fun y => absurd y e) id⟩
    rw [wr_dt z] at hp
    exact hp
  · intro h
    have z : ¬ wr_C A G (w + 1) := by
      intro y
      rcases y with y | ⟨t, h0, h1, h2, h3⟩
      · exact h ⟨Nat.log2 (w + 1), hl1, Nat.lt_succ_self _, by rw [Nat.sub_self, Nat.pow_zero, Nat.div_one]; exact y, Or.inl rfl⟩
      · exact h ⟨Nat.log2 (w + 1) - t, by omega, by omega, by rw [show Nat.log2 (w + 1) - (Nat.log2 (w + 1) - t) = t by omega]; exact ⟨h2, Or.inr h3⟩⟩
    rw [wr_df z] at hp
    exact hp
  · exact fun h n => br_t (nI_lt (Nat.lt_succ_self _) (by omega)) h
  · intro n p hp1 hpl k1 k2
    have hb := wr_hb (c := w + 1) (p := p) (by omega) (by omega)
    have ht := wr_tlt (w + 1) (Nat.log2 (w + 1) - p)
    have ht2 := wr_pw (show Nat.log2 (w + 1) - p + 1 ≤ Nat.log2 (w + 1) by omega)
    generalize hx : (w + 1) / 2 ^ (Nat.log2 (w + 1) - p) = x at hb k1 k2
    generalize hy : 2 ^ (Nat.log2 (w + 1) - p) + (w + 1) % 2 ^ (Nat.log2 (w + 1) - p) = y at hb k1 k2 ht
    obtain ⟨x, rfl⟩ : ∃ z, x = z + 1 := ⟨x - 1, by omega⟩
    obtain ⟨y, rfl⟩ : ∃ z, y = z + 1 := ⟨y - 1, by omega⟩
    refine br_f (nI_nlt (by omega) (by omega)) (wy_prefix hw (by omega) (wy_suffix hw (by omega) ?_))
    rw [hx, hy, Nat.add_sub_cancel, Nat.add_sub_cancel]
    refine wy_inTop hD1 hD hA (by omega) (wr_cb (fun q => nm_r (nI_1 p) (k2 fun z => q z.1)) (fun q => pk_eq p (Nat.log2 (w + 1)) (fun e => k1 ⟨q, Or.inl e⟩) (fun e => ⟨vp_in_nI (by omega) (by decide), ?_⟩)))
    rw [nI_clamp (by omega), hf y (by omega)]
    exact wr_cb (fun q2 => nm_r (nI_1 p) (k2 fun z => z.2.elim e q2)) (fun q2 => k1 ⟨q, Or.inr q2⟩)
theorem wy_repeated {post : Int32 → SY → Prop} (hD1 : 1 ≤ D) (hD : D ≤ 8) {A G : Nat → Prop} {e : Prop} (hA : wr_Y ((D - 1) * 255) st A) (hG1 : G 1 ↔ e) (hG : ∀ c, 2 ≤ c → (G c ↔ wr_C A G c))
    (hp : ∀ a f, wr_Y ((D - 1) * 255) a G → (∀ j, j < (D - 1) * 255 → a j = st j) → post (nI D) (nI D, nI T, nI N, a, le, sl, f)) : wpY_repeated post (nI D, nI T, nI N, st, le, sl, fr) (wr_d e) := by
  unfold wpY_repeated
  dsimp only
  refine nm_r (e' := upd fr 0 (wr_d (G (0 + 1)))) (by rw [wr_dv, wr_dc hG1]) ?_
  refine pk_loop (fun n i f => wY_repeated_9 post (nI D) (nI T) (nI N) n (nI i) st le sl f) (fun i f => 1 ≤ i ∧ wr_f i f G) 255 1 _ (by decide) ⟨Nat.le_refl 1, wr_f_s wr_f_0⟩ ?_ ?_
  · exact fun n f h => br_t (nI_le (a := 255) (b := 255) (Nat.le_refl _) (by decide)) (wy_toTop hD1 hD h.2 (fun a h1 h2 => hp a f h1 h2))
  · intro n i f hi ⟨h1, h⟩ hk
    refine br_f (nI_ge (b := 255) hi (by decide)) (wy_chains hD1 hD hA h1 hi h ⟨vp_in_nI hi (by decide), nm_r (e' := upd f i (wr_d (G (i + 1)))) ?_ (nm_r (nI_1 i) (hk _ ⟨by omega, wr_f_s h⟩))⟩)
    rw [wr_dv, nI_clamp (by omega), wr_dc (hG (i + 1) (by omega))]
theorem wy_star {post : Int32 → SY → Prop} (hD1 : 1 ≤ D) (hD : D ≤ 8) {A : Nat → Prop} (hA : wr_Y ((D - 1) * 255) st A)
    (hp : ∀ a f, wr_Y ((D - 1) * 255) a (fun c => c = 1 ∨ wr_P A c) → (∀ j, j < (D - 1) * 255 → a j = st j) → post (nI D) (nI D, nI T, nI N, a, le, sl, f)) : wpY_star post (nI D, nI T, nI N, st, le, sl, fr) := by
  refine br_f (nI_ne0 hD1 (by omega)) ?_
  have g := wy_repeated (post := post) (N := N) (T := T) (le := le) (sl := sl) (fr := fr) (e := True) hD1 hD hA (G := fun c => c = 1 ∨ wr_P A c) ⟨fun _ => trivial, fun _ => Or.inl rfl⟩ ?_ hp
  · rw [wr_T] at g
    exact g
  · intro c hc
    have z : ∀ t, 1 ≤ t → ((2 ^ t + c % 2 ^ t = 1 ∨ wr_P A (2 ^ t + c % 2 ^ t)) ↔ wr_P A (2 ^ t + c % 2 ^ t)) := fun t ht =>
      ⟨fun y => y.elim (fun x => absurd x (by have := wr_pw ht; omega)) id, Or.inr⟩
    constructor
    · intro y
      rcases wr_Pe (y.elim (fun x => absurd x (by omega)) id) with y | ⟨t, h0, h1, h2, h3⟩
      · exact Or.inl y
      · exact Or.inr ⟨t, h0, h1, h2, (z t h0).mpr h3⟩
    · intro y
      refine Or.inr (wr_Pi ?_)
      rcases y with y | ⟨t, h0, h1, h2, h3⟩
      · exact Or.inl y
      · exact Or.inr ⟨t, h0, h1, h2, (z t h0).mp h3⟩
theorem wy_plus {post : Int32 → SY → Prop} (hD1 : 1 ≤ D) (hD : D ≤ 8) {A : Nat → Prop} (hA : wr_Y ((D - 1) * 255) st A)
    (hp : ∀ a f, wr_Y ((D - 1) * 255) a (wr_P A) → (∀ j, j < (D - 1) * 255 → a j = st j) → post (nI D) (nI D, nI T, nI N, a, le, sl, f)) : wpY_plus post (nI D, nI T, nI N, st, le, sl, fr) := by
  refine br_f (nI_ne0 hD1 (by omega)) (wy_inTop (w := 0) hD1 hD hA (by decide) ?_)
  exact wy_repeated hD1 hD hA (wr_P1 (c := 1) (by decide)) (fun c _ => wr_Pf) hp
theorem wy_opt {post : Int32 → SY → Prop} (hD1 : 1 ≤ D) (hD : D ≤ 8) {A : Nat → Prop} (hA : wr_Y ((D - 1) * 255) st A)
    (hp : ∀ a, wr_Y ((D - 1) * 255) a (fun c => c = 1 ∨ A c) → (∀ j, j < (D - 1) * 255 → a j = st j) → post (nI D) (nI D, nI T, nI N, a, le, sl, fr)) : wpY_opt post (nI D, nI T, nI N, st, le, sl, fr) := by
  refine br_f (nI_ne0 hD1 (by omega)) ?_
  rw [wr_o1 hD1, wr_v1, nI_clamp (by omega)]
  refine ⟨vp_in_nI (by omega) (by decide), nm_e (hp _ ?_ (fun j hj => pk_un (by omega)))⟩
  intro w hw
  by_cases e : w = 0
  · rw [e, Nat.add_zero, pk_us]
    exact (wr_dt (Or.inl rfl)).symm
  · rw [pk_un (by omega), hA w hw]
    exact wr_dc ⟨Or.inr, fun y => y.elim (fun x => absurd x (by omega)) id⟩
theorem wy_mirrored {post : Int32 → Prop} {w : Nat} (hw : w < 255) (hp : post (nI (wr_mi (w + 1) - 1))) : wpY_mirrored post (nI D, nI T, nI N, st, le, sl, fr) (nI w) := by
  have hl := wr_lgN (c := w + 1) (N := 7) (by omega) (show w + 1 < 256 by omega)
  have r := wr_lg1 (c := w + 1) (by omega)
  have p3 := Nat.two_pow_pos (Nat.log2 (w + 1))
  unfold wpY_mirrored
  dsimp only
  refine wy_lenOf hw (nm_r (wr_bits hw) ?_)
  have key : ∀ d i, i + d = Nat.log2 (w + 1) → wY_mirrored_20 post (nI (Nat.log2 (w + 1))) (nI (w + 1 - 2 ^ Nat.log2 (w + 1))) (nI D) (nI T) (nI N) st le sl fr (d + 1) (nI (wr_m (w + 1) i - 2 ^ i)) (nI i) := by
    intro d
    induction d with
    | zero =>
      intro i hi
      have e : i = Nat.log2 (w + 1) := by omega
      have b := wr_mb (w + 1) i
      refine br_t (nI_le (by omega) (by omega)) ?_
      rw [wr_st (by omega), ← e, show 2 ^ i + (wr_m (w + 1) i - 2 ^ i) - 1 = wr_m (w + 1) i - 1 by omega, e]
      exact hp
    | succ d ih =>
      intro i hi
      have b := wr_mb (w + 1) i
      have b2 := wr_mb (w + 1) (i + 1)
      have y := wr_y3 r (show i < Nat.log2 (w + 1) by omega)
      have e1 : 2 ^ (i + 1) = 2 ^ i * 2 := Nat.pow_succ ..
      have e2 : nI (wr_m (w + 1) i - 2 ^ i) * 2 = nI ((wr_m (w + 1) i - 2 ^ i) * 2) := pk_mul _ 2
      have e3 : (w + 1 - 2 ^ Nat.log2 (w + 1)) / 2 ^ i ≤ w + 1 - 2 ^ Nat.log2 (w + 1) := Nat.div_le_self _ _
      have e4 : wr_m (w + 1) (i + 1) = wr_m (w + 1) i * 2 + (w + 1) / 2 ^ i % 2 := rfl
      refine br_f (nI_ge (by omega) (by omega)) (nm_r (e' := nI (wr_m (w + 1) (i + 1) - 2 ^ (i + 1))) ?_ (nm_r (nI_1 i) (ih (i + 1) (by omega))))
      rw [e2, wr_shr (by omega) (by omega), wr_and1 (Nat.lt_of_le_of_lt e3 (by omega)), y, nI_add]
      refine congrArg nI ?_
      generalize (w + 1) / 2 ^ i % 2 = x at e4 ⊢
      omega
  exact Exists.intro _ (key _ 0 (Nat.zero_add _))
theorem wy_reverse {post : Int32 → SY → Prop} (hD1 : 1 ≤ D) (hD : D ≤ 8) {A : Nat → Prop} (hA : wr_Y ((D - 1) * 255) st A)
    (hp : ∀ a f, wr_Y ((D - 1) * 255) a (fun c => A (wr_mi c)) → (∀ j, j < (D - 1) * 255 → a j = st j) → post (nI D) (nI D, nI T, nI N, a, le, sl, f)) : wpY_reverse post (nI D, nI T, nI N, st, le, sl, fr) := by
  refine br_f (nI_ne0 hD1 (by omega)) (pk_loop (fun n i f => wY_reverse_12 post (nI D) (nI T) (nI N) n (nI i) st le sl f) (fun i f => wr_f i f (fun c => A (wr_mi c))) 255 0 fr (by decide) wr_f_0 ?_ ?_)
  · exact fun n f h => br_t (nI_le (a := 255) (b := 255) (Nat.le_refl _) (by decide)) (wy_toTop hD1 hD h (fun a h1 h2 => hp a f h1 h2))
  · intro n i f hi h hk
    have b1 := wr_mi1 (i + 1)
    have b2 := wr_miM (c := i + 1) (N := 7) (by omega) (show i + 1 < 256 by omega)
    obtain ⟨m, hm⟩ : ∃ m, wr_mi (i + 1) = m + 1 := ⟨wr_mi (i + 1) - 1, by omega⟩
    refine br_f (nI_ge (b := 255) hi (by decide)) (wy_mirrored hi ?_)
    rw [hm, Nat.add_sub_cancel]
    refine wy_inTop hD1 hD hA (w := m) (by omega) ⟨vp_in_nI hi (by decide), nm_r (e' := upd f i (wr_d (A (wr_mi (i + 1))))) ?_ (nm_r (nI_1 i) (hk _ (wr_f_s h)))⟩
    rw [wr_dv, nI_clamp (by omega), hm]
theorem wy_store {post : Int32 → SY → Prop} (hD1 : 1 ≤ D) (hD : D ≤ 8) {j : Nat} (hj : j < 3) {A : Nat → Prop} (hA : wr_Y ((D - 1) * 255) st A)
    (hp : ∀ a, wr_Y (j * 255) a A → (∀ k, k < j * 255 → a k = sl k) → (∀ k, j * 255 + 255 ≤ k → a k = sl k) → post (nI (D - 1)) (nI (D - 1), nI T, nI N, st, le, a, fr)) : wpY_store post (nI D, nI T, nI N, st, le, sl, fr) (nI j) := by
  refine br_f (nI_pos (by omega)) (br_t (nI_le (b := 2) (by omega) (by decide)) (br_f (nI_ne0 hD1 (by omega)) ?_))
  refine pk_loop (fun n i a => wY_store_23 post (nI j) (nI D) (nI T) (nI N) n (nI i) st le a fr) (fun i a => (∀ w, w < i → a (j * 255 + w) = wr_d (A (w + 1))) ∧ (∀ k, k < j * 255 → a k = sl k) ∧ (∀ k, j * 255 + 255 ≤ k → a k = sl k)) 255 0 sl (by decide) ⟨fun w h => absurd h (Nat.not_lt_zero w), fun _ _ => rfl, fun _ _ => rfl⟩ ?_ ?_
  · exact fun n a h => br_t (nI_le (a := 255) (b := 255) (Nat.le_refl _) (by decide)) (nm_r (wr_sub1 hD1) (hp a h.1 h.2.1 h.2.2))
  · intro n i a hi ⟨h1, h2, h3⟩ hk
    have hx := wr_ix (o := j * 255) (w := i) (n := 765) (by omega) (by decide)
    have e : nI j * 255 = nI (j * 255) := pk_mul j 255
    refine br_f (nI_ge (b := 255) hi (by decide)) (wy_inTop hD1 hD hA hi ?_)
    rw [e, hx.2, wr_dv]
    refine ⟨hx.1, nm_e (nm_r (nI_1 i) (hk _ ⟨?_, fun k hk => (pk_un (by omega)).trans (h2 k hk), fun k hk => (pk_un (by omega)).trans (h3 k hk)⟩))⟩
    intro w hw
    by_cases e : w = i
    · rw [e, pk_us]
    · rw [pk_un (by omega)]
      exact h1 w (by omega)
end
