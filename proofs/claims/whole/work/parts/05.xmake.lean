/-! 05: X's makers: alt, repetition, reverse, store -/
section
variable {N D T : Nat} {st le sl : Nat → Int32}
theorem wx_alt {post : Int32 → SX → Prop} (hN : N ≤ 7) (hD2 : 2 ≤ D) (hD : D ≤ 8) {A B : Nat → Prop} (hA : wr_X (2 ^ (N + 1)) ((D - 2) * 256) st A) (hB : wr_X (2 ^ (N + 1)) ((D - 1) * 256) st B)
    (hp : ∀ a, wr_X (2 ^ (N + 1)) ((D - 2) * 256) a (fun c => A c ∨ B c) → wr_fr ((D - 2) * 256) st a → post (nI (D - 1)) (nI N, nI (D - 1), nI T, a, upd le (D - 2) (le (D - 2) + le (D - 1)), sl)) : wpX_alt post (nI N, nI D, nI T, st, le, sl) := by
  have hM := wr_256 hN
  have eo : (D - 1) * 256 = (D - 2) * 256 + 256 := by omega
  refine br_t (nI_le (a := 2) hD2 (by omega)) (wx_top (by omega) (nm_r (e' := nI ((D - 2) * 256)) ?_ ?_))
  · exact (pk_sub (b := 256) (by omega)).trans (congrArg nI (by omega))
  rw [eo] at hB ⊢
  have ho2 : (D - 2) * 256 + 512 ≤ 2048 := by omega
  generalize ho : (D - 2) * 256 = o at hA hB hp ho2 ⊢
  refine pk_loop (fun n i a => wX_alt_24 post (nI (o + 256)) (nI o) (nI N) (nI D) (nI T) n (nI i) a le sl) (fun i a => 1 ≤ i ∧ wr_X (2 ^ (N + 1)) o a (wr_mix (fun c => c < i) (fun c => A c ∨ B c) A) ∧ wr_fr o st a) (2 ^ (N + 1)) 1 st (Nat.two_pow_pos _) ⟨Nat.le_refl _, ?_, wr_fr0⟩ ?_ ?_
  · exact wr_Xc hA fun c h _ => wr_mf (by omega)
  · intro n a ⟨_, h2, h3⟩
    refine br_t ?_ (wx_merge hD2 hD (hp a (wr_Xc h2 fun c _ h => (wr_mt1 (R := fun c => c < 2 ^ (N + 1)) (G := fun c => A c ∨ B c) h).symm) h3))
    rw [wr_shl2 (by omega)]
    exact nI_le (Nat.le_refl _) (by omega)
  · intro n w a hw ⟨h2, h3, h4⟩ hk
    have hx := wr_ix (o := o) (w := w) (n := 2048) (by omega) (by decide)
    have hy := wr_ix (o := o + 256) (w := w) (n := 2048) (by omega) (by decide)
    have ha : a (o + w) = wr_d (A w) := (h3 w h2 hw).trans (wr_dc (wr_mf (by omega)))
    have hb : a (o + 256 + w) = wr_d (B w) := (h4.2 _ (by omega)).trans (hB w h2 hw)
    have hn : wX_alt_24 post (nI (o + 256)) (nI o) (nI N) (nI D) (nI T) n (nI (w + 1)) (upd a (o + w) (wr_d (A w ∨ B w))) le sl := hk _ ⟨by omega, wr_mxu h3 Iff.rfl (Nat.lt_succ_self w) (fun c e => by omega), wr_fru h4 (by omega)⟩
    refine br_f ?_ ⟨hx.1, ?_⟩
    · rw [wr_shl2 (by omega)]
      exact nI_ge hw (by omega)
    rw [hx.2, ha]
    refine wr_cb (fun q => ⟨hy.1, ?_⟩) (fun q => ⟨hx.1, nm_r (e' := upd a (o + w) (wr_d (A w ∨ B w))) (by rw [wr_v1, wr_dt (Or.inl q)]) (nm_r (nI_1 w) hn)⟩)
    rw [hy.2, hb]
    exact wr_cb (fun q2 => ⟨hx.1, nm_r (e' := upd a (o + w) (wr_d (A w ∨ B w))) (by rw [wr_v0, wr_df (fun z => z.elim q q2)]) (nm_r (nI_1 w) hn)⟩) (fun q2 => ⟨hx.1, nm_r (e' := upd a (o + w) (wr_d (A w ∨ B w))) (by rw [wr_v1, wr_dt (Or.inr q2)]) (nm_r (nI_1 w) hn)⟩)
theorem wx_rep_in {post : SX → Prop} {J : Int32 → (Nat → Int32) → (Nat → Int32) → (Nat → Int32) → Prop} (hN : N ≤ 7) {A : Nat → Prop} {o l : Nat} (ho : o + 256 ≤ 2048) (hl2 : 2 ≤ l) (hl : l ≤ N) {a : Nat → Int32}
    (h0 : wr_X (2 ^ (N + 1)) o a (wr_mix (fun c => c < 2 ^ l) (wr_P A) A)) (h1 : wr_fr o st a)
    (hJ : ∀ a, wr_X (2 ^ (N + 1)) o a (wr_mix (fun c => c < 2 ^ (l + 1)) (wr_P A) A) → wr_fr o st a → J (nI l + 1) a le sl) : ∃ n, wX_repeatTop_19 post J (nI o) (nI l) (nI N) (nI D) (nI T) n (nI (2 ^ l)) a le sl := by
  have hM := wr_256 hN
  have hq := wr_pw (show l + 1 ≤ N + 1 by omega)
  have e2 : 2 ^ (l + 1) = 2 ^ l * 2 := Nat.pow_succ ..
  have p2 := Nat.two_pow_pos l
  refine pk_loop (fun n i a => wX_repeatTop_19 post J (nI o) (nI l) (nI N) (nI D) (nI T) n (nI i) a le sl) (fun i a => 2 ^ l ≤ i ∧ wr_X (2 ^ (N + 1)) o a (wr_mix (fun c => c < i) (wr_P A) A) ∧ wr_fr o st a) (2 ^ (l + 1)) (2 ^ l) a (by omega) ⟨Nat.le_refl _, h0, h1⟩ ?_ ?_
  · intro n a ⟨_, h2, h3⟩
    refine br_t ?_ (nm_e (hJ a h2 h3))
    rw [wr_shl2 (by omega)]
    exact nI_le (Nat.le_refl _) (by omega)
  · intro n w a hw ⟨h2, h3, h4⟩ hk
    have hg : Nat.log2 w = l := wr_lg h2 hw
    have hx := wr_ix (o := o) (w := w) (n := 2048) (by omega) (by decide)
    have ha : a (o + w) = wr_d (A w) := (h3 w (by omega) (by omega)).trans (wr_dc (wr_mf (by omega)))
    have hE : wr_P A w ↔ (A w ∨ ∃ t, 1 ≤ t ∧ t < l - 1 + 1 ∧ wr_P A (w / 2 ^ t) ∧ wr_P A (2 ^ t + w % 2 ^ t)) := by
      rw [wr_PX (by omega), hg, show l - 1 + 1 = l by omega]
    generalize hEE : (∃ t, 1 ≤ t ∧ t < l - 1 + 1 ∧ wr_P A (w / 2 ^ t) ∧ wr_P A (2 ^ t + w % 2 ^ t)) = E at hE
    have hn : wX_repeatTop_19 post J (nI o) (nI l) (nI N) (nI D) (nI T) n (nI (w + 1)) (upd a (o + w) (wr_d (A w ∨ E))) le sl := hk _ ⟨by omega, wr_mxu h3 hE (Nat.lt_succ_self w) (fun c e => by omega), wr_fru h4 (by omega)⟩
    refine br_f ?_ ⟨hx.1, ?_⟩
    · rw [wr_shl2 (by omega)]
      exact nI_ge hw (by omega)
    rw [hx.2, ha, wr_sub1 (show 1 ≤ l by omega)]
    refine wr_cb (fun q => wx_split (A := wr_P A) (B := wr_P A) (s := 1) (by omega) (by omega) (by omega) (by omega) (by omega) ?_ ?_ ?_) (fun q => ⟨hx.1, nm_r (e' := upd a (o + w) (wr_d (A w ∨ E))) (by rw [wr_v1, wr_dt (Or.inl q)]) (nm_r (nI_1 w) hn)⟩)
    · intro t ht1 ht
      have b1 := wr_hd1 (c := w) (t := t) (by omega) (by omega)
      have b3 := wr_hdl (c := w) (t := t) (l := l) (by omega) hw
      rw [h3 (w / 2 ^ t) b1 (by omega)]
      exact wr_dc (wr_mt1 (R := fun c => c < w) (by omega))
    · intro t ht1 ht
      have b1 := wr_tlt w t
      have b2 := wr_pw (show t + 1 ≤ l by omega)
      have b3 := wr_tl1 w t
      rw [h3 _ b3 (by omega)]
      exact wr_dc (wr_mt1 (R := fun c => c < w) (by omega))
    · rw [hEE]
      exact wr_cb (fun q2 => ⟨hx.1, nm_r (e' := upd a (o + w) (wr_d (A w ∨ E))) (by rw [wr_v0, wr_df (fun z => z.elim q q2)]) (nm_r (nI_1 w) hn)⟩) (fun q2 => ⟨hx.1, nm_r (e' := upd a (o + w) (wr_d (A w ∨ E))) (by rw [wr_v1, wr_dt (Or.inr q2)]) (nm_r (nI_1 w) hn)⟩)
theorem wx_repeat {post : SX → Prop} (hN1 : 1 ≤ N) (hN : N ≤ 7) (hD1 : 1 ≤ D) (hD : D ≤ 8) {A : Nat → Prop} (hA : wr_X (2 ^ (N + 1)) ((D - 1) * 256) st A)
    (hp : ∀ a, wr_X (2 ^ (N + 1)) ((D - 1) * 256) a (wr_P A) → wr_fr ((D - 1) * 256) st a → post (nI N, nI D, nI T, a, le, sl)) : wpX_repeatTop post (nI N, nI D, nI T, st, le, sl) := by
  unfold wpX_repeatTop
  dsimp only
  refine wx_top hD1 ?_
  have ho2 : (D - 1) * 256 + 256 ≤ 2048 := by omega
  generalize ho : (D - 1) * 256 = o at hA hp ho2 ⊢
  refine pk_loop (fun n i a => wX_repeatTop_7 post (nI o) (nI N) (nI D) (nI T) n (nI i) a le sl) (fun i a => 2 ≤ i ∧ wr_X (2 ^ (N + 1)) o a (wr_mix (fun c => c < 2 ^ i) (wr_P A) A) ∧ wr_fr o st a) (N + 1) 2 st (by omega) ⟨Nat.le_refl _, ?_, wr_fr0⟩ ?_ ?_
  · refine wr_Xc hA fun c h _ => ?_
    by_cases e : c < 2 ^ 2
    · exact (wr_mt1 (R := fun c => c < 2 ^ 2) e).trans (wr_P1 (wr_lgN (N := 1) h e))
    · exact wr_mf (R := fun c => c < 2 ^ 2) e
  · intro n a ⟨_, h2, h3⟩
    exact br_t (nI_lt (Nat.lt_succ_self N) (by omega)) (hp a (wr_Xc h2 fun c _ h => (wr_mt1 (R := fun c => c < 2 ^ (N + 1)) h).symm) h3)
  · intro n l a hl ⟨h2, h3, h4⟩ hk
    refine br_f (nI_nlt (by omega) (by omega)) (nm_r (wr_shl1 (by omega)) (wx_rep_in hN ho2 h2 (by omega) h3 h4 fun a h5 h6 => ?_))
    rw [nI_1]
    exact hk a ⟨by omega, h5, h6⟩
theorem wr_addE {M o : Nat} {a : Nat → Int32} {A : Nat → Prop} (h : wr_X M o a A) : wr_X M o (upd a (o + 1) 1) (fun c => c = 1 ∨ A c) := by
  rw [← wr_T]
  exact wr_Xu h ⟨fun _ => trivial, fun _ => Or.inl rfl⟩ (fun c _ _ e => ⟨fun z => z.elim (fun y => absurd y e) id, Or.inr⟩)
theorem wx_star {post : Int32 → SX → Prop} (hN1 : 1 ≤ N) (hN : N ≤ 7) (hD1 : 1 ≤ D) (hD : D ≤ 8) {A : Nat → Prop} (hA : wr_X (2 ^ (N + 1)) ((D - 1) * 256) st A)
    (hp : ∀ a, wr_X (2 ^ (N + 1)) ((D - 1) * 256) a (fun c => c = 1 ∨ wr_P A c) → wr_fr ((D - 1) * 256) st a → post (nI D) (nI N, nI D, nI T, a, le, sl)) : wpX_star post (nI N, nI D, nI T, st, le, sl) :=
  br_t (nI_le (a := 1) hD1 (by omega)) (wx_repeat hN1 hN hD1 hD hA fun _ h1 h2 => wx_addE hD1 hD (hp _ (wr_addE h1) (wr_fru h2 (by decide))))
theorem wx_plus {post : Int32 → SX → Prop} (hN1 : 1 ≤ N) (hN : N ≤ 7) (hD1 : 1 ≤ D) (hD : D ≤ 8) {A : Nat → Prop} (hA : wr_X (2 ^ (N + 1)) ((D - 1) * 256) st A)
    (hp : ∀ a, wr_X (2 ^ (N + 1)) ((D - 1) * 256) a (wr_P A) → wr_fr ((D - 1) * 256) st a → post (nI D) (nI N, nI D, nI T, a, le, sl)) : wpX_plus post (nI N, nI D, nI T, st, le, sl) :=
  br_t (nI_le (a := 1) hD1 (by omega)) (wx_repeat hN1 hN hD1 hD hA hp)
theorem wx_opt {post : Int32 → SX → Prop} (hD1 : 1 ≤ D) (hD : D ≤ 8) {A : Nat → Prop} (hA : wr_X (2 ^ (N + 1)) ((D - 1) * 256) st A)
    (hp : ∀ a, wr_X (2 ^ (N + 1)) ((D - 1) * 256) a (fun c => c = 1 ∨ A c) → wr_fr ((D - 1) * 256) st a → post (nI D) (nI N, nI D, nI T, a, le, sl)) : wpX_opt post (nI N, nI D, nI T, st, le, sl) :=
  br_t (nI_le (a := 1) hD1 (by omega)) (wx_addE hD1 hD (hp _ (wr_addE hA) (wr_fru wr_fr0 (by decide))))
theorem wx_mirror {post : Int32 → Prop} {w l : Nat} (hw : w < 256) (hl : l ≤ 7) (hp : post (nI (wr_m w l))) : wpX_mirror post (nI w) (nI l) := by
  have key : ∀ d i, i + d = l → wX_mirror_4 post (nI w) (nI l) (d + 1) (nI (wr_m w i)) (nI i) := by
    intro d
    induction d with
    | zero =>
      intro i hi
      have e : i = l := by omega
      subst e
      exact br_t (nI_le (Nat.le_refl _) (by omega)) hp
    | succ d ih =>
      intro i hi
      have b := (wr_mb w i).2
      have b2 := wr_256 (N := i) (by omega)
      have e : nI (wr_m w i) <<< ((1 : Int32) &&& 31) = nI (wr_m w i * 2) := wr_shl (t := 1) (by decide) (by omega)
      have e3 : w / 2 ^ i ≤ w := Nat.div_le_self _ _
      refine br_f (nI_ge (by omega) (by omega)) (nm_r ?_ (nm_r (nI_1 i) (ih (i + 1) (by omega))))
      rw [e, wr_shr (by omega) (by omega), wr_and1 (by omega), nI_add]
      rfl
  exact Exists.intro _ (key l 0 (by omega))
theorem wx_rev_in {post : Int32 → SX → Prop} {J : Int32 → (Nat → Int32) → (Nat → Int32) → (Nat → Int32) → Prop} (hN : N ≤ 7) {A : Nat → Prop} {o l : Nat} (ho : o + 256 ≤ 2048) (hl2 : 2 ≤ l) (hl : l ≤ N) {a : Nat → Int32}
    (h0 : wr_X (2 ^ (N + 1)) o a (wr_mix (fun c => c < 2 ^ l ∨ wr_mi c < 2 ^ l) (fun c => A (wr_mi c)) A)) (h1 : wr_fr o st a)
    (hJ : ∀ a, wr_X (2 ^ (N + 1)) o a (wr_mix (fun c => c < 2 ^ (l + 1) ∨ wr_mi c < 2 ^ (l + 1)) (fun c => A (wr_mi c)) A) → wr_fr o st a → J (nI l + 1) a le sl) : ∃ n, wX_reverse_30 post J (nI o) (nI l) (nI N) (nI D) (nI T) n (nI (2 ^ l)) a le sl := by
  have hM := wr_256 hN
  have hq := wr_pw (show l + 1 ≤ N + 1 by omega)
  have e2 : 2 ^ (l + 1) = 2 ^ l * 2 := Nat.pow_succ ..
  have p2 := Nat.two_pow_pos l
  refine pk_loop (fun n i a => wX_reverse_30 post J (nI o) (nI l) (nI N) (nI D) (nI T) n (nI i) a le sl) (fun i a => 2 ^ l ≤ i ∧ wr_X (2 ^ (N + 1)) o a (wr_mix (fun c => c < i ∨ wr_mi c < i) (fun c => A (wr_mi c)) A) ∧ wr_fr o st a) (2 ^ (l + 1)) (2 ^ l) a (by omega) ⟨Nat.le_refl _, h0, h1⟩ ?_ ?_
  · intro n a ⟨_, h2, h3⟩
    refine br_t ?_ (nm_e (hJ a h2 h3))
    rw [wr_shl2 (by omega)]
    exact nI_le (Nat.le_refl _) (by omega)
  · intro n w a hw ⟨h2, h3, h4⟩ hk
    have hg : Nat.log2 w = l := wr_lg h2 hw
    have hm : wr_m w l = wr_mi w := by unfold wr_mi; rw [hg]
    have hmm : wr_mi (wr_mi w) = w := wr_mm (by omega) (by omega)
    have hm1 : 1 ≤ wr_mi w := wr_mi1 w
    have hm2 : wr_mi w < 2 ^ (N + 1) := wr_miM (by omega) (by omega)
    have hx := wr_ix (o := o) (w := w) (n := 2048) (by omega) (by decide)
    have hy := wr_ix (o := o) (w := wr_mi w) (n := 2048) (by omega) (by decide)
    refine br_f ?_ (wx_mirror (by omega) (by omega) ?_)
    · rw [wr_shl2 (by omega)]
      exact nI_ge hw (by omega)
    rw [hm]
    refine pk_le (wr_mi w) w (fun hle => nm_r (nI_1 w) (hk a ⟨by omega, ?_, h4⟩)) (fun hgt => ⟨hx.1, ?_⟩)
    · refine wr_Xc h3 fun c c1 c2 => ?_
      by_cases e : c < w ∨ wr_mi c < w
      · exact (wr_mt1 (R := fun c => c < w + 1 ∨ wr_mi c < w + 1) (by omega)).trans (wr_mt1 (R := fun c => c < w ∨ wr_mi c < w) (G := fun c => A (wr_mi c)) e).symm
      · have hcc : wr_mi (wr_mi c) = c := wr_mm c1 (by omega)
        by_cases e1 : c < w + 1 ∨ wr_mi c < w + 1
        · have e5 : c = w := by
            rcases e1 with e1 | e1
            · omega
            · have e6 : wr_mi c = w := by omega
              rw [e6] at hcc
              omega
          have e7 : wr_mi c = c := by
            rw [e5] at e ⊢
            omega
          refine (wr_mt1 (R := fun c => c < w + 1 ∨ wr_mi c < w + 1) e1).trans (Iff.trans ?_ (wr_mf (R := fun c => c < w ∨ wr_mi c < w) e).symm)
          rw [e7]
        · exact (wr_mf (R := fun c => c < w + 1 ∨ wr_mi c < w + 1) e1).trans (wr_mf (R := fun c => c < w ∨ wr_mi c < w) e).symm
    · have ha : a (o + w) = wr_d (A w) := (h3 w (by omega) (by omega)).trans (wr_dc (wr_mf (R := fun c => c < w ∨ wr_mi c < w) (by omega)))
      have hb : a (o + wr_mi w) = wr_d (A (wr_mi w)) := (h3 _ hm1 hm2).trans (wr_dc (wr_mf (R := fun c => c < w ∨ wr_mi c < w) (by rw [hmm]; omega)))
      rw [hx.2, hy.2, ha, hb]
      refine nm_e ⟨hy.1, hx.1, nm_r (e' := upd a (o + w) (wr_d (A (wr_mi w)))) (by rw [wr_dv]) ⟨hy.1, nm_r (e' := upd (upd a (o + w) (wr_d (A (wr_mi w)))) (o + wr_mi w) (wr_d (A w))) (by rw [wr_dv]) (nm_r (nI_1 w) (hk _ ⟨by omega, ?_, wr_fru (wr_fru h4 (by omega)) (by omega)⟩))⟩⟩
      intro c c1 c2
      have hcc : wr_mi (wr_mi c) = c := wr_mm c1 (by omega)
      by_cases e : c = wr_mi w
      · rw [e, pk_us]
        refine wr_dc (Iff.symm (Iff.trans (wr_mt1 (R := fun c => c < w + 1 ∨ wr_mi c < w + 1) (by rw [hmm]; omega)) ?_))
        rw [hmm]
      · rw [pk_un (by omega)]
        by_cases e1 : c = w
        · rw [e1, pk_us]
          exact wr_dc (wr_mt1 (c := w) (R := fun c => c < w + 1 ∨ wr_mi c < w + 1) (G := fun c => A (wr_mi c)) (by omega)).symm
        · rw [pk_un (by omega), h3 c c1 c2]
          have e5 : wr_mi c ≠ w := fun z => e (by rw [← z]; exact hcc.symm)
          exact wr_dc (wr_mr (by omega))
theorem wx_reverse {post : Int32 → SX → Prop} (hN1 : 1 ≤ N) (hN : N ≤ 7) (hD1 : 1 ≤ D) (hD : D ≤ 8) {A : Nat → Prop} (hA : wr_X (2 ^ (N + 1)) ((D - 1) * 256) st A)
    (hp : ∀ a, wr_X (2 ^ (N + 1)) ((D - 1) * 256) a (fun c => A (wr_mi c)) → wr_fr ((D - 1) * 256) st a → post (nI D) (nI N, nI D, nI T, a, le, sl)) : wpX_reverse post (nI N, nI D, nI T, st, le, sl) := by
  have hM := wr_256 hN
  refine br_t (nI_le (a := 1) hD1 (by omega)) (wx_top hD1 ?_)
  have ho2 : (D - 1) * 256 + 256 ≤ 2048 := by omega
  generalize ho : (D - 1) * 256 = o at hA hp ho2 ⊢
  refine pk_loop (fun n i a => wX_reverse_18 post (nI o) (nI N) (nI D) (nI T) n (nI i) a le sl) (fun i a => 2 ≤ i ∧ wr_X (2 ^ (N + 1)) o a (wr_mix (fun c => c < 2 ^ i ∨ wr_mi c < 2 ^ i) (fun c => A (wr_mi c)) A) ∧ wr_fr o st a) (N + 1) 2 st (by omega) ⟨Nat.le_refl _, ?_, wr_fr0⟩ ?_ ?_
  · refine wr_Xc hA fun c h hc => ?_
    by_cases e : c < 2 ^ 2 ∨ wr_mi c < 2 ^ 2
    · have e7 : wr_mi c = c := by
        rcases e with e | e
        · exact wr_mi2 h e
        · have e8 := wr_mi2 (wr_mi1 c) e
          rw [wr_mm h (by omega)] at e8
          exact e8.symm
      refine (wr_mt1 (R := fun c => c < 2 ^ 2 ∨ wr_mi c < 2 ^ 2) e).trans ?_
      rw [e7]
    · exact wr_mf (R := fun c => c < 2 ^ 2 ∨ wr_mi c < 2 ^ 2) e
  · intro n a ⟨_, h2, h3⟩
    exact br_t (nI_lt (Nat.lt_succ_self N) (by omega)) (hp a (wr_Xc h2 fun c _ h => (wr_mt1 (R := fun c => c < 2 ^ (N + 1) ∨ wr_mi c < 2 ^ (N + 1)) (G := fun c => A (wr_mi c)) (Or.inl h)).symm) h3)
  · intro n l a hl ⟨h2, h3, h4⟩ hk
    refine br_f (nI_nlt (by omega) (by omega)) (nm_r (wr_shl1 (by omega)) (wx_rev_in hN ho2 h2 (by omega) h3 h4 fun a h5 h6 => ?_))
    rw [nI_1]
    exact hk a ⟨by omega, h5, h6⟩
theorem wx_store {post : Int32 → SX → Prop} (hN : N ≤ 7) (hD1 : 1 ≤ D) (hD : D ≤ 8) {j : Nat} (hj : j < 3) {A : Nat → Prop} (hA : wr_X (2 ^ (N + 1)) ((D - 1) * 256) st A)
    (hp : ∀ a, wr_X (2 ^ (N + 1)) (j * 256) a A → wr_fr (j * 256) sl a → post (nI (D - 1)) (nI N, nI (D - 1), nI T, st, le, a)) : wpX_store post (nI N, nI D, nI T, st, le, sl) (nI j) := by
  have hM := wr_256 hN
  refine br_f (nI_pos (by omega)) (br_t (nI_lt (b := 3) hj (by decide)) (br_t (nI_le (a := 1) hD1 (by omega)) (wx_top hD1 (nm_r (e' := nI (j * 256)) (pk_mul j 256) ?_))))
  have ho2 : (D - 1) * 256 + 256 ≤ 2048 := by omega
  have ho3 : j * 256 + 256 ≤ 768 := by omega
  generalize ho : (D - 1) * 256 = o at hA ho2 ⊢
  generalize hs : j * 256 = s at hp ho3 ⊢
  refine pk_loop (fun n i a => wX_store_36 post (nI o) (nI s) (nI N) (nI D) (nI T) n (nI i) st le a) (fun i a => 1 ≤ i ∧ (∀ c, 1 ≤ c → c < i → a (s + c) = wr_d (A c)) ∧ wr_fr s sl a) (2 ^ (N + 1)) 1 sl (Nat.two_pow_pos _) ⟨Nat.le_refl _, fun c a b => absurd b (by omega), wr_fr0⟩ ?_ ?_
  · intro n a ⟨_, h2, h3⟩
    refine br_t ?_ (nm_r (wr_sub1 hD1) (hp a h2 h3))
    rw [wr_shl2 (by omega)]
    exact nI_le (Nat.le_refl _) (by omega)
  · intro n w a hw ⟨h2, h3, h4⟩ hk
    have hx := wr_ix (o := o) (w := w) (n := 2048) (by omega) (by decide)
    have hy := wr_ix (o := s) (w := w) (n := 768) (by omega) (by decide)
    refine br_f ?_ ⟨hx.1, hy.1, nm_r (e' := upd a (s + w) (wr_d (A w))) ?_ (nm_r (nI_1 w) (hk _ ⟨by omega, ?_, wr_fru h4 (by omega)⟩))⟩
    · rw [wr_shl2 (by omega)]
      exact nI_ge hw (by omega)
    · rw [hx.2, hy.2, hA w h2 hw, wr_dv]
    · intro c c1 c2
      by_cases e : c = w
      · rw [e, pk_us]
      · rw [pk_un (by omega)]
        exact h3 c c1 (by omega)
end
