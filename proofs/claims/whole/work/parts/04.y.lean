section
variable {V R H M D K C O h m l k : Nat → Int32}
theorem ae_Ytx1 {post : Int32 → Prop} {j : Nat} (hj : j < 3) (p : post 1) : wpY_isTransaction post (V, R, h, m, l, k, C, O) (nI j) :=
  br_f (nI_pos (by omega)) (br_f (nI_ge (b := 3) hj (by decide)) p)
theorem ae_Ytx0 {post : Int32 → Prop} {t : Int32} (ht : t < 0 ∨ 3 ≤ t) (p : post 0) : wpY_isTransaction post (V, R, h, m, l, k, C, O) t := by
  by_cases z : t < 0
  · exact br_t z p
  · exact br_f z (br_t (ht.resolve_left z) p)
theorem ae_Yri0 {post : Int32 → Prop} {t : Int32} (ht : t < 0 ∨ 3 ≤ t) (p : post (-1)) : wpY_refusal post (V, R, h, m, l, k, C, O) t := by
  unfold wpY_refusal
  exact ae_Ytx0 ht (br_t rfl p)
theorem ae_Yri1 {post : Int32 → Prop} {j : Nat} (hj : j < 3) (hR : R j = 0) (p : post (-2)) : wpY_refusal post (V, R, h, m, l, k, C, O) (nI j) := by
  unfold wpY_refusal
  exact ae_Ytx1 hj (br_f ae_10 ⟨ae_3 hj, br_t (by rw [ae_cl (by omega)]; exact hR) p⟩)
theorem ae_Yri2 {post : Int32 → Prop} {j : Nat} (hj : j < 3) (hR : R j = 1) (p : post 0) : wpY_refusal post (V, R, h, m, l, k, C, O) (nI j) := by
  unfold wpY_refusal
  exact ae_Ytx1 hj (br_f ae_10 ⟨ae_3 hj, br_f (by rw [ae_cl (by omega), hR]; decide) p⟩)
theorem ae_Ysz_l {post : Int32 → Prop} {s : Int32} (p : post (ae_pc s 16)) : ∀ d i : Nat, i + d = 16 → wY_size_4 post s V R h m l k C O (d + 1) (ae_pc s i) (nI i) := by
  intro d
  induction d with
  | zero =>
    intro i hi
    obtain rfl : i = 16 := by omega
    exact br_t (nI_le (a := 16) (b := 16) (by omega) (by decide)) p
  | succ d ih =>
    intro i hi
    exact br_f (nI_ge (b := 16) (by omega) (by decide)) (nm_r (e' := ae_pc s (i + 1)) rfl (nm_r (nI_1 i) (ih (i + 1) (by omega))))
theorem ae_Ysz {post : Int32 → Prop} {s : Int32} (p : post (ae_pc s 16)) : wpY_size post (V, R, h, m, l, k, C, O) s :=
  ⟨17, ae_Ysz_l p 16 0 rfl⟩
theorem ae_Ycp_l {post : Int32 → Prop} (p : post (ae_cr R 3)) : ∀ d i : Nat, i + d = 3 → wY_checkpoint_4 post V R h m l k C O (d + 1) (ae_cr R i) (nI i) := by
  intro d
  induction d with
  | zero =>
    intro i hi
    obtain rfl : i = 3 := by omega
    exact br_t (nI_le (a := 3) (b := 3) (by omega) (by decide)) p
  | succ d ih =>
    intro i hi
    have g := ih (i + 1) (by omega)
    by_cases z : R i = 0
    · rw [show ae_cr R (i + 1) = ae_cr R i from if_pos z] at g
      exact br_f (nI_ge (b := 3) (by omega) (by decide)) ⟨ae_3 (by omega), br_t (by rw [ae_cl (by omega)]; exact z) (nm_r (nI_1 i) g)⟩
    · exact br_f (nI_ge (b := 3) (by omega) (by decide)) ⟨ae_3 (by omega), br_f (by rw [ae_cl (by omega)]; exact z) (nm_r (e' := ae_cr R (i + 1)) (if_neg z).symm (nm_r (nI_1 i) g))⟩
theorem ae_Ycp {post : Int32 → Prop} (p : post (ae_cr R 3)) : wpY_checkpoint post (V, R, h, m, l, k, C, O) :=
  ⟨4, ae_Ycp_l p 3 0 rfl⟩
theorem ae_Yho {post : Int32 → Prop} {i : Nat} (hi : i < 3) (hT : ae_T R H M D K h m l k i) (p : post (H i)) : wpY_holds post (V, R, h, m, l, k, C, O) (nI i) := by
  unfold wpY_holds
  refine ae_Ytx1 hi (br_f ae_10 ⟨ae_3 hi, ?_⟩)
  rw [ae_cl (by omega)]
  rcases hT with ⟨hR, hH, _⟩ | ⟨hR, hh, _⟩
  · rw [hH] at p
    exact br_t hR p
  · rw [← hh] at p
    exact br_f (by rw [hR]; decide) ⟨ae_3 hi, p⟩
theorem ae_Ytb_l {post : Int32 → SY → Prop} {j c : Nat} (hj : j < 3) (hC : ae_C C) : ∀ (n : Nat) (V l : Nat → Int32) (q : Nat), c + n ≤ 20 → l j = nI (c + n) →
    (∀ l' : Nat → Int32, l' j = nI c → (∀ i, i ≠ j → l' i = l i) → post (nI (q + n)) (ae_tb C O (j * 20 + c) n V, R, h, m, l', k, C, O)) → wY_takeBack_2 post (nI j) (nI c) (n + 1) (nI q) V R h m l k C O := by
  intro n
  induction n with
  | zero =>
    intro V l q hn hl p
    refine ⟨ae_3 hj, br_t ?_ (p l hl (fun _ _ => rfl))⟩
    rw [ae_cl (by omega), hl]
    exact nI_le (by omega) (by omega)
  | succ n ih =>
    intro V l q hn hl p
    have hs : j * 20 + c + n < 60 := by omega
    obtain ⟨z, hz, ez⟩ := hC _ hs
    have es : nI j * 20 + nI (c + n) = nI (j * 20 + c + n) := by rw [ae_sl, Nat.add_assoc]
    have i60 : vp_in (nI (j * 20 + c + n)) 60 := vp_in_nI hs (by decide)
    have hl' : l j - 1 = nI (c + n) := by
      rw [hl]
      exact nI_pred (c + n)
    refine ⟨ae_3 hj, br_f ?_ ⟨ae_3 hj, ae_3 hj, nm_r (e' := upd l j (nI (c + n))) (by rw [ae_cl (by omega), hl']) ?_⟩⟩
    · rw [ae_cl (by omega), hl]
      exact nI_ge (by omega) (by omega)
    rw [ae_cl (show j < 60 by omega), pk_us, es, ae_cl hs]
    refine ⟨ae_3 hj, i60, ae_3 hj, i60, by rw [ez]; exact vp_in_nI hz (by decide), nm_e (nm_r (nI_1 q) ?_)⟩
    refine ih _ _ _ (by omega) pk_us (fun l' h1 h2 => ?_)
    rw [show q + 1 + n = q + (n + 1) by omega]
    exact p l' h1 (fun i e => (h2 i e).trans (pk_un e))
theorem ae_Ytb {post : Int32 → SY → Prop} {j b c : Nat} (hj : j < 3) (hC : ae_C C) (hl : l j = nI b) (hc : c ≤ b) (hb : b ≤ 20)
    (p : ∀ l' : Nat → Int32, l' j = nI c → (∀ i, i ≠ j → l' i = l i) → post (nI (b - c)) (ae_tb C O (j * 20 + c) (b - c) V, R, h, m, l', k, C, O)) : wpY_takeBack post (V, R, h, m, l, k, C, O) (nI j) (nI c) := by
  refine ⟨b - c + 1, ae_Ytb_l hj hC (b - c) V l 0 (by omega) (by rw [show c + (b - c) = b by omega]; exact hl) ?_⟩
  rw [Nat.zero_add]
  exact p
theorem ae_Yab0 {post : Int32 → SY → Prop} {t : Int32} (ht : t < 0 ∨ 3 ≤ t) (p : post (-1) (V, R, h, m, l, k, C, O)) : wpY_abort post (V, R, h, m, l, k, C, O) t := by
  unfold wpY_abort
  exact ae_Yri0 ht (br_f (by decide) p)
theorem ae_Yab1 {post : Int32 → SY → Prop} {j : Nat} (hj : j < 3) (hR : R j = 0) (p : post (-2) (V, R, h, m, l, k, C, O)) : wpY_abort post (V, R, h, m, l, k, C, O) (nI j) := by
  unfold wpY_abort
  exact ae_Yri1 hj hR (br_f (by decide) p)
theorem ae_Yab2 {post : Int32 → SY → Prop} {j b : Nat} (hj : j < 3) (hC : ae_C C) (hR : R j = 1) (hl : l j = nI b) (hb : b ≤ 20)
    (p : ∀ l' : Nat → Int32, (∀ i, i ≠ j → l' i = l i) → post (ae_pc (h j) 16) (ae_tb C O (j * 20) b V, upd R j 0, h, m, l', k, C, O)) : wpY_abort post (V, R, h, m, l, k, C, O) (nI j) := by
  unfold wpY_abort
  refine ae_Yri2 hj hR (br_t (by decide) ?_)
  refine ae_Ytb (c := 0) hj hC hl (by omega) hb (fun l' _ h2 => ?_)
  dsimp only
  rw [ae_cl (show j < 60 by omega), ae_nb0]
  exact ⟨ae_3 hj, nm_e ⟨ae_3 hj, ae_Ysz (p l' h2)⟩⟩
theorem ae_Ycs {post : Int32 → SY → Prop} {x : Int32} {n i b : Nat} (hi : i < 3) (hC : ae_C C) (hT : ae_T R H M D K h m l k i) (hD : D i = nI b) (hb : b ≤ 20)
    (p : ∀ l' : Nat → Int32, (∀ q, q ≠ i → l' q = l q) → wY_crash_7 post x n (nI (i + 1)) (ae_tb C O (i * 20) b V) (upd R i 0) h m l' k C O) :
    wY_crash_7 post x (n + 1) (nI i) V R h m l k C O := by
  refine br_f (nI_ge (b := 3) hi (by decide)) ?_
  rcases hT with ⟨hR, _, _, hD', _⟩ | ⟨hR, _, a, b', c, _, _, _, _, _, hD', hl, _⟩
  · refine ae_Yab1 hi hR (nm_r (nI_1 i) ?_)
    have e : b = 0 := (nI_eq (a := b) (b := 0) (by omega) (by omega)).mp (hD.symm.trans hD')
    subst e
    have g := p l (fun _ _ => rfl)
    rw [ae_ue hR] at g
    exact g
  · have e : b = b' := by
      by_cases z : b' < 2 ^ 31
      · exact (nI_eq (by omega) z).mp (hD.symm.trans hD')
      · omega
    subst e
    exact ae_Yab2 hi hC hR hl hb (fun l' h2 => nm_r (nI_1 i) (p l' h2))
end
