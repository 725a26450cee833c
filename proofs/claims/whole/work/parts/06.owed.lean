def i_Rel (k : Nat) (u : SX) (v : SY) : Prop := ae_R u v
theorem i_up {k : Nat} {u : SX} {v : SY} (h : i_Rel k u v) : i_Rel (k + 4) u v := h
theorem i_vc0 (k0 : Int32) : wpX_init (fun u => wpY_init (fun v => i_Rel 1 u v) k0) k0 :=
  ⟨fun _ => 0, fun _ => 0, fun _ => 0, fun _ => 0, fun _ => 0, fun _ => 0, fun _ => 0, fun _ => 0, fun _ => 0, fun _ => 0, fun _ => 0, fun _ => 0, rfl, rfl, fun _ _ => ⟨0, by decide, rfl⟩, fun _ _ => Or.inl ⟨rfl, rfl, rfl, rfl, rfl⟩⟩
theorem i_vc_begin {k : Nat} {u : SX} {v : SY} (I : i_Rel k u v) (hk : k + 4 ≤ 2049) (v1 : Int32) : wpX_begin (fun r u' => wpY_begin (fun r' v' => r' = r ∧ i_Rel (k + 4) u' v') v v1) u v1 := by
  have I' := I
  obtain ⟨V, R, H, M, D, K, C, O, h, m, l, q, rfl, rfl, hC, hT⟩ := I
  unfold wpX_begin
  rcases ae_tx v1 with ⟨ht, _⟩ | ⟨j, hj, rfl⟩
  · refine ae_Xtx0 ht (br_t rfl ?_)
    unfold wpY_begin
    exact ae_Ytx0 ht (br_t rfl ⟨rfl, I'⟩)
  refine ae_Xtx1 hj (br_f ae_10 ⟨ae_3 hj, ?_⟩)
  rw [ae_cl (by omega)]
  rcases hT j hj with ⟨hR, hH, hM, hD, hK⟩ | ⟨hR, _⟩
  · refine br_t hR ⟨ae_3 hj, nm_r (e' := upd R j 1) (by rw [ae_nb1]) ?_⟩
    unfold wpY_begin
    refine ae_Ytx1 hj (br_f ae_10 ⟨ae_3 hj, ?_⟩)
    rw [ae_cl (by omega)]
    refine br_t hR ⟨ae_3 hj, nm_r (e' := upd R j 1) (by rw [ae_nb1]) ⟨ae_3 hj, nm_e ⟨ae_3 hj, nm_e ⟨ae_3 hj, nm_e ⟨ae_3 hj, nm_e ⟨rfl, ?_⟩⟩⟩⟩⟩⟩
    refine ⟨_, _, _, _, _, _, _, _, _, _, _, _, rfl, rfl, hC, ?_⟩
    refine ae_keep (j := j) hT (fun _ e => pk_un e) (fun _ _ => rfl) (fun _ _ => rfl) (fun _ _ => rfl) (fun _ _ => rfl) (fun _ e => pk_un e) (fun _ e => pk_un e) (fun _ e => pk_un e) (fun _ e => pk_un e) ?_
    exact Or.inr ⟨pk_us, by rw [pk_us, hH], 0, 0, 0, by omega, by omega, by omega, hM, pk_us, hD, pk_us, hK, pk_us⟩
  · have n1 : ¬ R j = 0 := by rw [hR]; decide
    refine br_f n1 ?_
    unfold wpY_begin
    refine ae_Ytx1 hj (br_f ae_10 ⟨ae_3 hj, ?_⟩)
    rw [ae_cl (by omega)]
    exact br_f n1 ⟨rfl, I'⟩
theorem i_vc_write {k : Nat} {u : SX} {v : SY} (I : i_Rel k u v) (hk : k + 4 ≤ 2049) (v1 : Int32) (v2 : Int32) (v3 : Int32) : wpX_write (fun r u' => wpY_write (fun r' v' => r' = r ∧ i_Rel (k + 4) u' v') v v1 v2 v3) u v1 v2 v3 := by
  have I' := I
  obtain ⟨V, R, H, M, D, K, C, O, h, m, l, q, rfl, rfl, hC, hT⟩ := I
  unfold wpX_write
  rcases ae_W hC hT v1 v2 with ⟨r, hr, hX, hY⟩ | ⟨c, hc, _, hX, hw⟩
  · exact hX _ (br_f hr (hY _ _ ⟨rfl, I'⟩))
  · obtain ⟨r, u', v', hr, hS, hY⟩ := hw v3
    exact hX _ (br_t rfl (hS _ (hY _ ⟨rfl, hr⟩)))
theorem i_vc_add {k : Nat} {u : SX} {v : SY} (I : i_Rel k u v) (hk : k + 4 ≤ 2049) (v1 : Int32) (v2 : Int32) (v3 : Int32) : wpX_add (fun r u' => wpY_add (fun r' v' => r' = r ∧ i_Rel (k + 4) u' v') v v1 v2 v3) u v1 v2 v3 := by
  have I' := I
  obtain ⟨V, R, H, M, D, K, C, O, h, m, l, q, rfl, rfl, hC, hT⟩ := I
  unfold wpX_add
  rcases ae_W hC hT v1 v2 with ⟨r, hr, hX, hY⟩ | ⟨c, hc, rfl, hX, hw⟩
  · refine hX _ (br_f hr ?_)
    unfold wpY_add
    unfold wpY_read
    exact br_c (fun _ => nm_e (hY _ _ ⟨rfl, I'⟩)) (fun z => br_c (fun _ => nm_e (hY _ _ ⟨rfl, I'⟩)) (fun y => ⟨ae_i16 z y, nm_e (hY _ _ ⟨rfl, I'⟩)⟩))
  · obtain ⟨r, u', v', hr, hS, hY⟩ := hw (V c + v3)
    have ic : vp_in (nI c) 16 := vp_in_nI hc (by decide)
    refine hX _ (br_t rfl ⟨ic, ?_⟩)
    rw [ae_cl (by omega)]
    refine hS _ ?_
    unfold wpY_add
    unfold wpY_read
    dsimp only
    rw [ae_cl (by omega)]
    exact br_f (nI_pos (by omega)) (br_f (nI_ge (b := 16) hc (by decide)) ⟨ic, nm_e (hY _ ⟨rfl, hr⟩)⟩)
theorem i_vc_read {k : Nat} {u : SX} {v : SY} (I : i_Rel k u v) (hk : k + 4 ≤ 2049) (v1 : Int32) : wpX_read (fun r => wpY_read (fun r' => r' = r ∧ i_Rel (k + 4) u v) v v1) u v1 := by
  have I' := I
  obtain ⟨V, R, H, M, D, K, C, O, h, m, l, q, rfl, rfl, hC, hT⟩ := I
  unfold wpX_read
  rcases pk_ix v1 (n := 16) (by decide) with y | y | ⟨c, hc, rfl⟩
  · exact ae_Xce0 (Or.inl y) (br_t rfl (br_t y ⟨rfl, I'⟩))
  · have z : ¬ v1 < 0 := fun z => absurd (Int32.lt_of_le_of_lt y z) (by decide)
    exact ae_Xce0 (Or.inr y) (br_t rfl (br_f z (br_t y ⟨rfl, I'⟩)))
  · have ic : vp_in (nI c) 16 := vp_in_nI hc (by decide)
    exact ae_Xce1 hc (br_f ae_10 ⟨ic, br_f (nI_pos (by omega)) (br_f (nI_ge (b := 16) hc (by decide)) ⟨ic, rfl, I'⟩)⟩)
theorem i_vc_commit {k : Nat} {u : SX} {v : SY} (I : i_Rel k u v) (hk : k + 4 ≤ 2049) (v1 : Int32) : wpX_commit (fun r u' => wpY_commit (fun r' v' => r' = r ∧ i_Rel (k + 4) u' v') v v1) u v1 := by
  have I' := I
  obtain ⟨V, R, H, M, D, K, C, O, h, m, l, q, rfl, rfl, hC, hT⟩ := I
  unfold wpX_commit
  rcases ae_tx v1 with ⟨ht, _⟩ | ⟨j, hj, rfl⟩
  · refine ae_Xri0 ht (br_f (by decide) ?_)
    unfold wpY_commit
    exact ae_Yri0 ht (br_f (by decide) ⟨rfl, I'⟩)
  rcases hT j hj with ⟨hR, _⟩ | ⟨hR, hh, _⟩
  · refine ae_Xri1 hj hR (br_f (by decide) ?_)
    unfold wpY_commit
    exact ae_Yri1 hj hR (br_f (by decide) ⟨rfl, I'⟩)
  refine ae_Xri2 hj hR (br_t rfl (ae_Xch hj (ae_Xend hj ?_)))
  show wpY_commit _ _ _
  unfold wpY_commit
  refine ae_Yri2 hj hR (br_t (by decide) ?_)
  rw [ae_cl (by omega), ae_nb0, hh]
  refine ⟨ae_3 hj, nm_e ⟨ae_3 hj, ae_Ysz ⟨rfl, ?_⟩⟩⟩
  refine ⟨_, _, _, _, _, _, _, _, _, _, _, _, rfl, rfl, hC, ?_⟩
  refine ae_keep (j := j) hT (fun _ e => pk_un e) (fun _ e => pk_un e) (fun _ e => pk_un e) (fun _ e => pk_un e) (fun _ e => pk_un e) (fun _ _ => rfl) (fun _ _ => rfl) (fun _ _ => rfl) (fun _ _ => rfl) ?_
  exact Or.inl ⟨pk_us, pk_us, pk_us, pk_us, pk_us⟩
theorem i_vc_abort {k : Nat} {u : SX} {v : SY} (I : i_Rel k u v) (hk : k + 4 ≤ 2049) (v1 : Int32) : wpX_abort (fun r u' => wpY_abort (fun r' v' => r' = r ∧ i_Rel (k + 4) u' v') v v1) u v1 := by
  have I' := I
  obtain ⟨V, R, H, M, D, K, C, O, h, m, l, q, rfl, rfl, hC, hT⟩ := I
  unfold wpX_abort
  rcases ae_tx v1 with ⟨ht, _⟩ | ⟨j, hj, rfl⟩
  · exact ae_Xri0 ht (br_f (by decide) (ae_Yab0 ht ⟨rfl, I'⟩))
  rcases hT j hj with ⟨hR, _⟩ | ⟨hR, hh, a, b, c, l1, l2, l3, hM, hm, hD, hl, hK, hk'⟩
  · exact ae_Xri1 hj hR (br_f (by decide) (ae_Yab1 hj hR ⟨rfl, I'⟩))
  refine ae_Xri2 hj hR (br_t rfl (ae_Xch hj (ae_Xtb (c := 0) hj hC hD (by omega) (by omega) (ae_Xend hj ?_))))
  show wpY_abort _ _ _
  refine ae_Yab2 hj hC hR hl (by omega) (fun l' h2 => ⟨by rw [hh], ?_⟩)
  refine ⟨_, _, _, _, _, _, _, _, _, _, _, _, rfl, rfl, hC, ?_⟩
  refine ae_keep (j := j) hT (fun _ e => pk_un e) (fun _ e => pk_un e) (fun _ e => pk_un e) (fun _ e => (pk_un e).trans (pk_un e)) (fun _ e => pk_un e) (fun _ _ => rfl) (fun _ _ => rfl) h2 (fun _ _ => rfl) ?_
  exact Or.inl ⟨pk_us, pk_us, pk_us, pk_us, pk_us⟩
theorem i_vc_mark {k : Nat} {u : SX} {v : SY} (I : i_Rel k u v) (hk : k + 4 ≤ 2049) (v1 : Int32) : wpX_mark (fun r u' => wpY_mark (fun r' v' => r' = r ∧ i_Rel (k + 4) u' v') v v1) u v1 := by
  have I' := I
  obtain ⟨V, R, H, M, D, K, C, O, h, m, l, q, rfl, rfl, hC, hT⟩ := I
  unfold wpX_mark
  rcases ae_tx v1 with ⟨ht, _⟩ | ⟨j, hj, rfl⟩
  · refine ae_Xri0 ht (br_f (by decide) ?_)
    unfold wpY_mark
    exact ae_Yri0 ht (br_f (by decide) ⟨rfl, I'⟩)
  rcases hT j hj with ⟨hR, _⟩ | ⟨hR, hh, a, b, c, l1, l2, l3, hM, hm, hD, hl, hK, hk'⟩
  · refine ae_Xri1 hj hR (br_f (by decide) ?_)
    unfold wpY_mark
    exact ae_Yri1 hj hR (br_f (by decide) ⟨rfl, I'⟩)
  refine ae_Xri2 hj hR (br_t rfl ⟨ae_3 hj, ae_3 hj, nm_r (e' := upd K j (nI b)) (by rw [ae_cl (by omega), hD]) ?_⟩)
  unfold wpY_mark
  refine ae_Yri2 hj hR (br_t (by decide) ⟨ae_3 hj, ae_3 hj, nm_r (e' := upd q j (nI b)) (by rw [ae_cl (by omega), hl]) ⟨rfl, ?_⟩⟩)
  refine ⟨_, _, _, _, _, _, _, _, _, _, _, _, rfl, rfl, hC, ?_⟩
  refine ae_keep (j := j) hT (fun _ _ => rfl) (fun _ _ => rfl) (fun _ _ => rfl) (fun _ _ => rfl) (fun _ e => pk_un e) (fun _ _ => rfl) (fun _ _ => rfl) (fun _ _ => rfl) (fun _ e => pk_un e) ?_
  exact Or.inr ⟨hR, hh, a, b, b, by omega, l2, l3, hM, hm, hD, hl, pk_us, pk_us⟩
theorem i_vc_back {k : Nat} {u : SX} {v : SY} (I : i_Rel k u v) (hk : k + 4 ≤ 2049) (v1 : Int32) : wpX_back (fun r u' => wpY_back (fun r' v' => r' = r ∧ i_Rel (k + 4) u' v') v v1) u v1 := by
  have I' := I
  obtain ⟨V, R, H, M, D, K, C, O, h, m, l, q, rfl, rfl, hC, hT⟩ := I
  unfold wpX_back
  rcases ae_tx v1 with ⟨ht, _⟩ | ⟨j, hj, rfl⟩
  · refine ae_Xri0 ht (br_f (by decide) ?_)
    unfold wpY_back
    exact ae_Yri0 ht (br_f (by decide) ⟨rfl, I'⟩)
  rcases hT j hj with ⟨hR, _⟩ | ⟨hR, hh, a, b, c, l1, l2, l3, hM, hm, hD, hl, hK, hk'⟩
  · refine ae_Xri1 hj hR (br_f (by decide) ?_)
    unfold wpY_back
    exact ae_Yri1 hj hR (br_f (by decide) ⟨rfl, I'⟩)
  refine ae_Xri2 hj hR (br_t rfl ⟨ae_3 hj, ?_⟩)
  rw [ae_cl (by omega), hK]
  refine ae_Xtb hj hC hD l1 (by omega) ?_
  show wpY_back _ _ _
  unfold wpY_back
  refine ae_Yri2 hj hR (br_t (by decide) ⟨ae_3 hj, ?_⟩)
  rw [ae_cl (by omega), hk']
  refine ae_Ytb hj hC hl l1 (by omega) (fun l' h1 h2 => ⟨rfl, ?_⟩)
  refine ⟨_, _, _, _, _, _, _, _, _, _, _, _, rfl, rfl, hC, ?_⟩
  refine ae_keep (j := j) hT (fun _ _ => rfl) (fun _ _ => rfl) (fun _ _ => rfl) (fun _ e => pk_un e) (fun _ _ => rfl) (fun _ _ => rfl) (fun _ _ => rfl) h2 (fun _ _ => rfl) ?_
  exact Or.inr ⟨hR, hh, a, c, c, by omega, by omega, l3, hM, hm, pk_us, h1, hK, hk'⟩
theorem ae_b {R H M D K h m l k : Nat → Int32} {i : Nat} (T : ae_T R H M D K h m l k i) : ∃ b : Nat, b ≤ 20 ∧ D i = nI b := by
  rcases T with ⟨_, _, _, hD, _⟩ | ⟨_, _, a, b, c, l1, l2, l3, _, _, hD, _⟩
  · exact ⟨0, by omega, hD⟩
  · exact ⟨b, by omega, hD⟩
theorem ae_u3 {f : Nat → Int32} : ∀ i, i < 3 → upd (upd (upd f 0 0) 1 0) 2 0 i = 0 := by
  intro i hi
  match i, hi with
  | 0, _ => rfl
  | 1, _ => rfl
  | 2, _ => rfl
theorem ae_To {R H M D K h m l k R' H' M' D' K' l' : Nat → Int32} {i : Nat} (T : ae_T R H M D K h m l k i) (hR : R' i = R i) (hH : H' i = H i) (hM : M' i = M i) (hD : D' i = D i) (hK : K' i = K i) (hl : l' i = l i) : ae_T R' H' M' D' K' h m l' k i := by
  unfold ae_T
  rw [hR, hH, hM, hD, hK, hl]
  exact T
theorem ae_crash {u : SX} {v : SY} (I : ae_R u v) : ∃ (r : Int32) (u' : SX), (∀ post : Int32 → SX → Prop, post r u' → wpX_loseRunning post u) ∧ (∀ post : Int32 → SY → Prop, (∀ v' : SY, ae_R u' v' → post r v') → wpY_crash post v) := by
  obtain ⟨V, R, H, M, D, K, C, O, h, m, l, q, rfl, rfl, hC, hT⟩ := I
  obtain ⟨b0, l0, h0⟩ := ae_b (hT 0 (by omega))
  obtain ⟨b1, l1, h1⟩ := ae_b (hT 1 (by omega))
  obtain ⟨b2, l2, h2⟩ := ae_b (hT 2 (by omega))
  refine ⟨_, _, fun post p => ae_Xlr hC h0 h1 h2 l0 l1 l2 p, fun post p => ?_⟩
  unfold wpY_crash
  refine ae_Ycp ⟨4, ?_⟩
  refine ae_Ycs (i := 0) (by omega) hC (hT 0 (by omega)) h0 l0 (fun la ha => ?_)
  have T1 : ae_T (upd R 0 0) H M D K h m la q 1 := ae_To (hT 1 (by omega)) (pk_un (by decide)) rfl rfl rfl rfl (ha 1 (by decide))
  refine ae_Ycs (i := 1) (by omega) hC T1 h1 l1 (fun lb hb => ?_)
  have T2 : ae_T (upd (upd R 0 0) 1 0) H M D K h m lb q 2 := ae_To (hT 2 (by omega)) ((pk_un (by decide)).trans (pk_un (by decide))) rfl rfl rfl rfl ((hb 2 (by decide)).trans (ha 2 (by decide)))
  refine ae_Ycs (i := 2) (by omega) hC T2 h2 l2 (fun lc hc => ?_)
  refine br_t (nI_le (a := 3) (b := 3) (by omega) (by decide)) (p _ ?_)
  exact ⟨_, _, _, _, _, _, _, _, _, _, _, _, rfl, rfl, hC, fun i hi => Or.inl ⟨ae_u3 i hi, ae_u3 i hi, ae_u3 i hi, ae_u3 i hi, ae_u3 i hi⟩⟩
theorem i_vc_crash {k : Nat} {u : SX} {v : SY} (I : i_Rel k u v) (hk : k + 4 ≤ 2049) : wpX_crash (fun r u' => wpY_crash (fun r' v' => r' = r ∧ i_Rel (k + 4) u' v') v) u := by
  obtain ⟨r, u', hX, hY⟩ := ae_crash I
  unfold wpX_crash
  exact hX _ (hY _ (fun v' hr => ⟨rfl, hr⟩))
theorem i_vc_crashTwice {k : Nat} {u : SX} {v : SY} (I : i_Rel k u v) (hk : k + 4 ≤ 2049) (v1 : Int32) : wpX_crashTwice (fun r u' => wpY_crashTwice (fun r' v' => r' = r ∧ i_Rel (k + 4) u' v') v v1) u v1 := by
  obtain ⟨r, u', hX, hY⟩ := ae_crash I
  unfold wpX_crashTwice
  refine hX _ ?_
  unfold wpY_crashTwice
  exact hY _ (fun v' hr => ⟨rfl, hr⟩)
theorem i_vc_checkpoint {k : Nat} {u : SX} {v : SY} (I : i_Rel k u v) (hk : k + 4 ≤ 2049) : wpX_checkpoint (fun r => wpY_checkpoint (fun r' => r' = r ∧ i_Rel (k + 4) u v) v) u := by
  have I' := I
  obtain ⟨V, R, H, M, D, K, C, O, h, m, l, q, rfl, rfl, hC, hT⟩ := I
  unfold wpX_checkpoint
  exact ae_Xcr (ae_Ycp ⟨rfl, I'⟩)
theorem i_vc_holds {k : Nat} {u : SX} {v : SY} (I : i_Rel k u v) (hk : k + 4 ≤ 2049) (v1 : Int32) : wpX_holds (fun r => wpY_holds (fun r' => r' = r ∧ i_Rel (k + 4) u v) v v1) u v1 := by
  have I' := I
  obtain ⟨V, R, H, M, D, K, C, O, h, m, l, q, rfl, rfl, hC, hT⟩ := I
  unfold wpX_holds
  rcases ae_tx v1 with ⟨ht, _⟩ | ⟨j, hj, rfl⟩
  · refine ae_Xtx0 ht (br_t rfl ?_)
    unfold wpY_holds
    exact ae_Ytx0 ht (br_t rfl ⟨rfl, I'⟩)
  refine ae_Xtx1 hj (br_f ae_10 ⟨ae_3 hj, ?_⟩)
  rw [ae_cl (by omega)]
  exact ae_Yho hj (hT j hj) ⟨rfl, I'⟩
