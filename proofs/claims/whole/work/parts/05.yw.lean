section
variable {V R H M D K C O h m l k : Nat → Int32}
theorem ae_Ywx {post : Int32 → SY → Prop} {j c a b n : Nat} {w : Int32} (hj : j < 3) (hc : c < 16) (hm : m j = nI a) (ha : a ≤ 20) (hl : l j = nI b) (hb : b ≤ a)
    (p : (a = 20 → post (-4) (V, R, h, m, l, k, C, O)) ∧ (a < 20 → post (ae_pc (h j ||| ((1 : Int32) <<< (nI c &&& 31))) 16) (upd V c w, R, upd h j (h j ||| ((1 : Int32) <<< (nI c &&& 31))), upd m j (m j + 1), upd l j (nI (b + 1)), k, upd C (j * 20 + b) (nI c), upd O (j * 20 + b) (V c)))) :
    wY_write_35 post (nI j) (nI c) w V R h m l k C O (n + 1) (nI 3) := by
  refine br_t (nI_le (a := 3) (b := 3) (by omega) (by decide)) ⟨ae_3 hj, ?_⟩
  rw [ae_cl (show j < 60 by omega)]
  by_cases z : a = 20
  · subst z
    exact br_t hm (p.1 rfl)
  · have hs : j * 20 + b < 60 := by omega
    have i60 : vp_in (nI (j * 20 + b)) 60 := vp_in_nI hs (by decide)
    have ic : vp_in (nI c) 16 := vp_in_nI hc (by decide)
    refine br_f (fun y => z ((nI_eq (a := a) (b := 20) (by omega) (by decide)).mp (hm.symm.trans y))) ?_
    rw [ae_cl (show c < 60 by omega), hl, ae_sl, ae_cl hs]
    refine ⟨ae_3 hj, i60, nm_e ⟨ae_3 hj, ic, i60, nm_e ⟨ae_3 hj, ae_3 hj, nm_r (e' := upd l j (nI (b + 1))) (by rw [nI_1]) ⟨ae_3 hj, ae_3 hj, nm_e ⟨ae_3 hj, ae_3 hj, nm_e ⟨ic, nm_e ⟨ae_3 hj, ?_⟩⟩⟩⟩⟩⟩⟩
    refine ae_Ysz ?_
    rw [pk_us]
    exact p.2 (by omega)
theorem ae_Ywl {post : Int32 → SY → Prop} {j c : Nat} {w : Int32} (hj : j < 3) (hc : c < 16) (hT : ∀ i, i < 3 → ae_T R H M D K h m l k i)
    (hA : (∀ q, q < 3 → q ≠ j → (H q &&& ((1 : Int32) <<< (nI c &&& 31))) = 0) → ∀ n, wY_write_35 post (nI j) (nI c) w V R h m l k C O (n + 1) (nI 3))
    (hE : (∃ q, q < 3 ∧ q ≠ j ∧ ¬ (H q &&& ((1 : Int32) <<< (nI c &&& 31))) = 0) → post (-3) (V, R, h, m, l, k, C, O)) :
    ∀ d i : Nat, i + d = 3 → (∀ q, q < i → q ≠ j → (H q &&& ((1 : Int32) <<< (nI c &&& 31))) = 0) → wY_write_35 post (nI j) (nI c) w V R h m l k C O (d + 1) (nI i) := by
  intro d
  induction d with
  | zero =>
    intro i hi hp
    obtain rfl : i = 3 := by omega
    exact hA hp 0
  | succ d ih =>
    intro i hi hp
    by_cases e : i = j
    · have g := ih (i + 1) (by omega) (fun q h1 h2 => hp q (by omega) h2)
      exact br_f (nI_ge (b := 3) (by omega) (by decide)) (br_t (by rw [e]) (nm_r (nI_1 i) g))
    · refine br_f (nI_ge (b := 3) (by omega) (by decide)) (br_f (ae_ne (by omega) hj e) (ae_Yho (by omega) (hT i (by omega)) ?_))
      by_cases z : (H i &&& ((1 : Int32) <<< (nI c &&& 31))) = 0
      · refine br_t ((ae_bit _ c (by omega)).mpr z) (nm_r (nI_1 i) (ih (i + 1) (by omega) (fun q h1 h2 => ?_)))
        by_cases y : q = i
        · rw [y]
          exact z
        · exact hp q (by omega) h2
      · exact br_f (fun y => z ((ae_bit _ c (by omega)).mp y)) (hE ⟨i, by omega, e, z⟩)
theorem ae_Yw_t {post : Int32 → SY → Prop} {t x w : Int32} (ht : t < 0 ∨ 3 ≤ t) (p : post (-1) (V, R, h, m, l, k, C, O)) : wpY_write post (V, R, h, m, l, k, C, O) t x w := by
  unfold wpY_write
  exact ae_Ytx0 ht (br_t rfl p)
theorem ae_Yw_c {post : Int32 → SY → Prop} {j : Nat} {x w : Int32} (hj : j < 3) (hx : x < 0 ∨ 16 ≤ x) (p : post (-1) (V, R, h, m, l, k, C, O)) : wpY_write post (V, R, h, m, l, k, C, O) (nI j) x w := by
  unfold wpY_write
  refine ae_Ytx1 hj (br_f ae_10 ?_)
  by_cases z : x < 0
  · exact br_t z p
  · exact br_f z (br_f (fun y => absurd (Int32.le_trans (hx.resolve_left z) y) (by decide)) p)
theorem ae_Yw_i {post : Int32 → SY → Prop} {j c : Nat} {w : Int32} (hj : j < 3) (hc : c < 16) (hR : R j = 0) (p : post (-2) (V, R, h, m, l, k, C, O)) : wpY_write post (V, R, h, m, l, k, C, O) (nI j) (nI c) w := by
  unfold wpY_write
  exact ae_Ytx1 hj (br_f ae_10 (br_f (nI_pos (by omega)) (br_t (nI_le (b := 15) (by omega) (by decide)) ⟨ae_3 hj, br_t (by rw [ae_cl (by omega)]; exact hR) p⟩)))
theorem ae_Yw_r {post : Int32 → SY → Prop} {j c : Nat} {w : Int32} (hj : j < 3) (hc : c < 16) (hR : R j = 1) (hT : ∀ i, i < 3 → ae_T R H M D K h m l k i)
    (hA : (∀ q, q < 3 → q ≠ j → (H q &&& ((1 : Int32) <<< (nI c &&& 31))) = 0) → ∀ n, wY_write_35 post (nI j) (nI c) w V R h m l k C O (n + 1) (nI 3))
    (hE : (∃ q, q < 3 ∧ q ≠ j ∧ ¬ (H q &&& ((1 : Int32) <<< (nI c &&& 31))) = 0) → post (-3) (V, R, h, m, l, k, C, O)) : wpY_write post (V, R, h, m, l, k, C, O) (nI j) (nI c) w := by
  unfold wpY_write
  refine ae_Ytx1 hj (br_f ae_10 (br_f (nI_pos (by omega)) (br_t (nI_le (b := 15) (by omega) (by decide)) ⟨ae_3 hj, br_f (by rw [ae_cl (by omega), hR]; decide) ?_⟩)))
  exact ⟨4, ae_Ywl hj hc hT hA hE 3 0 rfl (fun q h1 _ => absurd h1 (Nat.not_lt_zero q))⟩
end
/-! the relation, without the turn's number -/
def ae_R (u : SX) (v : SY) : Prop :=
  ∃ V R H M D K C O h m l k : Nat → Int32, u = (V, R, H, M, D, K, C, O) ∧ v = (V, R, h, m, l, k, C, O) ∧ ae_C C ∧ ∀ i, i < 3 → ae_T R H M D K h m l k i
theorem ae_keep {R H M D K h m l k R' H' M' D' K' h' m' l' k' : Nat → Int32} {j : Nat} (T : ∀ i, i < 3 → ae_T R H M D K h m l k i)
    (hR : ∀ i, i ≠ j → R' i = R i) (hH : ∀ i, i ≠ j → H' i = H i) (hM : ∀ i, i ≠ j → M' i = M i) (hD : ∀ i, i ≠ j → D' i = D i) (hK : ∀ i, i ≠ j → K' i = K i)
    (hh : ∀ i, i ≠ j → h' i = h i) (hm : ∀ i, i ≠ j → m' i = m i) (hl : ∀ i, i ≠ j → l' i = l i) (hk : ∀ i, i ≠ j → k' i = k i)
    (Tj : ae_T R' H' M' D' K' h' m' l' k' j) : ∀ i, i < 3 → ae_T R' H' M' D' K' h' m' l' k' i := by
  intro i hi
  by_cases e : i = j
  · rw [e]
    exact Tj
  · unfold ae_T
    rw [hR i e, hH i e, hM i e, hD i e, hK i e, hh i e, hm i e, hl i e, hk i e]
    exact T i hi
/-! a write, or an add, is refused by both with one answer, or done by both -/
theorem ae_W {V R H M D K C O h m l k : Nat → Int32} (hC : ae_C C) (hT : ∀ i, i < 3 → ae_T R H M D K h m l k i) (t x : Int32) :
    (∃ r : Int32, r ≠ 0 ∧ (∀ post : Int32 → Prop, post r → wpX_refusalOfWrite post (V, R, H, M, D, K, C, O) t x) ∧ (∀ (w : Int32) (post : Int32 → SY → Prop), post r (V, R, h, m, l, k, C, O) → wpY_write post (V, R, h, m, l, k, C, O) t x w)) ∨
    (∃ c : Nat, c < 16 ∧ x = nI c ∧ (∀ post : Int32 → Prop, post 0 → wpX_refusalOfWrite post (V, R, H, M, D, K, C, O) t x) ∧
      ∀ w : Int32, ∃ (r : Int32) (u' : SX) (v' : SY), ae_R u' v' ∧ (∀ post : Int32 → SX → Prop, post r u' → wpX_store post (V, R, H, M, D, K, C, O) t x w) ∧ (∀ post : Int32 → SY → Prop, post r v' → wpY_write post (V, R, h, m, l, k, C, O) t x w)) := by
  rcases ae_tx t with ⟨ht, _⟩ | ⟨j, hj, rfl⟩
  · exact Or.inl ⟨-1, by decide, fun post p => ae_Xrw_t ht p, fun w post p => ae_Yw_t ht p⟩
  have hx : (x < 0 ∨ 16 ≤ x) ∨ ∃ c : Nat, c < 16 ∧ x = nI c := by
    rcases pk_ix x (n := 16) (by decide) with y | y | y
    · exact Or.inl (Or.inl y)
    · exact Or.inl (Or.inr y)
    · exact Or.inr y
  rcases hx with hx | ⟨c, hc, rfl⟩
  · exact Or.inl ⟨-1, by decide, fun post p => ae_Xrw_c hj hx p, fun w post p => ae_Yw_c hj hx p⟩
  rcases hT j hj with ⟨hR, _⟩ | ⟨hR, hh, a, b, c', l1, l2, l3, hM, hm, hD, hl, hK, hk⟩
  · exact Or.inl ⟨-2, by decide, fun post p => ae_Xrw_i hj hc hR p, fun w post p => ae_Yw_i hj hc hR p⟩
  by_cases hE : ∃ q, q < 3 ∧ q ≠ j ∧ ¬ (H q &&& ((1 : Int32) <<< (nI c &&& 31))) = 0
  · refine Or.inl ⟨-3, by decide, fun post p => ae_Xrw_h hj hc hR hE p, fun w post p => ae_Yw_r hj hc hR hT (fun hA => ?_) (fun _ => p)⟩
    obtain ⟨q, h1, h2, h3⟩ := hE
    exact absurd (hA q h1 h2) h3
  have hA : ∀ q, q < 3 → q ≠ j → (H q &&& ((1 : Int32) <<< (nI c &&& 31))) = 0 := by
    intro q h1 h2
    by_cases z : (H q &&& ((1 : Int32) <<< (nI c &&& 31))) = 0
    · exact z
    · exact absurd ⟨q, h1, h2, z⟩ hE
  by_cases ha : a = 20
  · exact Or.inl ⟨-4, by decide, fun post p => ae_Xrw_n hj hc hR hA hM l3 ⟨fun _ => p, fun y => absurd ha (by omega)⟩,
      fun w post p => ae_Yw_r hj hc hR hT (fun _ n => ae_Ywx hj hc hm l3 hl l2 ⟨fun _ => p, fun y => absurd ha (by omega)⟩) (fun y => absurd y hE)⟩
  refine Or.inr ⟨c, hc, rfl, fun post p => ae_Xrw_n hj hc hR hA hM l3 ⟨fun y => absurd y ha, fun _ => p⟩, fun w => ?_⟩
  refine ⟨ae_pc (H j ||| ((1 : Int32) <<< (nI c &&& 31))) 16,
    (upd V c w, R, upd H j (H j ||| ((1 : Int32) <<< (nI c &&& 31))), upd M j (M j + 1), upd D j (nI (b + 1)), K, upd C (j * 20 + b) (nI c), upd O (j * 20 + b) (V c)),
    (upd V c w, R, upd h j (H j ||| ((1 : Int32) <<< (nI c &&& 31))), upd m j (m j + 1), upd l j (nI (b + 1)), k, upd C (j * 20 + b) (nI c), upd O (j * 20 + b) (V c)),
    ?_, fun post p => ae_Xst (b := b) hj hc (by omega) hD p, fun post p => ae_Yw_r hj hc hR hT (fun _ n => ae_Ywx hj hc hm l3 hl l2 ⟨fun y => absurd y ha, fun _ => by rw [hh]; exact p⟩) (fun y => absurd y hE)⟩
  refine ⟨_, _, _, _, _, _, _, _, _, _, _, _, rfl, rfl, ae_Cu hC hc, ?_⟩
  refine ae_keep (j := j) hT (fun _ _ => rfl) (fun _ e => pk_un e) (fun _ e => pk_un e) (fun _ e => pk_un e) (fun _ _ => rfl) (fun _ e => pk_un e) (fun _ e => pk_un e) (fun _ e => pk_un e) (fun _ _ => rfl) ?_
  refine Or.inr ⟨hR, by rw [pk_us, pk_us], a + 1, b + 1, c', by omega, by omega, by omega, by rw [pk_us, hM, nI_1], by rw [pk_us, hm, nI_1], pk_us, pk_us, hK, hk⟩
