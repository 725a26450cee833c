theorem ae_10 : ¬ (1 : Int32) = 0 := by decide
theorem ae_nb0 : vp_nar .boolean 0 = 0 := by decide
theorem ae_nb1 : vp_nar .boolean 1 = 1 := by decide
theorem ae_3 {j : Nat} (hj : j < 3) : vp_in (nI j) 3 := vp_in_nI hj (by decide)
theorem ae_cl {j : Nat} (hj : j < 60) : (nI j).toNatClampNeg = j := nI_clamp (by omega)
theorem ae_i16 {x : Int32} (z : ¬ x < 0) (y : ¬ 16 ≤ x) : vp_in x 16 := by
  rcases pk_ix x (n := 16) (by decide) with a | a | ⟨c, hc, rfl⟩
  · exact absurd a z
  · exact absurd a y
  · exact vp_in_nI hc (by decide)
theorem ae_uu {f : Nat → Int32} {k : Nat} {x y : Int32} : upd (upd f k x) k y = upd f k y := by
  funext i
  by_cases e : i = k
  · subst e; rw [pk_us, pk_us]
  · rw [pk_un e, pk_un e, pk_un e]
theorem ae_ue {f : Nat → Int32} {k : Nat} {x : Int32} (h : f k = x) : upd f k x = f := by
  funext i
  by_cases e : i = k
  · subst e; rw [pk_us, h]
  · rw [pk_un e]
theorem ae_lt1 : ∀ c, c < 32 → nI c - 1 < nI c := by decide +kernel
theorem ae_sl (j b : Nat) : nI j * 20 + nI b = nI (j * 20 + b) := by
  show nI j * nI 20 + nI b = _
  rw [pk_mul, nI_add]
section
variable {V R H M D K C O : Nat → Int32}
theorem ae_Xtx1 {post : Int32 → Prop} {j : Nat} (hj : j < 3) (h : post 1) : wpX_isTransaction post (V, R, H, M, D, K, C, O) (nI j) :=
  br_f (nI_pos (by omega)) (br_f (nI_ge (b := 3) hj (by decide)) h)
theorem ae_Xtx0 {post : Int32 → Prop} {t : Int32} (ht : t < 0 ∨ 3 ≤ t) (h : post 0) : wpX_isTransaction post (V, R, H, M, D, K, C, O) t := by
  by_cases z : t < 0
  · exact br_t z h
  · exact br_f z (br_t (ht.resolve_left z) h)
theorem ae_Xce1 {post : Int32 → Prop} {j : Nat} (hj : j < 16) (h : post 1) : wpX_isCell post (V, R, H, M, D, K, C, O) (nI j) :=
  br_f (nI_pos (by omega)) (br_f (nI_ge (b := 16) hj (by decide)) h)
theorem ae_Xce0 {post : Int32 → Prop} {t : Int32} (ht : t < 0 ∨ 16 ≤ t) (h : post 0) : wpX_isCell post (V, R, H, M, D, K, C, O) t := by
  by_cases z : t < 0
  · exact br_t z h
  · exact br_f z (br_t (ht.resolve_left z) h)
theorem ae_Xri0 {post : Int32 → Prop} {t : Int32} (ht : t < 0 ∨ 3 ≤ t) (h : post (-1)) : wpX_refusalOfIdle post (V, R, H, M, D, K, C, O) t := by
  unfold wpX_refusalOfIdle
  exact ae_Xtx0 ht (br_t rfl h)
theorem ae_Xri1 {post : Int32 → Prop} {j : Nat} (hj : j < 3) (hR : R j = 0) (h : post (-2)) : wpX_refusalOfIdle post (V, R, H, M, D, K, C, O) (nI j) := by
  unfold wpX_refusalOfIdle
  exact ae_Xtx1 hj (br_f ae_10 ⟨ae_3 hj, br_t (by rw [ae_cl (by omega)]; exact hR) h⟩)
theorem ae_Xri2 {post : Int32 → Prop} {j : Nat} (hj : j < 3) (hR : R j = 1) (h : post 0) : wpX_refusalOfIdle post (V, R, H, M, D, K, C, O) (nI j) := by
  unfold wpX_refusalOfIdle
  exact ae_Xtx1 hj (br_f ae_10 ⟨ae_3 hj, br_f (by rw [ae_cl (by omega), hR]; decide) h⟩)
theorem ae_Xch_l {post : Int32 → Prop} {j : Nat} (hj : j < 3) (h : post (ae_pc (H j) 16)) : ∀ d i : Nat, i + d = 16 → wX_countHeld_4 post (nI j) V R H M D K C O (d + 1) (ae_pc (H j) i) (nI i) := by
  intro d
  induction d with
  | zero =>
    intro i hi
    obtain rfl : i = 16 := by omega
    exact br_t (nI_le (a := 16) (b := 16) (by omega) (by decide)) h
  | succ d ih =>
    intro i hi
    exact br_f (nI_ge (b := 16) (by omega) (by decide)) ⟨ae_3 hj, nm_r (e' := ae_pc (H j) (i + 1)) (by rw [ae_cl (by omega)]; rfl) (nm_r (nI_1 i) (ih (i + 1) (by omega)))⟩
theorem ae_Xch {post : Int32 → Prop} {j : Nat} (hj : j < 3) (h : post (ae_pc (H j) 16)) : wpX_countHeld post (V, R, H, M, D, K, C, O) (nI j) :=
  ⟨17, ae_Xch_l hj h 16 0 rfl⟩
theorem ae_Xcr_l {post : Int32 → Prop} (h : post (ae_cr R 3)) : ∀ d i : Nat, i + d = 3 → wX_countRunning_4 post V R H M D K C O (d + 1) (ae_cr R i) (nI i) := by
  intro d
  induction d with
  | zero =>
    intro i hi
    obtain rfl : i = 3 := by omega
    exact br_t (nI_le (a := 3) (b := 3) (by omega) (by decide)) h
  | succ d ih =>
    intro i hi
    have g := ih (i + 1) (by omega)
    by_cases z : R i = 0
    · rw [show ae_cr R (i + 1) = ae_cr R i from if_pos z] at g
      exact br_f (nI_ge (b := 3) (by omega) (by decide)) ⟨ae_3 (by omega), br_t (by rw [ae_cl (by omega)]; exact z) (nm_r (nI_1 i) g)⟩
    · exact br_f (nI_ge (b := 3) (by omega) (by decide)) ⟨ae_3 (by omega), br_f (by rw [ae_cl (by omega)]; exact z) (nm_r (e' := ae_cr R (i + 1)) (if_neg z).symm (nm_r (nI_1 i) g))⟩
theorem ae_Xcr {post : Int32 → Prop} (h : post (ae_cr R 3)) : wpX_countRunning post (V, R, H, M, D, K, C, O) :=
  ⟨4, ae_Xcr_l h 3 0 rfl⟩
theorem ae_Xend {post : SX → Prop} {j : Nat} (hj : j < 3) (h : post (V, upd R j 0, upd H j 0, upd M j 0, upd D j 0, upd K j 0, C, O)) : wpX_end post (V, R, H, M, D, K, C, O) (nI j) := by
  unfold wpX_end
  dsimp only
  rw [ae_cl (by omega), ae_nb0]
  exact ⟨ae_3 hj, nm_e ⟨ae_3 hj, nm_e ⟨ae_3 hj, nm_e ⟨ae_3 hj, nm_e ⟨ae_3 hj, nm_e h⟩⟩⟩⟩⟩
theorem ae_Xtb_l {post : Int32 → SX → Prop} {j c : Nat} (hj : j < 3) (hC : ae_C C) : ∀ (n : Nat) (V : Nat → Int32) (q : Nat) (x : Int32), c + n ≤ 20 → x = nI (c + n) - 1 →
    post (nI (q + n)) (ae_tb C O (j * 20 + c) n V, R, H, M, upd D j (nI c), K, C, O) → wX_takeBack_12 post (nI j) (nI c) (n + 1) (nI q) x V R H M D K C O := by
  intro n
  induction n with
  | zero =>
    intro V q x hn hx h
    subst hx
    refine br_t (ae_lt1 c (by omega)) ⟨ae_3 hj, nm_r (e' := upd D j (nI c)) (by rw [ae_cl (by omega)]) h⟩
  | succ n ih =>
    intro V q x hn hx h
    have hx' : x = nI (c + n) := hx.trans (nI_pred (c + n))
    subst hx'
    have hs : j * 20 + c + n < 60 := by omega
    obtain ⟨z, hz, ez⟩ := hC _ hs
    have es : nI j * 20 + nI (c + n) = nI (j * 20 + c + n) := by rw [ae_sl, Nat.add_assoc]
    refine br_f (nI_nlt (by omega) (by omega)) (nm_r es ?_)
    rw [ae_cl hs]
    have i60 : vp_in (nI (j * 20 + c + n)) 60 := vp_in_nI hs (by decide)
    refine ⟨i60, i60, by rw [ez]; exact vp_in_nI hz (by decide), nm_e (nm_r (nI_1 q) (nm_r (Int32.sub_eq_add_neg _ _).symm ?_))⟩
    refine ih _ _ _ (by omega) rfl ?_
    rw [show q + 1 + n = q + (n + 1) by omega]
    exact h
theorem ae_Xtb {post : Int32 → SX → Prop} {j b c : Nat} (hj : j < 3) (hC : ae_C C) (hD : D j = nI b) (hc : c ≤ b) (hb : b ≤ 20)
    (h : post (nI (b - c)) (ae_tb C O (j * 20 + c) (b - c) V, R, H, M, upd D j (nI c), K, C, O)) : wpX_takeBack post (V, R, H, M, D, K, C, O) (nI j) (nI c) := by
  unfold wpX_takeBack
  dsimp only
  rw [ae_cl (by omega), hD]
  refine ⟨ae_3 hj, nm_e ⟨b - c + 1, ae_Xtb_l hj hC (b - c) V 0 _ (by omega) (by rw [show c + (b - c) = b by omega]) ?_⟩⟩
  rw [Nat.zero_add]
  exact h
theorem ae_Xst {post : Int32 → SX → Prop} {j c b : Nat} {w : Int32} (hj : j < 3) (hc : c < 16) (hb : b < 20) (hD : D j = nI b)
    (h : post (ae_pc (H j ||| ((1 : Int32) <<< (nI c &&& 31))) 16) (upd V c w, R, upd H j (H j ||| ((1 : Int32) <<< (nI c &&& 31))), upd M j (M j + 1), upd D j (nI (b + 1)), K, upd C (j * 20 + b) (nI c), upd O (j * 20 + b) (V c))) :
    wpX_store post (V, R, H, M, D, K, C, O) (nI j) (nI c) w := by
  have hs : j * 20 + b < 60 := by omega
  have i60 : vp_in (nI (j * 20 + b)) 60 := vp_in_nI hs (by decide)
  have ic : vp_in (nI c) 16 := vp_in_nI hc (by decide)
  unfold wpX_store
  dsimp only
  rw [ae_cl (show j < 60 by omega), ae_cl (show c < 60 by omega), hD]
  refine ⟨ae_3 hj, nm_r (ae_sl j b) ?_⟩
  rw [ae_cl hs]
  refine ⟨i60, nm_e ⟨ic, i60, nm_e ⟨ae_3 hj, ae_3 hj, nm_r (e' := upd D j (nI (b + 1))) (by rw [nI_1]) ⟨ae_3 hj, ae_3 hj, nm_e ⟨ae_3 hj, ae_3 hj, nm_e ⟨ic, nm_e ?_⟩⟩⟩⟩⟩⟩
  exact ae_Xch hj (by rw [pk_us]; exact h)
end
