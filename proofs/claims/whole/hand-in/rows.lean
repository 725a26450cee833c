section
/-! rows pasted from kit/rows -/
theorem pk_us {f : Nat → Int32} {k : Nat} {x : Int32} : upd f k x k = x := if_pos rfl
theorem pk_un {f : Nat → Int32} {k j : Nat} {x : Int32} (h : j ≠ k) : upd f k x j = f j := if_neg h
theorem pk_m1 (n : Nat) : nI (n + 1) + (-1) = nI n := by
  rw [← nI_1, Int32.add_assoc, show (1 : Int32) + (-1) = 0 from rfl, Int32.add_zero]
theorem pk_mul (a b : Nat) : nI a * nI b = nI (a * b) := (Int32.ofNat_mul a b).symm
theorem pk_ix (x : Int32) {n : Nat} (hn : n < 2 ^ 31) : x < 0 ∨ nI n ≤ x ∨ ∃ j : Nat, j < n ∧ x = nI j := by
  by_cases h : x < 0
  · exact Or.inl h
  · obtain ⟨j, hj, rfl⟩ := nI_of h
    by_cases h2 : j < n
    · exact Or.inr (Or.inr ⟨j, h2, rfl⟩)
    · exact Or.inr (Or.inl (nI_le (by omega) hj))
theorem s_l : ∀ n, n < 32 → ((nI n &&& 31).toBitVec.smod 32).toNat = n := by decide +kernel
theorem nf_sh : ∀ l, l < 32 → ((1 : Int32) <<< (nI l &&& 31)).toBitVec = BitVec.twoPow 32 l := by decide +kernel
theorem nf_tp : ∀ l, l < 32 → BitVec.twoPow 32 l ≠ 0#32 := by decide +kernel
/-! the bit of a cell, asked by a mask and by a shift -/
theorem ae_bit (m : Int32) (l : Nat) (hl : l < 32) : ((m >>> (nI l &&& 31)) &&& 1) = 0 ↔ (m &&& ((1 : Int32) <<< (nI l &&& 31))) = 0 := by
  have e : (m >>> (nI l &&& 31)).toBitVec = m.toBitVec.sshiftRight l := by
    rw [Int32.toBitVec_shiftRight]
    show m.toBitVec.sshiftRight ((nI l &&& 31).toBitVec.smod 32).toNat = _
    rw [s_l l hl]
  rw [← Int32.toBitVec_inj, ← Int32.toBitVec_inj, Int32.toBitVec_and, Int32.toBitVec_and, nf_sh l hl, e, BitVec.and_twoPow]
  show (m.toBitVec.sshiftRight l &&& 1#32) = 0#32 ↔ _ = 0#32
  have g : (m.toBitVec.sshiftRight l).getLsbD 0 = m.toBitVec.getLsbD l := by
    rw [BitVec.getLsbD_sshiftRight]
    simp [hl]
  rw [BitVec.and_one_eq_setWidth_ofBool_getLsbD, g]
  cases hb : m.toBitVec.getLsbD l
  · exact ⟨fun _ => by simp, fun _ => by decide⟩
  · exact ⟨fun z => absurd z (by decide), fun z => absurd ((if_pos rfl).symm.trans z) (nf_tp l hl)⟩
theorem ae_bit0 (l : Nat) : ((0 : Int32) &&& ((1 : Int32) <<< (nI l &&& 31))) = 0 := Int32.zero_and
/-! the pictures: cells held, how many run, writes taken back newest first -/
def ae_pc (h : Int32) : Nat → Int32
  | 0 => 0
  | n + 1 => ae_pc h n + ((h >>> (nI n &&& 31)) &&& 1)
def ae_cr (R : Nat → Int32) : Nat → Int32
  | 0 => 0
  | n + 1 => if R n = 0 then ae_cr R n else ae_cr R n + 1
def ae_tb (C O : Nat → Int32) (s : Nat) : Nat → (Nat → Int32) → (Nat → Int32)
  | 0, V => V
  | n + 1, V => ae_tb C O s n (upd V (C (s + n)).toNatClampNeg (O (s + n)))
/-! what one transaction's part of the two states has to do with each other -/
def ae_T (R H M D K h m l k : Nat → Int32) (t : Nat) : Prop :=
  (R t = 0 ∧ H t = 0 ∧ M t = 0 ∧ D t = 0 ∧ K t = 0) ∨
  (R t = 1 ∧ h t = H t ∧ ∃ a b c : Nat, c ≤ b ∧ b ≤ a ∧ a ≤ 20 ∧ M t = nI a ∧ m t = nI a ∧ D t = nI b ∧ l t = nI b ∧ K t = nI c ∧ k t = nI c)
def ae_C (C : Nat → Int32) : Prop := ∀ i, i < 60 → ∃ q : Nat, q < 16 ∧ C i = nI q
theorem ae_Cu {C : Nat → Int32} (h : ae_C C) {s q : Nat} (hq : q < 16) : ae_C (upd C s (nI q)) := by
  intro i hi
  by_cases e : i = s
  · subst e
    exact ⟨q, hq, pk_us⟩
  · rw [pk_un e]
    exact h i hi
theorem ae_tx (t : Int32) : ((t < 0 ∨ 3 ≤ t) ∧ ∀ j : Nat, j < 3 → t ≠ nI j) ∨ ∃ j : Nat, j < 3 ∧ t = nI j := by
  rcases pk_ix t (n := 3) (by decide) with h | h | h
  · refine Or.inl ⟨Or.inl h, fun j hj e => ?_⟩
    subst e
    exact nI_pos (by omega) h
  · refine Or.inl ⟨Or.inr h, fun j hj e => ?_⟩
    subst e
    exact nI_ge hj (by decide) h
  · exact Or.inr h
end
section
theorem ae_10 : ¬ (1 : Int32) = 0 := by decide
theorem ae_nb0 : vp_nar .boolean 0 = 0 := by decide
theorem ae_nb1 : vp_nar .boolean 1 = 1 := by decide
theorem ae_3 {j : Nat} (hj : j < 3) : vp_in (nI j) 3 := vp_in_nI hj (by decide)
theorem ae_cl {j : Nat} (hj : j < 60) : (nI j).toNatClampNeg = j := nI_clamp (by omega)
theorem ae_i16 {x : Int32} (z : ¬ x < 0) (y : ¬ 16 ≤ x) : vp_in x 16 := by
  rcases pk_ix x (n := 16) (by decide) with a | a | ⟨c, hc, rfl⟩
  · exact absurd a z
  · exact absurd a y
  · exact vp_in_nI hc (by decide)
theorem ae_uu {f : Nat → Int32} {k : Nat} {x y : Int32} : upd (upd f k x) k y = upd f k y := by
  funext i
  by_cases e : i = k
  · subst e; rw [pk_us, pk_us]
  · rw [pk_un e, pk_un e, pk_un e]
theorem ae_ue {f : Nat → Int32} {k : Nat} {x : Int32} (h : f k = x) : upd f k x = f := by
  funext i
  by_cases e : i = k
  · subst e; rw [pk_us, h]
  · rw [pk_un e]
theorem ae_lt1 : ∀ c, c < 32 → nI c - 1 < nI c := by decide +kernel
theorem ae_sl (j b : Nat) : nI j * 20 + nI b = nI (j * 20 + b) := by
  show nI j * nI 20 + nI b = _
  rw [pk_mul, nI_add]
section
variable {V R H M D K C O : Nat → Int32}
theorem ae_Xtx1 {post : Int32 → Prop} {j : Nat} (hj : j < 3) (h : post 1) : wpX_isTransaction post (V, R, H, M, D, K, C, O) (nI j) :=
  br_f (nI_pos (by omega)) (br_f (nI_ge (b := 3) hj (by decide)) h)
theorem ae_Xtx0 {post : Int32 → Prop} {t : Int32} (ht : t < 0 ∨ 3 ≤ t) (h : post 0) : wpX_isTransaction post (V, R, H, M, D, K, C, O) t := by
  by_cases z : t < 0
  · exact br_t z h
  · exact br_f z (br_t (ht.resolve_left z) h)
theorem ae_Xce1 {post : Int32 → Prop} {j : Nat} (hj : j < 16) (h : post 1) : wpX_isCell post (V, R, H, M, D, K, C, O) (nI j) :=
  br_f (nI_pos (by omega)) (br_f (nI_ge (b := 16) hj (by decide)) h)
theorem ae_Xce0 {post : Int32 → Prop} {t : Int32} (ht : t < 0 ∨ 16 ≤ t) (h : post 0) : wpX_isCell post (V, R, H, M, D, K, C, O) t := by
  by_cases z : t < 0
  · exact br_t z h
  · exact br_f z (br_t (ht.resolve_left z) h)
theorem ae_Xri0 {post : Int32 → Prop} {t : Int32} (ht : t < 0 ∨ 3 ≤ t) (h : post (-1)) : wpX_refusalOfIdle post (V, R, H, M, D, K, C, O) t := by
  unfold wpX_refusalOfIdle
  exact ae_Xtx0 ht (br_t rfl h)
theorem ae_Xri1 {post : Int32 → Prop} {j : Nat} (hj : j < 3) (hR : R j = 0) (h : post (-2)) : wpX_refusalOfIdle post (V, R, H, M, D, K, C, O) (nI j) := by
  unfold wpX_refusalOfIdle
  exact ae_Xtx1 hj (br_f ae_10 ⟨ae_3 hj, br_t (by rw [ae_cl (by omega)]; exact hR) h⟩)
theorem ae_Xri2 {post : Int32 → Prop} {j : Nat} (hj : j < 3) (hR : R j = 1) (h : post 0) : wpX_refusalOfIdle post (V, R, H, M, D, K, C, O) (nI j) := by
  unfold wpX_refusalOfIdle
  exact ae_Xtx1 hj (br_f ae_10 ⟨ae_3 hj, br_f (by rw [ae_cl (by omega), hR]; decide) h⟩)
theorem ae_Xch_l {post : Int32 → Prop} {j : Nat} (hj : j < 3) (h : post (ae_pc (H j) 16)) : ∀ d i : Nat, i + d = 16 → wX_countHeld_4 post (nI j) V R H M D K C O (d + 1) (ae_pc (H j) i) (nI i) := by
  intro d
  induction d with
  | zero =>
    intro i hi
    obtain rfl : i = 16 := by omega
    exact br_t (nI_le (a := 16) (b := 16) (by omega) (by decide)) h
  | succ d ih =>
    intro i hi
    exact br_f (nI_ge (b := 16) (by omega) (by decide)) ⟨ae_3 hj, nm_r (e' := ae_pc (H j) (i + 1)) (by rw [ae_cl (by omega)]; rfl) (nm_r (nI_1 i) (ih (i + 1) (by omega)))⟩
theorem ae_Xch {post : Int32 → Prop} {j : Nat} (hj : j < 3) (h : post (ae_pc (H j) 16)) : wpX_countHeld post (V, R, H, M, D, K, C, O) (nI j) :=
  ⟨17, ae_Xch_l hj h 16 0 rfl⟩
theorem ae_Xcr_l {post : Int32 → Prop} (h : post (ae_cr R 3)) : ∀ d i : Nat, i + d = 3 → wX_countRunning_4 post V R H M D K C O (d + 1) (ae_cr R i) (nI i) := by
  intro d
  induction d with
  | zero =>
    intro i hi
    obtain rfl : i = 3 := by omega
    exact br_t (nI_le (a := 3) (b := 3) (by omega) (by decide)) h
  | succ d ih =>
    intro i hi
    have g := ih (i + 1) (by omega)
    by_cases z : R i = 0
    · rw [show ae_cr R (i + 1) = ae_cr R i from if_pos z] at g
      exact br_f (nI_ge (b := 3) (by omega) (by decide)) ⟨ae_3 (by omega), br_t (by rw [ae_cl (by omega)]; exact z) (nm_r (nI_1 i) g)⟩
    · exact br_f (nI_ge (b := 3) (by omega) (by decide)) ⟨ae_3 (by omega), br_f (by rw [ae_cl (by omega)]; exact z) (nm_r (e' := ae_cr R (i + 1)) (if_neg z).symm (nm_r (nI_1 i) g))⟩
theorem ae_Xcr {post : Int32 → Prop} (h : post (ae_cr R 3)) : wpX_countRunning post (V, R, H, M, D, K, C, O) :=
  ⟨4, ae_Xcr_l h 3 0 rfl⟩
theorem ae_Xend {post : SX → Prop} {j : Nat} (hj : j < 3) (h : post (V, upd R j 0, upd H j 0, upd M j 0, upd D j 0, upd K j 0, C, O)) : wpX_end post (V, R, H, M, D, K, C, O) (nI j) := by
  unfold wpX_end
  dsimp only
  rw [ae_cl (by omega), ae_nb0]
  exact ⟨ae_3 hj, nm_e ⟨ae_3 hj, nm_e ⟨ae_3 hj, nm_e ⟨ae_3 hj, nm_e ⟨ae_3 hj, nm_e h⟩⟩⟩⟩⟩
theorem ae_Xtb_l {post : Int32 → SX → Prop} {j c : Nat} (hj : j < 3) (hC : ae_C C) : ∀ (n : Nat) (V : Nat → Int32) (q : Nat) (x : Int32), c + n ≤ 20 → x = nI (c + n) - 1 →
    post (nI (q + n)) (ae_tb C O (j * 20 + c) n V, R, H, M, upd D j (nI c), K, C, O) → wX_takeBack_12 post (nI j) (nI c) (n + 1) (nI q) x V R H M D K C O := by
  intro n
  induction n with
  | zero =>
    intro V q x hn hx h
    subst hx
    refine br_t (ae_lt1 c (by omega)) ⟨ae_3 hj, nm_r (e' := upd D j (nI c)) (by rw [ae_cl (by omega)]) h⟩
  | succ n ih =>
    intro V q x hn hx h
    have hx' : x = nI (c + n) := hx.trans (nI_pred (c + n))
    subst hx'
    have hs : j * 20 + c + n < 60 := by omega
    obtain ⟨z, hz, ez⟩ := hC _ hs
    have es : nI j * 20 + nI (c + n) = nI (j * 20 + c + n) := by rw [ae_sl, Nat.add_assoc]
    refine br_f (nI_nlt (by omega) (by omega)) (nm_r es ?_)
    rw [ae_cl hs]
    have i60 : vp_in (nI (j * 20 + c + n)) 60 := vp_in_nI hs (by decide)
    refine ⟨i60, i60, by rw [ez]; exact vp_in_nI hz (by decide), nm_e (nm_r (nI_1 q) (nm_r (Int32.sub_eq_add_neg _ _).symm ?_))⟩
    refine ih _ _ _ (by omega) rfl ?_
    rw [show q + 1 + n = q + (n + 1) by omega]
    exact h
theorem ae_Xtb {post : Int32 → SX → Prop} {j b c : Nat} (hj : j < 3) (hC : ae_C C) (hD : D j = nI b) (hc : c ≤ b) (hb : b ≤ 20)
    (h : post (nI (b - c)) (ae_tb C O (j * 20 + c) (b - c) V, R, H, M, upd D j (nI c), K, C, O)) : wpX_takeBack post (V, R, H, M, D, K, C, O) (nI j) (nI c) := by
  unfold wpX_takeBack
  dsimp only
  rw [ae_cl (by omega), hD]
  refine ⟨ae_3 hj, nm_e ⟨b - c + 1, ae_Xtb_l hj hC (b - c) V 0 _ (by omega) (by rw [show c + (b - c) = b by omega]) ?_⟩⟩
  rw [Nat.zero_add]
  exact h
theorem ae_Xst {post : Int32 → SX → Prop} {j c b : Nat} {w : Int32} (hj : j < 3) (hc : c < 16) (hb : b < 20) (hD : D j = nI b)
    (h : post (ae_pc (H j ||| ((1 : Int32) <<< (nI c &&& 31))) 16) (upd V c w, R, upd H j (H j ||| ((1 : Int32) <<< (nI c &&& 31))), upd M j (M j + 1), upd D j (nI (b + 1)), K, upd C (j * 20 + b) (nI c), upd O (j * 20 + b) (V c))) :
    wpX_store post (V, R, H, M, D, K, C, O) (nI j) (nI c) w := by
  have hs : j * 20 + b < 60 := by omega
  have i60 : vp_in (nI (j * 20 + b)) 60 := vp_in_nI hs (by decide)
  have ic : vp_in (nI c) 16 := vp_in_nI hc (by decide)
  unfold wpX_store
  dsimp only
  rw [ae_cl (show j < 60 by omega), ae_cl (show c < 60 by omega), hD]
  refine ⟨ae_3 hj, nm_r (ae_sl j b) ?_⟩
  rw [ae_cl hs]
  refine ⟨i60, nm_e ⟨ic, i60, nm_e ⟨ae_3 hj, ae_3 hj, nm_r (e' := upd D j (nI (b + 1))) (by rw [nI_1]) ⟨ae_3 hj, ae_3 hj, nm_e ⟨ae_3 hj, ae_3 hj, nm_e ⟨ic, nm_e ?_⟩⟩⟩⟩⟩⟩
  exact ae_Xch hj (by rw [pk_us]; exact h)
end
end
section
section
variable {V R H M D K C O : Nat → Int32}
theorem ae_ne {i j : Nat} (hi : i < 3) (hj : j < 3) (e : ¬ i = j) : ¬ nI i = nI j := fun z => e ((nI_eq (by omega) (by omega)).mp z)
theorem ae_Xhb1 {post : Int32 → Prop} {j c : Nat} (hj : j < 3) (h : post 1) : ∀ d i : Nat, i + d = 3 → wX_isHeldByAnother_5 post (nI j) (nI c) V R H M D K C O (d + 1) 1 (nI i) := by
  intro d
  induction d with
  | zero =>
    intro i hi
    obtain rfl : i = 3 := by omega
    exact br_t (nI_le (a := 3) (b := 3) (by omega) (by decide)) ⟨congrArg Value.int (by decide), h⟩
  | succ d ih =>
    intro i hi
    have g := ih (i + 1) (by omega)
    by_cases e : i = j
    · exact br_f (nI_ge (b := 3) (by omega) (by decide)) (br_t (by rw [e]) (nm_r (nI_1 i) g))
    · exact br_f (nI_ge (b := 3) (by omega) (by decide)) (br_f (ae_ne (by omega) hj e) ⟨ae_3 (by omega), br_c (fun _ => nm_r (nI_1 i) g) (fun _ => nm_r (nI_1 i) g)⟩)
theorem ae_Xhb0 {post : Int32 → Prop} {j c : Nat} (hj : j < 3) (hA : ∀ n, n < 3 → n ≠ j → (H n &&& ((1 : Int32) <<< (nI c &&& 31))) = 0) (h : post 0) : ∀ d i : Nat, i + d = 3 → wX_isHeldByAnother_5 post (nI j) (nI c) V R H M D K C O (d + 1) 0 (nI i) := by
  intro d
  induction d with
  | zero =>
    intro i hi
    obtain rfl : i = 3 := by omega
    exact br_t (nI_le (a := 3) (b := 3) (by omega) (by decide)) ⟨congrArg Value.int (by decide), h⟩
  | succ d ih =>
    intro i hi
    have g := ih (i + 1) (by omega)
    by_cases e : i = j
    · exact br_f (nI_ge (b := 3) (by omega) (by decide)) (br_t (by rw [e]) (nm_r (nI_1 i) g))
    · exact br_f (nI_ge (b := 3) (by omega) (by decide)) (br_f (ae_ne (by omega) hj e) ⟨ae_3 (by omega), br_t (by rw [ae_cl (by omega)]; exact hA i (by omega) e) (nm_r (nI_1 i) g)⟩)
theorem ae_XhbE {post : Int32 → Prop} {j c : Nat} (hj : j < 3) (h : post 1) : ∀ d i : Nat, i + d = 3 → (∃ n, i ≤ n ∧ n < 3 ∧ n ≠ j ∧ ¬ (H n &&& ((1 : Int32) <<< (nI c &&& 31))) = 0) → wX_isHeldByAnother_5 post (nI j) (nI c) V R H M D K C O (d + 1) 0 (nI i) := by
  intro d
  induction d with
  | zero =>
    intro i hi hE
    obtain ⟨n, h1, h2, _⟩ := hE
    omega
  | succ d ih =>
    intro i hi hE
    obtain ⟨n, h1, h2, h3, h4⟩ := hE
    by_cases e : i = j
    · have g := ih (i + 1) (by omega) ⟨n, by omega, h2, h3, h4⟩
      exact br_f (nI_ge (b := 3) (by omega) (by decide)) (br_t (by rw [e]) (nm_r (nI_1 i) g))
    · by_cases z : (H i &&& ((1 : Int32) <<< (nI c &&& 31))) = 0
      · have hn : i ≠ n := by
          intro q
          subst q
          exact h4 z
        have g := ih (i + 1) (by omega) ⟨n, by omega, h2, h3, h4⟩
        exact br_f (nI_ge (b := 3) (by omega) (by decide)) (br_f (ae_ne (by omega) hj e) ⟨ae_3 (by omega), br_t (by rw [ae_cl (by omega)]; exact z) (nm_r (nI_1 i) g)⟩)
      · exact br_f (nI_ge (b := 3) (by omega) (by decide)) (br_f (ae_ne (by omega) hj e) ⟨ae_3 (by omega), br_f (by rw [ae_cl (by omega)]; exact z) (nm_r (nI_1 i) (ae_Xhb1 hj h d (i + 1) (by omega)))⟩)
theorem ae_Xrw_t {post : Int32 → Prop} {t x : Int32} (ht : t < 0 ∨ 3 ≤ t) (h : post (-1)) : wpX_refusalOfWrite post (V, R, H, M, D, K, C, O) t x := by
  unfold wpX_refusalOfWrite
  exact ae_Xtx0 ht (br_t rfl h)
theorem ae_Xrw_c {post : Int32 → Prop} {j : Nat} {x : Int32} (hj : j < 3) (hx : x < 0 ∨ 16 ≤ x) (h : post (-1)) : wpX_refusalOfWrite post (V, R, H, M, D, K, C, O) (nI j) x := by
  unfold wpX_refusalOfWrite
  exact ae_Xtx1 hj (br_f ae_10 (ae_Xce0 hx (br_t rfl h)))
theorem ae_Xrw_i {post : Int32 → Prop} {j c : Nat} (hj : j < 3) (hc : c < 16) (hR : R j = 0) (h : post (-2)) : wpX_refusalOfWrite post (V, R, H, M, D, K, C, O) (nI j) (nI c) := by
  unfold wpX_refusalOfWrite
  exact ae_Xtx1 hj (br_f ae_10 (ae_Xce1 hc (br_f ae_10 ⟨ae_3 hj, br_t (by rw [ae_cl (by omega)]; exact hR) h⟩)))
theorem ae_Xrw_h {post : Int32 → Prop} {j c : Nat} (hj : j < 3) (hc : c < 16) (hR : R j = 1) (hE : ∃ n, n < 3 ∧ n ≠ j ∧ ¬ (H n &&& ((1 : Int32) <<< (nI c &&& 31))) = 0) (h : post (-3)) : wpX_refusalOfWrite post (V, R, H, M, D, K, C, O) (nI j) (nI c) := by
  obtain ⟨n, h2, h3, h4⟩ := hE
  unfold wpX_refusalOfWrite
  refine ae_Xtx1 hj (br_f ae_10 (ae_Xce1 hc (br_f ae_10 ⟨ae_3 hj, br_f (by rw [ae_cl (by omega), hR]; decide) ?_⟩)))
  exact ⟨4, ae_XhbE hj (br_f ae_10 h) 3 0 rfl ⟨n, by omega, h2, h3, h4⟩⟩
theorem ae_Xrw_n {post : Int32 → Prop} {j c a : Nat} (hj : j < 3) (hc : c < 16) (hR : R j = 1) (hA : ∀ n, n < 3 → n ≠ j → (H n &&& ((1 : Int32) <<< (nI c &&& 31))) = 0) (hM : M j = nI a) (ha : a ≤ 20) (h : (a = 20 → post (-4)) ∧ (a < 20 → post 0)) : wpX_refusalOfWrite post (V, R, H, M, D, K, C, O) (nI j) (nI c) := by
  unfold wpX_refusalOfWrite
  refine ae_Xtx1 hj (br_f ae_10 (ae_Xce1 hc (br_f ae_10 ⟨ae_3 hj, br_f (by rw [ae_cl (by omega), hR]; decide) ?_⟩)))
  refine ⟨4, ae_Xhb0 hj hA (br_t rfl ⟨ae_3 hj, ?_⟩) 3 0 rfl⟩
  rw [ae_cl (by omega), hM]
  by_cases z : a = 20
  · subst z
    exact br_t (nI_le (a := 20) (b := 20) (by omega) (by decide)) (h.1 rfl)
  · exact br_f (nI_ge (b := 20) (by omega) (by decide)) (h.2 (by omega))
theorem ae_Xcs {post : Int32 → SX → Prop} {x : Int32} {n i b : Nat} (hi : i < 3) (hC : ae_C C) (hD : D i = nI b) (hb : b ≤ 20)
    (h : wX_loseRunning_7 post x n (nI (i + 1)) (ae_tb C O (i * 20) b V) (upd R i 0) (upd H i 0) (upd M i 0) (upd D i 0) (upd K i 0) C O) :
    wX_loseRunning_7 post x (n + 1) (nI i) V R H M D K C O := by
  refine br_f (nI_ge (b := 3) hi (by decide)) ?_
  refine ae_Xtb (c := 0) hi hC hD (by omega) hb ?_
  refine ae_Xend hi ?_
  rw [ae_uu]
  exact nm_r (nI_1 i) h
theorem ae_Xlr {post : Int32 → SX → Prop} {b0 b1 b2 : Nat} (hC : ae_C C) (h0 : D 0 = nI b0) (h1 : D 1 = nI b1) (h2 : D 2 = nI b2) (l0 : b0 ≤ 20) (l1 : b1 ≤ 20) (l2 : b2 ≤ 20)
    (h : post (ae_cr R 3) (ae_tb C O (2 * 20) b2 (ae_tb C O (1 * 20) b1 (ae_tb C O (0 * 20) b0 V)), upd (upd (upd R 0 0) 1 0) 2 0, upd (upd (upd H 0 0) 1 0) 2 0, upd (upd (upd M 0 0) 1 0) 2 0, upd (upd (upd D 0 0) 1 0) 2 0, upd (upd (upd K 0 0) 1 0) 2 0, C, O)) :
    wpX_loseRunning post (V, R, H, M, D, K, C, O) := by
  unfold wpX_loseRunning
  refine ae_Xcr ⟨4, ?_⟩
  refine ae_Xcs (i := 0) (by omega) hC h0 l0 ?_
  refine ae_Xcs (i := 1) (by omega) hC (by rw [pk_un (by decide)]; exact h1) l1 ?_
  refine ae_Xcs (i := 2) (by omega) hC (by rw [pk_un (by decide), pk_un (by decide)]; exact h2) l2 ?_
  exact br_t (nI_le (a := 3) (b := 3) (by omega) (by decide)) h
end
end
section
section
variable {V R H M D K C O h m l k : Nat → Int32}
theorem ae_Ytx1 {post : Int32 → Prop} {j : Nat} (hj : j < 3) (p : post 1) : wpY_isTransaction post (V, R, h, m, l, k, C, O) (nI j) :=
  br_f (nI_pos (by omega)) (br_f (nI_ge (b := 3) hj (by decide)) p)
theorem ae_Ytx0 {post : Int32 → Prop} {t : Int32} (ht : t < 0 ∨ 3 ≤ t) (p : post 0) : wpY_isTransaction post (V, R, h, m, l, k, C, O) t := by
  by_cases z : t < 0
  · exact br_t z p
  · exact br_f z (br_t (ht.resolve_left z) p)
theorem ae_Yri0 {post : Int32 → Prop} {t : Int32} (ht : t < 0 ∨ 3 ≤ t) (p : post (-1)) : wpY_refusal post (V, R, h, m, l, k, C, O) t := by
  unfold wpY_refusal
  exact ae_Ytx0 ht (br_t rfl p)
theorem ae_Yri1 {post : Int32 → Prop} {j : Nat} (hj : j < 3) (hR : R j = 0) (p : post (-2)) : wpY_refusal post (V, R, h, m, l, k, C, O) (nI j) := by
  unfold wpY_refusal
  exact ae_Ytx1 hj (br_f ae_10 ⟨ae_3 hj, br_t (by rw [ae_cl (by omega)]; exact hR) p⟩)
theorem ae_Yri2 {post : Int32 → Prop} {j : Nat} (hj : j < 3) (hR : R j = 1) (p : post 0) : wpY_refusal post (V, R, h, m, l, k, C, O) (nI j) := by
  unfold wpY_refusal
  exact ae_Ytx1 hj (br_f ae_10 ⟨ae_3 hj, br_f (by rw [ae_cl (by omega), hR]; decide) p⟩)
theorem ae_Ysz_l {post : Int32 → Prop} {s : Int32} (p : post (ae_pc s 16)) : ∀ d i : Nat, i + d = 16 → wY_size_4 post s V R h m l k C O (d + 1) (ae_pc s i) (nI i) := by
  intro d
  induction d with
  | zero =>
    intro i hi
    obtain rfl : i = 16 := by omega
    exact br_t (nI_le (a := 16) (b := 16) (by omega) (by decide)) p
  | succ d ih =>
    intro i hi
    exact br_f (nI_ge (b := 16) (by omega) (by decide)) (nm_r (e' := ae_pc s (i + 1)) rfl (nm_r (nI_1 i) (ih (i + 1) (by omega))))
theorem ae_Ysz {post : Int32 → Prop} {s : Int32} (p : post (ae_pc s 16)) : wpY_size post (V, R, h, m, l, k, C, O) s :=
  ⟨17, ae_Ysz_l p 16 0 rfl⟩
theorem ae_Ycp_l {post : Int32 → Prop} (p : post (ae_cr R 3)) : ∀ d i : Nat, i + d = 3 → wY_checkpoint_4 post V R h m l k C O (d + 1) (ae_cr R i) (nI i) := by
  intro d
  induction d with
  | zero =>
    intro i hi
    obtain rfl : i = 3 := by omega
    exact br_t (nI_le (a := 3) (b := 3) (by omega) (by decide)) p
  | succ d ih =>
    intro i hi
    have g := ih (i + 1) (by omega)
    by_cases z : R i = 0
    · rw [show ae_cr R (i + 1) = ae_cr R i from if_pos z] at g
      exact br_f (nI_ge (b := 3) (by omega) (by decide)) ⟨ae_3 (by omega), br_t (by rw [ae_cl (by omega)]; exact z) (nm_r (nI_1 i) g)⟩
    · exact br_f (nI_ge (b := 3) (by omega) (by decide)) ⟨ae_3 (by omega), br_f (by rw [ae_cl (by omega)]; exact z) (nm_r (e' := ae_cr R (i + 1)) (if_neg z).symm (nm_r (nI_1 i) g))⟩
theorem ae_Ycp {post : Int32 → Prop} (p : post (ae_cr R 3)) : wpY_checkpoint post (V, R, h, m, l, k, C, O) :=
  ⟨4, ae_Ycp_l p 3 0 rfl⟩
theorem ae_Yho {post : Int32 → Prop} {i : Nat} (hi : i < 3) (hT : ae_T R H M D K h m l k i) (p : post (H i)) : wpY_holds post (V, R, h, m, l, k, C, O) (nI i) := by
  unfold wpY_holds
  refine ae_Ytx1 hi (br_f ae_10 ⟨ae_3 hi, ?_⟩)
  rw [ae_cl (by omega)]
  rcases hT with ⟨hR, hH, _⟩ | ⟨hR, hh, _⟩
  · rw [hH] at p
    exact br_t hR p
  · rw [← hh] at p
    exact br_f (by rw [hR]; decide) ⟨ae_3 hi, p⟩
theorem ae_Ytb_l {post : Int32 → SY → Prop} {j c : Nat} (hj : j < 3) (hC : ae_C C) : ∀ (n : Nat) (V l : Nat → Int32) (q : Nat), c + n ≤ 20 → l j = nI (c + n) →
    (∀ l' : Nat → Int32, l' j = nI c → (∀ i, i ≠ j → l' i = l i) → post (nI (q + n)) (ae_tb C O (j * 20 + c) n V, R, h, m, l', k, C, O)) → wY_takeBack_2 post (nI j) (nI c) (n + 1) (nI q) V R h m l k C O := by
  intro n
  induction n with
  | zero =>
    intro V l q hn hl p
    refine ⟨ae_3 hj, br_t ?_ (p l hl (fun _ _ => rfl))⟩
    rw [ae_cl (by omega), hl]
    exact nI_le (by omega) (by omega)
  | succ n ih =>
    intro V l q hn hl p
    have hs : j * 20 + c + n < 60 := by omega
    obtain ⟨z, hz, ez⟩ := hC _ hs
    have es : nI j * 20 + nI (c + n) = nI (j * 20 + c + n) := by rw [ae_sl, Nat.add_assoc]
    have i60 : vp_in (nI (j * 20 + c + n)) 60 := vp_in_nI hs (by decide)
    have hl' : l j - 1 = nI (c + n) := by
      rw [hl]
      exact nI_pred (c + n)
    refine ⟨ae_3 hj, br_f ?_ ⟨ae_3 hj, ae_3 hj, nm_r (e' := upd l j (nI (c + n))) (by rw [ae_cl (by omega), hl']) ?_⟩⟩
    · rw [ae_cl (by omega), hl]
      exact nI_ge (by omega) (by omega)
    rw [ae_cl (show j < 60 by omega), pk_us, es, ae_cl hs]
    refine ⟨ae_3 hj, i60, ae_3 hj, i60, by rw [ez]; exact vp_in_nI hz (by decide), nm_e (nm_r (nI_1 q) ?_)⟩
    refine ih _ _ _ (by omega) pk_us (fun l' h1 h2 => ?_)
    rw [show q + 1 + n = q + (n + 1) by omega]
    exact p l' h1 (fun i e => (h2 i e).trans (pk_un e))
theorem ae_Ytb {post : Int32 → SY → Prop} {j b c : Nat} (hj : j < 3) (hC : ae_C C) (hl : l j = nI b) (hc : c ≤ b) (hb : b ≤ 20)
    (p : ∀ l' : Nat → Int32, l' j = nI c → (∀ i, i ≠ j → l' i = l i) → post (nI (b - c)) (ae_tb C O (j * 20 + c) (b - c) V, R, h, m, l', k, C, O)) : wpY_takeBack post (V, R, h, m, l, k, C, O) (nI j) (nI c) := by
  refine ⟨b - c + 1, ae_Ytb_l hj hC (b - c) V l 0 (by omega) (by rw [show c + (b - c) = b by omega]; exact hl) ?_⟩
  rw [Nat.zero_add]
  exact p
theorem ae_Yab0 {post : Int32 → SY → Prop} {t : Int32} (ht : t < 0 ∨ 3 ≤ t) (p : post (-1) (V, R, h, m, l, k, C, O)) : wpY_abort post (V, R, h, m, l, k, C, O) t := by
  unfold wpY_abort
  exact ae_Yri0 ht (br_f (by decide) p)
theorem ae_Yab1 {post : Int32 → SY → Prop} {j : Nat} (hj : j < 3) (hR : R j = 0) (p : post (-2) (V, R, h, m, l, k, C, O)) : wpY_abort post (V, R, h, m, l, k, C, O) (nI j) := by
  unfold wpY_abort
  exact ae_Yri1 hj hR (br_f (by decide) p)
theorem ae_Yab2 {post : Int32 → SY → Prop} {j b : Nat} (hj : j < 3) (hC : ae_C C) (hR : R j = 1) (hl : l j = nI b) (hb : b ≤ 20)
    (p : ∀ l' : Nat → Int32, (∀ i, i ≠ j → l' i = l i) → post (ae_pc (h j) 16) (ae_tb C O (j * 20) b V, upd R j 0, h, m, l', k, C, O)) : wpY_abort post (V, R, h, m, l, k, C, O) (nI j) := by
  unfold wpY_abort
  refine ae_Yri2 hj hR (br_t (by decide) ?_)
  refine ae_Ytb (c := 0) hj hC hl (by omega) hb (fun l' _ h2 => ?_)
  dsimp only
  rw [ae_cl (show j < 60 by omega), ae_nb0]
  exact ⟨ae_3 hj, nm_e ⟨ae_3 hj, ae_Ysz (p l' h2)⟩⟩
theorem ae_Ycs {post : Int32 → SY → Prop} {x : Int32} {n i b : Nat} (hi : i < 3) (hC : ae_C C) (hT : ae_T R H M D K h m l k i) (hD : D i = nI b) (hb : b ≤ 20)
    (p : ∀ l' : Nat → Int32, (∀ q, q ≠ i → l' q = l q) → wY_crash_7 post x n (nI (i + 1)) (ae_tb C O (i * 20) b V) (upd R i 0) h m l' k C O) :
    wY_crash_7 post x (n + 1) (nI i) V R h m l k C O := by
  refine br_f (nI_ge (b := 3) hi (by decide)) ?_
  rcases hT with ⟨hR, _, _, hD', _⟩ | ⟨hR, _, a, b', c, _, _, _, _, _, hD', hl, _⟩
  · refine ae_Yab1 hi hR (nm_r (nI_1 i) ?_)
    have e : b = 0 := (nI_eq (a := b) (b := 0) (by omega) (by omega)).mp (hD.symm.trans hD')
    subst e
    have g := p l (fun _ _ => rfl)
    rw [ae_ue hR] at g
    exact g
  · have e : b = b' := by
      by_cases z : b' < 2 ^ 31
      · exact (nI_eq (by omega) z).mp (hD.symm.trans hD')
      · omega
    subst e
    exact ae_Yab2 hi hC hR hl hb (fun l' h2 => nm_r (nI_1 i) (p l' h2))
end
end
section
section
variable {V R H M D K C O h m l k : Nat → Int32}
theorem ae_Ywx {post : Int32 → SY → Prop} {j c a b n : Nat} {w : Int32} (hj : j < 3) (hc : c < 16) (hm : m j = nI a) (ha : a ≤ 20) (hl : l j = nI b) (hb : b ≤ a)
    (p : (a = 20 → post (-4) (V, R, h, m, l, k, C, O)) ∧ (a < 20 → post (ae_pc (h j ||| ((1 : Int32) <<< (nI c &&& 31))) 16) (upd V c w, R, upd h j (h j ||| ((1 : Int32) <<< (nI c &&& 31))), upd m j (m j + 1), upd l j (nI (b + 1)), k, upd C (j * 20 + b) (nI c), upd O (j * 20 + b) (V c)))) :
    wY_write_35 post (nI j) (nI c) w V R h m l k C O (n + 1) (nI 3) := by
  refine br_t (nI_le (a := 3) (b := 3) (by omega) (by decide)) ⟨ae_3 hj, ?_⟩
  rw [ae_cl (show j < 60 by omega)]
  by_cases z : a = 20
  · subst z
    exact br_t hm (p.1 rfl)
  · have hs : j * 20 + b < 60 := by omega
    have i60 : vp_in (nI (j * 20 + b)) 60 := vp_in_nI hs (by decide)
    have ic : vp_in (nI c) 16 := vp_in_nI hc (by decide)
    refine br_f (fun y => z ((nI_eq (a := a) (b := 20) (by omega) (by decide)).mp (hm.symm.trans y))) ?_
    rw [ae_cl (show c < 60 by omega), hl, ae_sl, ae_cl hs]
    refine ⟨ae_3 hj, i60, nm_e ⟨ae_3 hj, ic, i60, nm_e ⟨ae_3 hj, ae_3 hj, nm_r (e' := upd l j (nI (b + 1))) (by rw [nI_1]) ⟨ae_3 hj, ae_3 hj, nm_e ⟨ae_3 hj, ae_3 hj, nm_e ⟨ic, nm_e ⟨ae_3 hj, ?_⟩⟩⟩⟩⟩⟩⟩
    refine ae_Ysz ?_
    rw [pk_us]
    exact p.2 (by omega)
theorem ae_Ywl {post : Int32 → SY → Prop} {j c : Nat} {w : Int32} (hj : j < 3) (hc : c < 16) (hT : ∀ i, i < 3 → ae_T R H M D K h m l k i)
    (hA : (∀ q, q < 3 → q ≠ j → (H q &&& ((1 : Int32) <<< (nI c &&& 31))) = 0) → ∀ n, wY_write_35 post (nI j) (nI c) w V R h m l k C O (n + 1) (nI 3))
    (hE : (∃ q, q < 3 ∧ q ≠ j ∧ ¬ (H q &&& ((1 : Int32) <<< (nI c &&& 31))) = 0) → post (-3) (V, R, h, m, l, k, C, O)) :
    ∀ d i : Nat, i + d = 3 → (∀ q, q < i → q ≠ j → (H q &&& ((1 : Int32) <<< (nI c &&& 31))) = 0) → wY_write_35 post (nI j) (nI c) w V R h m l k C O (d + 1) (nI i) := by
  intro d
  induction d with
  | zero =>
    intro i hi hp
    obtain rfl : i = 3 := by omega
    exact hA hp 0
  | succ d ih =>
    intro i hi hp
    by_cases e : i = j
    · have g := ih (i + 1) (by omega) (fun q h1 h2 => hp q (by omega) h2)
      exact br_f (nI_ge (b := 3) (by omega) (by decide)) (br_t (by rw [e]) (nm_r (nI_1 i) g))
    · refine br_f (nI_ge (b := 3) (by omega) (by decide)) (br_f (ae_ne (by omega) hj e) (ae_Yho (by omega) (hT i (by omega)) ?_))
      by_cases z : (H i &&& ((1 : Int32) <<< (nI c &&& 31))) = 0
      · refine br_t ((ae_bit _ c (by omega)).mpr z) (nm_r (nI_1 i) (ih (i + 1) (by omega) (fun q h1 h2 => ?_)))
        by_cases y : q = i
        · rw [y]
          exact z
        · exact hp q (by omega) h2
      · exact br_f (fun y => z ((ae_bit _ c (by omega)).mp y)) (hE ⟨i, by omega, e, z⟩)
theorem ae_Yw_t {post : Int32 → SY → Prop} {t x w : Int32} (ht : t < 0 ∨ 3 ≤ t) (p : post (-1) (V, R, h, m, l, k, C, O)) : wpY_write post (V, R, h, m, l, k, C, O) t x w := by
  unfold wpY_write
  exact ae_Ytx0 ht (br_t rfl p)
theorem ae_Yw_c {post : Int32 → SY → Prop} {j : Nat} {x w : Int32} (hj : j < 3) (hx : x < 0 ∨ 16 ≤ x) (p : post (-1) (V, R, h, m, l, k, C, O)) : wpY_write post (V, R, h, m, l, k, C, O) (nI j) x w := by
  unfold wpY_write
  refine ae_Ytx1 hj (br_f ae_10 ?_)
  by_cases z : x < 0
  · exact br_t z p
  · exact br_f z (br_f (fun y => absurd (Int32.le_trans (hx.resolve_left z) y) (by decide)) p)
theorem ae_Yw_i {post : Int32 → SY → Prop} {j c : Nat} {w : Int32} (hj : j < 3) (hc : c < 16) (hR : R j = 0) (p : post (-2) (V, R, h, m, l, k, C, O)) : wpY_write post (V, R, h, m, l, k, C, O) (nI j) (nI c) w := by
  unfold wpY_write
  exact ae_Ytx1 hj (br_f ae_10 (br_f (nI_pos (by omega)) (br_t (nI_le (b := 15) (by omega) (by decide)) ⟨ae_3 hj, br_t (by rw [ae_cl (by omega)]; exact hR) p⟩)))
theorem ae_Yw_r {post : Int32 → SY → Prop} {j c : Nat} {w : Int32} (hj : j < 3) (hc : c < 16) (hR : R j = 1) (hT : ∀ i, i < 3 → ae_T R H M D K h m l k i)
    (hA : (∀ q, q < 3 → q ≠ j → (H q &&& ((1 : Int32) <<< (nI c &&& 31))) = 0) → ∀ n, wY_write_35 post (nI j) (nI c) w V R h m l k C O (n + 1) (nI 3))
    (hE : (∃ q, q < 3 ∧ q ≠ j ∧ ¬ (H q &&& ((1 : Int32) <<< (nI c &&& 31))) = 0) → post (-3) (V, R, h, m, l, k, C, O)) : wpY_write post (V, R, h, m, l, k, C, O) (nI j) (nI c) w := by
  unfold wpY_write
  refine ae_Ytx1 hj (br_f ae_10 (br_f (nI_pos (by omega)) (br_t (nI_le (b := 15) (by omega) (by decide)) ⟨ae_3 hj, br_f (by rw [ae_cl (by omega), hR]; decide) ?_⟩)))
  exact ⟨4, ae_Ywl hj hc hT hA hE 3 0 rfl (fun q h1 _ => absurd h1 (Nat.not_lt_zero q))⟩
end
/-! the relation, without the turn's number -/
def ae_R (u : SX) (v : SY) : Prop :=
  ∃ V R H M D K C O h m l k : Nat → Int32, u = (V, R, H, M, D, K, C, O) ∧ v = (V, R, h, m, l, k, C, O) ∧ ae_C C ∧ ∀ i, i < 3 → ae_T R H M D K h m l k i
theorem ae_keep {R H M D K h m l k R' H' M' D' K' h' m' l' k' : Nat → Int32} {j : Nat} (T : ∀ i, i < 3 → ae_T R H M D K h m l k i)
    (hR : ∀ i, i ≠ j → R' i = R i) (hH : ∀ i, i ≠ j → H' i = H i) (hM : ∀ i, i ≠ j → M' i = M i) (hD : ∀ i, i ≠ j → D' i = D i) (hK : ∀ i, i ≠ j → K' i = K i)
    (hh : ∀ i, i ≠ j → h' i = h i) (hm : ∀ i, i ≠ j → m' i = m i) (hl : ∀ i, i ≠ j → l' i = l i) (hk : ∀ i, i ≠ j → k' i = k i)
    (Tj : ae_T R' H' M' D' K' h' m' l' k' j) : ∀ i, i < 3 → ae_T R' H' M' D' K' h' m' l' k' i := by
  intro i hi
  by_cases e : i = j
  · rw [e]
    exact Tj
  · unfold ae_T
    rw [hR i e, hH i e, hM i e, hD i e, hK i e, hh i e, hm i e, hl i e, hk i e]
    exact T i hi
/-! a write, or an add, is refused by both with one answer, or done by both -/
theorem ae_W {V R H M D K C O h m l k : Nat → Int32} (hC : ae_C C) (hT : ∀ i, i < 3 → ae_T R H M D K h m l k i) (t x : Int32) :
    (∃ r : Int32, r ≠ 0 ∧ (∀ post : Int32 → Prop, post r → wpX_refusalOfWrite post (V, R, H, M, D, K, C, O) t x) ∧ (∀ (w : Int32) (post : Int32 → SY → Prop), post r (V, R, h, m, l, k, C, O) → wpY_write post (V, R, h, m, l, k, C, O) t x w)) ∨
    (∃ c : Nat, c < 16 ∧ x = nI c ∧ (∀ post : Int32 → Prop, post 0 → wpX_refusalOfWrite post (V, R, H, M, D, K, C, O) t x) ∧
      ∀ w : Int32, ∃ (r : Int32) (u' : SX) (v' : SY), ae_R u' v' ∧ (∀ post : Int32 → SX → Prop, post r u' → wpX_store post (V, R, H, M, D, K, C, O) t x w) ∧ (∀ post : Int32 → SY → Prop, post r v' → wpY_write post (V, R, h, m, l, k, C, O) t x w)) := by
  rcases ae_tx t with ⟨ht, _⟩ | ⟨j, hj, rfl⟩
  · exact Or.inl ⟨-1, by decide, fun post p => ae_Xrw_t ht p, fun w post p => ae_Yw_t ht p⟩
  have hx : (x < 0 ∨ 16 ≤ x) ∨ ∃ c : Nat, c < 16 ∧ x = nI c := by
    rcases pk_ix x (n := 16) (by decide) with y | y | y
    · exact Or.inl (Or.inl y)
    · exact Or.inl (Or.inr y)
    · exact Or.inr y
  rcases hx with hx | ⟨c, hc, rfl⟩
  · exact Or.inl ⟨-1, by decide, fun post p => ae_Xrw_c hj hx p, fun w post p => ae_Yw_c hj hx p⟩
  rcases hT j hj with ⟨hR, _⟩ | ⟨hR, hh, a, b, c', l1, l2, l3, hM, hm, hD, hl, hK, hk⟩
  · exact Or.inl ⟨-2, by decide, fun post p => ae_Xrw_i hj hc hR p, fun w post p => ae_Yw_i hj hc hR p⟩
  by_cases hE : ∃ q, q < 3 ∧ q ≠ j ∧ ¬ (H q &&& ((1 : Int32) <<< (nI c &&& 31))) = 0
  · refine Or.inl ⟨-3, by decide, fun post p => ae_Xrw_h hj hc hR hE p, fun w post p => ae_Yw_r hj hc hR hT (fun hA => ?_) (fun _ => p)⟩
    obtain ⟨q, h1, h2, h3⟩ := hE
    exact absurd (hA q h1 h2) h3
  have hA : ∀ q, q < 3 → q ≠ j → (H q &&& ((1 : Int32) <<< (nI c &&& 31))) = 0 := by
    intro q h1 h2
    by_cases z : (H q &&& ((1 : Int32) <<< (nI c &&& 31))) = 0
    · exact z
    · exact absurd ⟨q, h1, h2, z⟩ hE
  by_cases ha : a = 20
  · exact Or.inl ⟨-4, by decide, fun post p => ae_Xrw_n hj hc hR hA hM l3 ⟨fun _ => p, fun y => absurd ha (by omega)⟩,
      fun w post p => ae_Yw_r hj hc hR hT (fun _ n => ae_Ywx hj hc hm l3 hl l2 ⟨fun _ => p, fun y => absurd ha (by omega)⟩) (fun y => absurd y hE)⟩
  refine Or.inr ⟨c, hc, rfl, fun post p => ae_Xrw_n hj hc hR hA hM l3 ⟨fun y => absurd y ha, fun _ => p⟩, fun w => ?_⟩
  refine ⟨ae_pc (H j ||| ((1 : Int32) <<< (nI c &&& 31))) 16,
    (upd V c w, R, upd H j (H j ||| ((1 : Int32) <<< (nI c &&& 31))), upd M j (M j + 1), upd D j (nI (b + 1)), K, upd C (j * 20 + b) (nI c), upd O (j * 20 + b) (V c)),
    (upd V c w, R, upd h j (H j ||| ((1 : Int32) <<< (nI c &&& 31))), upd m j (m j + 1), upd l j (nI (b + 1)), k, upd C (j * 20 + b) (nI c), upd O (j * 20 + b) (V c)),
    ?_, fun post p => ae_Xst (b := b) hj hc (by omega) hD p, fun post p => ae_Yw_r hj hc hR hT (fun _ n => ae_Ywx hj hc hm l3 hl l2 ⟨fun y => absurd y ha, fun _ => by rw [hh]; exact p⟩) (fun y => absurd y hE)⟩
  refine ⟨_, _, _, _, _, _, _, _, _, _, _, _, rfl, rfl, ae_Cu hC hc, ?_⟩
  refine ae_keep (j := j) hT (fun _ _ => rfl) (fun _ e => pk_un e) (fun _ e => pk_un e) (fun _ e => pk_un e) (fun _ _ => rfl) (fun _ e => pk_un e) (fun _ e => pk_un e) (fun _ e => pk_un e) (fun _ _ => rfl) ?_
  refine Or.inr ⟨hR, by rw [pk_us, pk_us], a + 1, b + 1, c', by omega, by omega, by omega, by rw [pk_us, hM, nI_1], by rw [pk_us, hm, nI_1], pk_us, pk_us, hK, hk⟩
end
section
def i_Rel (k : Nat) (u : SX) (v : SY) : Prop := ae_R u v
theorem i_up {k : Nat} {u : SX} {v : SY} (h : i_Rel k u v) : i_Rel (k + 4) u v := h
theorem i_vc0 (k0 : Int32) : wpX_init (fun u => wpY_init (fun v => i_Rel 1 u v) k0) k0 :=
  ⟨fun _ => 0, fun _ => 0, fun _ => 0, fun _ => 0, fun _ => 0, fun _ => 0, fun _ => 0, fun _ => 0, fun _ => 0, fun _ => 0, fun _ => 0, fun _ => 0, rfl, rfl, fun _ _ => ⟨0, by decide, rfl⟩, fun _ _ => Or.inl ⟨rfl, rfl, rfl, rfl, rfl⟩⟩
theorem i_vc_begin {k : Nat} {u : SX} {v : SY} (I : i_Rel k u v) (hk : k + 4 ≤ 2049) (v1 : Int32) : wpX_begin (fun r u' => wpY_begin (fun r' v' => r' = r ∧ i_Rel (k + 4) u' v') v v1) u v1 := by
  have I' := I
  obtain ⟨V, R, H, M, D, K, C, O, h, m, l, q, rfl, rfl, hC, hT⟩ := I
  unfold wpX_begin
  rcases ae_tx v1 with ⟨ht, _⟩ | ⟨j, hj, rfl⟩
  · refine ae_Xtx0 ht (br_t rfl ?_)
    unfold wpY_begin
    exact ae_Ytx0 ht (br_t rfl ⟨rfl, I'⟩)
  refine ae_Xtx1 hj (br_f ae_10 ⟨ae_3 hj, ?_⟩)
  rw [ae_cl (by omega)]
  rcases hT j hj with ⟨hR, hH, hM, hD, hK⟩ | ⟨hR, _⟩
  · refine br_t hR ⟨ae_3 hj, nm_r (e' := upd R j 1) (by rw [ae_nb1]) ?_⟩
    unfold wpY_begin
    refine ae_Ytx1 hj (br_f ae_10 ⟨ae_3 hj, ?_⟩)
    rw [ae_cl (by omega)]
    refine br_t hR ⟨ae_3 hj, nm_r (e' := upd R j 1) (by rw [ae_nb1]) ⟨ae_3 hj, nm_e ⟨ae_3 hj, nm_e ⟨ae_3 hj, nm_e ⟨ae_3 hj, nm_e ⟨rfl, ?_⟩⟩⟩⟩⟩⟩
    refine ⟨_, _, _, _, _, _, _, _, _, _, _, _, rfl, rfl, hC, ?_⟩
    refine ae_keep (j := j) hT (fun _ e => pk_un e) (fun _ _ => rfl) (fun _ _ => rfl) (fun _ _ => rfl) (fun _ _ => rfl) (fun _ e => pk_un e) (fun _ e => pk_un e) (fun _ e => pk_un e) (fun _ e => pk_un e) ?_
    exact Or.inr ⟨pk_us, by rw [pk_us, hH], 0, 0, 0, by omega, by omega, by omega, hM, pk_us, hD, pk_us, hK, pk_us⟩
  · have n1 : ¬ R j = 0 := by rw [hR]; decide
    refine br_f n1 ?_
    unfold wpY_begin
    refine ae_Ytx1 hj (br_f ae_10 ⟨ae_3 hj, ?_⟩)
    rw [ae_cl (by omega)]
    exact br_f n1 ⟨rfl, I'⟩
theorem i_vc_write {k : Nat} {u : SX} {v : SY} (I : i_Rel k u v) (hk : k + 4 ≤ 2049) (v1 : Int32) (v2 : Int32) (v3 : Int32) : wpX_write (fun r u' => wpY_write (fun r' v' => r' = r ∧ i_Rel (k + 4) u' v') v v1 v2 v3) u v1 v2 v3 := by
  have I' := I
  obtain ⟨V, R, H, M, D, K, C, O, h, m, l, q, rfl, rfl, hC, hT⟩ := I
  unfold wpX_write
  rcases ae_W hC hT v1 v2 with ⟨r, hr, hX, hY⟩ | ⟨c, hc, _, hX, hw⟩
  · exact hX _ (br_f hr (hY _ _ ⟨rfl, I'⟩))
  · obtain ⟨r, u', v', hr, hS, hY⟩ := hw v3
    exact hX _ (br_t rfl (hS _ (hY _ ⟨rfl, hr⟩)))
theorem i_vc_add {k : Nat} {u : SX} {v : SY} (I : i_Rel k u v) (hk : k + 4 ≤ 2049) (v1 : Int32) (v2 : Int32) (v3 : Int32) : wpX_add (fun r u' => wpY_add (fun r' v' => r' = r ∧ i_Rel (k + 4) u' v') v v1 v2 v3) u v1 v2 v3 := by
  have I' := I
  obtain ⟨V, R, H, M, D, K, C, O, h, m, l, q, rfl, rfl, hC, hT⟩ := I
  unfold wpX_add
  rcases ae_W hC hT v1 v2 with ⟨r, hr, hX, hY⟩ | ⟨c, hc, rfl, hX, hw⟩
  · refine hX _ (br_f hr ?_)
    unfold wpY_add
    unfold wpY_read
    exact br_c (fun _ => nm_e (hY _ _ ⟨rfl, I'⟩)) (fun z => br_c (fun _ => nm_e (hY _ _ ⟨rfl, I'⟩)) (fun y => ⟨ae_i16 z y, nm_e (hY _ _ ⟨rfl, I'⟩)⟩))
  · obtain ⟨r, u', v', hr, hS, hY⟩ := hw (V c + v3)
    have ic : vp_in (nI c) 16 := vp_in_nI hc (by decide)
    refine hX _ (br_t rfl ⟨ic, ?_⟩)
    rw [ae_cl (by omega)]
    refine hS _ ?_
    unfold wpY_add
    unfold wpY_read
    dsimp only
    rw [ae_cl (by omega)]
    exact br_f (nI_pos (by omega)) (br_f (nI_ge (b := 16) hc (by decide)) ⟨ic, nm_e (hY _ ⟨rfl, hr⟩)⟩)
theorem i_vc_read {k : Nat} {u : SX} {v : SY} (I : i_Rel k u v) (hk : k + 4 ≤ 2049) (v1 : Int32) : wpX_read (fun r => wpY_read (fun r' => r' = r ∧ i_Rel (k + 4) u v) v v1) u v1 := by
  have I' := I
  obtain ⟨V, R, H, M, D, K, C, O, h, m, l, q, rfl, rfl, hC, hT⟩ := I
  unfold wpX_read
  rcases pk_ix v1 (n := 16) (by decide) with y | y | ⟨c, hc, rfl⟩
  · exact ae_Xce0 (Or.inl y) (br_t rfl (br_t y ⟨rfl, I'⟩))
  · have z : ¬ v1 < 0 := fun z => absurd (Int32.lt_of_le_of_lt y z) (by decide)
    exact ae_Xce0 (Or.inr y) (br_t rfl (br_f z (br_t y ⟨rfl, I'⟩)))
  · have ic : vp_in (nI c) 16 := vp_in_nI hc (by decide)
    exact ae_Xce1 hc (br_f ae_10 ⟨ic, br_f (nI_pos (by omega)) (br_f (nI_ge (b := 16) hc (by decide)) ⟨ic, rfl, I'⟩)⟩)
theorem i_vc_commit {k : Nat} {u : SX} {v : SY} (I : i_Rel k u v) (hk : k + 4 ≤ 2049) (v1 : Int32) : wpX_commit (fun r u' => wpY_commit (fun r' v' => r' = r ∧ i_Rel (k + 4) u' v') v v1) u v1 := by
  have I' := I
  obtain ⟨V, R, H, M, D, K, C, O, h, m, l, q, rfl, rfl, hC, hT⟩ := I
  unfold wpX_commit
  rcases ae_tx v1 with ⟨ht, _⟩ | ⟨j, hj, rfl⟩
  · refine ae_Xri0 ht (br_f (by decide) ?_)
    unfold wpY_commit
    exact ae_Yri0 ht (br_f (by decide) ⟨rfl, I'⟩)
  rcases hT j hj with ⟨hR, _⟩ | ⟨hR, hh, _⟩
  · refine ae_Xri1 hj hR (br_f (by decide) ?_)
    unfold wpY_commit
    exact ae_Yri1 hj hR (br_f (by decide) ⟨rfl, I'⟩)
  refine ae_Xri2 hj hR (br_t rfl (ae_Xch hj (ae_Xend hj ?_)))
  show wpY_commit _ _ _
  unfold wpY_commit
  refine ae_Yri2 hj hR (br_t (by decide) ?_)
  rw [ae_cl (by omega), ae_nb0, hh]
  refine ⟨ae_3 hj, nm_e ⟨ae_3 hj, ae_Ysz ⟨rfl, ?_⟩⟩⟩
  refine ⟨_, _, _, _, _, _, _, _, _, _, _, _, rfl, rfl, hC, ?_⟩
  refine ae_keep (j := j) hT (fun _ e => pk_un e) (fun _ e => pk_un e) (fun _ e => pk_un e) (fun _ e => pk_un e) (fun _ e => pk_un e) (fun _ _ => rfl) (fun _ _ => rfl) (fun _ _ => rfl) (fun _ _ => rfl) ?_
  exact Or.inl ⟨pk_us, pk_us, pk_us, pk_us, pk_us⟩
theorem i_vc_abort {k : Nat} {u : SX} {v : SY} (I : i_Rel k u v) (hk : k + 4 ≤ 2049) (v1 : Int32) : wpX_abort (fun r u' => wpY_abort (fun r' v' => r' = r ∧ i_Rel (k + 4) u' v') v v1) u v1 := by
  have I' := I
  obtain ⟨V, R, H, M, D, K, C, O, h, m, l, q, rfl, rfl, hC, hT⟩ := I
  unfold wpX_abort
  rcases ae_tx v1 with ⟨ht, _⟩ | ⟨j, hj, rfl⟩
  · exact ae_Xri0 ht (br_f (by decide) (ae_Yab0 ht ⟨rfl, I'⟩))
  rcases hT j hj with ⟨hR, _⟩ | ⟨hR, hh, a, b, c, l1, l2, l3, hM, hm, hD, hl, hK, hk'⟩
  · exact ae_Xri1 hj hR (br_f (by decide) (ae_Yab1 hj hR ⟨rfl, I'⟩))
  refine ae_Xri2 hj hR (br_t rfl (ae_Xch hj (ae_Xtb (c := 0) hj hC hD (by omega) (by omega) (ae_Xend hj ?_))))
  show wpY_abort _ _ _
  refine ae_Yab2 hj hC hR hl (by omega) (fun l' h2 => ⟨by rw [hh], ?_⟩)
  refine ⟨_, _, _, _, _, _, _, _, _, _, _, _, rfl, rfl, hC, ?_⟩
  refine ae_keep (j := j) hT (fun _ e => pk_un e) (fun _ e => pk_un e) (fun _ e => pk_un e) (fun _ e => (pk_un e).trans (pk_un e)) (fun _ e => pk_un e) (fun _ _ => rfl) (fun _ _ => rfl) h2 (fun _ _ => rfl) ?_
  exact Or.inl ⟨pk_us, pk_us, pk_us, pk_us, pk_us⟩
theorem i_vc_mark {k : Nat} {u : SX} {v : SY} (I : i_Rel k u v) (hk : k + 4 ≤ 2049) (v1 : Int32) : wpX_mark (fun r u' => wpY_mark (fun r' v' => r' = r ∧ i_Rel (k + 4) u' v') v v1) u v1 := by
  have I' := I
  obtain ⟨V, R, H, M, D, K, C, O, h, m, l, q, rfl, rfl, hC, hT⟩ := I
  unfold wpX_mark
  rcases ae_tx v1 with ⟨ht, _⟩ | ⟨j, hj, rfl⟩
  · refine ae_Xri0 ht (br_f (by decide) ?_)
    unfold wpY_mark
    exact ae_Yri0 ht (br_f (by decide) ⟨rfl, I'⟩)
  rcases hT j hj with ⟨hR, _⟩ | ⟨hR, hh, a, b, c, l1, l2, l3, hM, hm, hD, hl, hK, hk'⟩
  · refine ae_Xri1 hj hR (br_f (by decide) ?_)
    unfold wpY_mark
    exact ae_Yri1 hj hR (br_f (by decide) ⟨rfl, I'⟩)
  refine ae_Xri2 hj hR (br_t rfl ⟨ae_3 hj, ae_3 hj, nm_r (e' := upd K j (nI b)) (by rw [ae_cl (by omega), hD]) ?_⟩)
  unfold wpY_mark
  refine ae_Yri2 hj hR (br_t (by decide) ⟨ae_3 hj, ae_3 hj, nm_r (e' := upd q j (nI b)) (by rw [ae_cl (by omega), hl]) ⟨rfl, ?_⟩⟩)
  refine ⟨_, _, _, _, _, _, _, _, _, _, _, _, rfl, rfl, hC, ?_⟩
  refine ae_keep (j := j) hT (fun _ _ => rfl) (fun _ _ => rfl) (fun _ _ => rfl) (fun _ _ => rfl) (fun _ e => pk_un e) (fun _ _ => rfl) (fun _ _ => rfl) (fun _ _ => rfl) (fun _ e => pk_un e) ?_
  exact Or.inr ⟨hR, hh, a, b, b, by omega, l2, l3, hM, hm, hD, hl, pk_us, pk_us⟩
theorem i_vc_back {k : Nat} {u : SX} {v : SY} (I : i_Rel k u v) (hk : k + 4 ≤ 2049) (v1 : Int32) : wpX_back (fun r u' => wpY_back (fun r' v' => r' = r ∧ i_Rel (k + 4) u' v') v v1) u v1 := by
  have I' := I
  obtain ⟨V, R, H, M, D, K, C, O, h, m, l, q, rfl, rfl, hC, hT⟩ := I
  unfold wpX_back
  rcases ae_tx v1 with ⟨ht, _⟩ | ⟨j, hj, rfl⟩
  · refine ae_Xri0 ht (br_f (by decide) ?_)
    unfold wpY_back
    exact ae_Yri0 ht (br_f (by decide) ⟨rfl, I'⟩)
  rcases hT j hj with ⟨hR, _⟩ | ⟨hR, hh, a, b, c, l1, l2, l3, hM, hm, hD, hl, hK, hk'⟩
  · refine ae_Xri1 hj hR (br_f (by decide) ?_)
    unfold wpY_back
    exact ae_Yri1 hj hR (br_f (by decide) ⟨rfl, I'⟩)
  refine ae_Xri2 hj hR (br_t rfl ⟨ae_3 hj, ?_⟩)
  rw [ae_cl (by omega), hK]
  refine ae_Xtb hj hC hD l1 (by omega) ?_
  show wpY_back _ _ _
  unfold wpY_back
  refine ae_Yri2 hj hR (br_t (by decide) ⟨ae_3 hj, ?_⟩)
  rw [ae_cl (by omega), hk']
  refine ae_Ytb hj hC hl l1 (by omega) (fun l' h1 h2 => ⟨rfl, ?_⟩)
  refine ⟨_, _, _, _, _, _, _, _, _, _, _, _, rfl, rfl, hC, ?_⟩
  refine ae_keep (j := j) hT (fun _ _ => rfl) (fun _ _ => rfl) (fun _ _ => rfl) (fun _ e => pk_un e) (fun _ _ => rfl) (fun _ _ => rfl) (fun _ _ => rfl) h2 (fun _ _ => rfl) ?_
  exact Or.inr ⟨hR, hh, a, c, c, by omega, by omega, l3, hM, hm, pk_us, h1, hK, hk'⟩
theorem ae_b {R H M D K h m l k : Nat → Int32} {i : Nat} (T : ae_T R H M D K h m l k i) : ∃ b : Nat, b ≤ 20 ∧ D i = nI b := by
  rcases T with ⟨_, _, _, hD, _⟩ | ⟨_, _, a, b, c, l1, l2, l3, _, _, hD, _⟩
  · exact ⟨0, by omega, hD⟩
  · exact ⟨b, by omega, hD⟩
theorem ae_u3 {f : Nat → Int32} : ∀ i, i < 3 → upd (upd (upd f 0 0) 1 0) 2 0 i = 0 := by
  intro i hi
  match i, hi with
  | 0, _ => rfl
  | 1, _ => rfl
  | 2, _ => rfl
theorem ae_To {R H M D K h m l k R' H' M' D' K' l' : Nat → Int32} {i : Nat} (T : ae_T R H M D K h m l k i) (hR : R' i = R i) (hH : H' i = H i) (hM : M' i = M i) (hD : D' i = D i) (hK : K' i = K i) (hl : l' i = l i) : ae_T R' H' M' D' K' h m l' k i := by
  unfold ae_T
  rw [hR, hH, hM, hD, hK, hl]
  exact T
theorem ae_crash {u : SX} {v : SY} (I : ae_R u v) : ∃ (r : Int32) (u' : SX), (∀ post : Int32 → SX → Prop, post r u' → wpX_loseRunning post u) ∧ (∀ post : Int32 → SY → Prop, (∀ v' : SY, ae_R u' v' → post r v') → wpY_crash post v) := by
  obtain ⟨V, R, H, M, D, K, C, O, h, m, l, q, rfl, rfl, hC, hT⟩ := I
  obtain ⟨b0, l0, h0⟩ := ae_b (hT 0 (by omega))
  obtain ⟨b1, l1, h1⟩ := ae_b (hT 1 (by omega))
  obtain ⟨b2, l2, h2⟩ := ae_b (hT 2 (by omega))
  refine ⟨_, _, fun post p => ae_Xlr hC h0 h1 h2 l0 l1 l2 p, fun post p => ?_⟩
  unfold wpY_crash
  refine ae_Ycp ⟨4, ?_⟩
  refine ae_Ycs (i := 0) (by omega) hC (hT 0 (by omega)) h0 l0 (fun la ha => ?_)
  have T1 : ae_T (upd R 0 0) H M D K h m la q 1 := ae_To (hT 1 (by omega)) (pk_un (by decide)) rfl rfl rfl rfl (ha 1 (by decide))
  refine ae_Ycs (i := 1) (by omega) hC T1 h1 l1 (fun lb hb => ?_)
  have T2 : ae_T (upd (upd R 0 0) 1 0) H M D K h m lb q 2 := ae_To (hT 2 (by omega)) ((pk_un (by decide)).trans (pk_un (by decide))) rfl rfl rfl rfl ((hb 2 (by decide)).trans (ha 2 (by decide)))
  refine ae_Ycs (i := 2) (by omega) hC T2 h2 l2 (fun lc hc => ?_)
  refine br_t (nI_le (a := 3) (b := 3) (by omega) (by decide)) (p _ ?_)
  exact ⟨_, _, _, _, _, _, _, _, _, _, _, _, rfl, rfl, hC, fun i hi => Or.inl ⟨ae_u3 i hi, ae_u3 i hi, ae_u3 i hi, ae_u3 i hi, ae_u3 i hi⟩⟩
theorem i_vc_crash {k : Nat} {u : SX} {v : SY} (I : i_Rel k u v) (hk : k + 4 ≤ 2049) : wpX_crash (fun r u' => wpY_crash (fun r' v' => r' = r ∧ i_Rel (k + 4) u' v') v) u := by
  obtain ⟨r, u', hX, hY⟩ := ae_crash I
  unfold wpX_crash
  exact hX _ (hY _ (fun v' hr => ⟨rfl, hr⟩))
theorem i_vc_crashTwice {k : Nat} {u : SX} {v : SY} (I : i_Rel k u v) (hk : k + 4 ≤ 2049) (v1 : Int32) : wpX_crashTwice (fun r u' => wpY_crashTwice (fun r' v' => r' = r ∧ i_Rel (k + 4) u' v') v v1) u v1 := by
  obtain ⟨r, u', hX, hY⟩ := ae_crash I
  unfold wpX_crashTwice
  refine hX _ ?_
  unfold wpY_crashTwice
  exact hY _ (fun v' hr => ⟨rfl, hr⟩)
theorem i_vc_checkpoint {k : Nat} {u : SX} {v : SY} (I : i_Rel k u v) (hk : k + 4 ≤ 2049) : wpX_checkpoint (fun r => wpY_checkpoint (fun r' => r' = r ∧ i_Rel (k + 4) u v) v) u := by
  have I' := I
  obtain ⟨V, R, H, M, D, K, C, O, h, m, l, q, rfl, rfl, hC, hT⟩ := I
  unfold wpX_checkpoint
  exact ae_Xcr (ae_Ycp ⟨rfl, I'⟩)
theorem i_vc_holds {k : Nat} {u : SX} {v : SY} (I : i_Rel k u v) (hk : k + 4 ≤ 2049) (v1 : Int32) : wpX_holds (fun r => wpY_holds (fun r' => r' = r ∧ i_Rel (k + 4) u v) v v1) u v1 := by
  have I' := I
  obtain ⟨V, R, H, M, D, K, C, O, h, m, l, q, rfl, rfl, hC, hT⟩ := I
  unfold wpX_holds
  rcases ae_tx v1 with ⟨ht, _⟩ | ⟨j, hj, rfl⟩
  · refine ae_Xtx0 ht (br_t rfl ?_)
    unfold wpY_holds
    exact ae_Ytx0 ht (br_t rfl ⟨rfl, I'⟩)
  refine ae_Xtx1 hj (br_f ae_10 ⟨ae_3 hj, ?_⟩)
  rw [ae_cl (by omega)]
  exact ae_Yho hj (hT j hj) ⟨rfl, I'⟩
end
