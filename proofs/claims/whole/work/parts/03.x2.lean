section
variable {V R H M D K C O : Nat → Int32}
theorem ae_ne {i j : Nat} (hi : i < 3) (hj : j < 3) (e : ¬ i = j) : ¬ nI i = nI j := fun z => e ((nI_eq (by omega) (by omega)).mp z)
theorem ae_Xhb1 {post : Int32 → Prop} {j c : Nat} (hj : j < 3) (h : post 1) : ∀ d i : Nat, i + d = 3 → wX_isHeldByAnother_5 post (nI j) (nI c) V R H M D K C O (d + 1) 1 (nI i) := by
  intro d
  induction d with
  | zero =>
    intro i hi
    obtain rfl : i = 3 := by omega
    exact br_t (nI_le (a := 3) (b := 3) (by omega) (by decide)) ⟨congrArg Value.int (by decide), h⟩
  | succ d ih =>
    intro i hi
    have g := ih (i + 1) (by omega)
    by_cases e : i = j
    · exact br_f (nI_ge (b := 3) (by omega) (by decide)) (br_t (by rw [e]) (nm_r (nI_1 i) g))
    · exact br_f (nI_ge (b := 3) (by omega) (by decide)) (br_f (ae_ne (by omega) hj e) ⟨ae_3 (by omega), br_c (fun _ => nm_r (nI_1 i) g) (fun _ => nm_r (nI_1 i) g)⟩)
theorem ae_Xhb0 {post : Int32 → Prop} {j c : Nat} (hj : j < 3) (hA : ∀ n, n < 3 → n ≠ j → (H n &&& ((1 : Int32) <<< (nI c &&& 31))) = 0) (h : post 0) : ∀ d i : Nat, i + d = 3 → wX_isHeldByAnother_5 post (nI j) (nI c) V R H M D K C O (d + 1) 0 (nI i) := by
  intro d
  induction d with
  | zero =>
    intro i hi
    obtain rfl : i = 3 := by omega
    exact br_t (nI_le (a := 3) (b := 3) (by omega) (by decide)) ⟨congrArg Value.int (by decide), h⟩
  | succ d ih =>
    intro i hi
    have g := ih (i + 1) (by omega)
    by_cases e : i = j
    · exact br_f (nI_ge (b := 3) (by omega) (by decide)) (br_t (by rw [e]) (nm_r (nI_1 i) g))
    · exact br_f (nI_ge (b := 3) (by omega) (by decide)) (br_f (ae_ne (by omega) hj e) ⟨ae_3 (by omega), br_t (by rw [ae_cl (by omega)]; exact hA i (by omega) e) (nm_r (nI_1 i) g)⟩)
theorem ae_XhbE {post : Int32 → Prop} {j c : Nat} (hj : j < 3) (h : post 1) : ∀ d i : Nat, i + d = 3 → (∃ n, i ≤ n ∧ n < 3 ∧ n ≠ j ∧ ¬ (H n &&& ((1 : Int32) <<< (nI c &&& 31))) = 0) → wX_isHeldByAnother_5 post (nI j) (nI c) V R H M D K C O (d + 1) 0 (nI i) := by
  intro d
  induction d with
  | zero =>
    intro i hi hE
    obtain ⟨n, h1, h2, _⟩ := hE
    omega
  | succ d ih =>
    intro i hi hE
    obtain ⟨n, h1, h2, h3, h4⟩ := hE
    by_cases e : i = j
    · have g := ih (i + 1) (by omega) ⟨n, by omega, h2, h3, h4⟩
      exact br_f (nI_ge (b := 3) (by omega) (by decide)) (br_t (by rw [e]) (nm_r (nI_1 i) g))
    · by_cases z : (H i &&& ((1 : Int32) <<< (nI c &&& 31))) = 0
      · have hn : i ≠ n := by
          intro q
          subst q
          exact h4 z
        have g := ih (i + 1) (by omega) ⟨n, by omega, h2, h3, h4⟩
        exact br_f (nI_ge (b := 3) (by omega) (by decide)) (br_f (ae_ne (by omega) hj e) ⟨ae_3 (by omega), br_t (by rw [ae_cl (by omega)]; exact z) (nm_r (nI_1 i) g)⟩)
      · exact br_f (nI_ge (b := 3) (by omega) (by decide)) (br_f (ae_ne (by omega) hj e) ⟨ae_3 (by omega), br_f (by rw [ae_cl (by omega)]; exact z) (nm_r (nI_1 i) (ae_Xhb1 hj h d (i + 1) (by omega)))⟩)
theorem ae_Xrw_t {post : Int32 → Prop} {t x : Int32} (ht : t < 0 ∨ 3 ≤ t) (h : post (-1)) : wpX_refusalOfWrite post (V, R, H, M, D, K, C, O) t x := by
  unfold wpX_refusalOfWrite
  exact ae_Xtx0 ht (br_t rfl h)
theorem ae_Xrw_c {post : Int32 → Prop} {j : Nat} {x : Int32} (hj : j < 3) (hx : x < 0 ∨ 16 ≤ x) (h : post (-1)) : wpX_refusalOfWrite post (V, R, H, M, D, K, C, O) (nI j) x := by
  unfold wpX_refusalOfWrite
  exact ae_Xtx1 hj (br_f ae_10 (ae_Xce0 hx (br_t rfl h)))
theorem ae_Xrw_i {post : Int32 → Prop} {j c : Nat} (hj : j < 3) (hc : c < 16) (hR : R j = 0) (h : post (-2)) : wpX_refusalOfWrite post (V, R, H, M, D, K, C, O) (nI j) (nI c) := by
  unfold wpX_refusalOfWrite
  exact ae_Xtx1 hj (br_f ae_10 (ae_Xce1 hc (br_f ae_10 ⟨ae_3 hj, br_t (by rw [ae_cl (by omega)]; exact hR) h⟩)))
theorem ae_Xrw_h {post : Int32 → Prop} {j c : Nat} (hj : j < 3) (hc : c < 16) (hR : R j = 1) (hE : ∃ n, n < 3 ∧ n ≠ j ∧ ¬ (H n &&& ((1 : Int32) <<< (nI c &&& 31))) = 0) (h : post (-3)) : wpX_refusalOfWrite post (V, R, H, M, D, K, C, O) (nI j) (nI c) := by
  obtain ⟨n, h2, h3, h4⟩ := hE
  unfold wpX_refusalOfWrite
  refine ae_Xtx1 hj (br_f ae_10 (ae_Xce1 hc (br_f ae_10 ⟨ae_3 hj, br_f (by rw [ae_cl (by omega), hR]; decide) ?_⟩)))
  exact ⟨4, ae_XhbE hj (br_f ae_10 h) 3 0 rfl ⟨n, by omega, h2, h3, h4⟩⟩
theorem ae_Xrw_n {post : Int32 → Prop} {j c a : Nat} (hj : j < 3) (hc : c < 16) (hR : R j = 1) (hA : ∀ n, n < 3 → n ≠ j → (H n &&& ((1 : Int32) <<< (nI c &&& 31))) = 0) (hM : M j = nI a) (ha : a ≤ 20) (h : (a = 20 → post (-4)) ∧ (a < 20 → post 0)) : wpX_refusalOfWrite post (V, R, H, M, D, K, C, O) (nI j) (nI c) := by
  unfold wpX_refusalOfWrite
  refine ae_Xtx1 hj (br_f ae_10 (ae_Xce1 hc (br_f ae_10 ⟨ae_3 hj, br_f (by rw [ae_cl (by omega), hR]; decide) ?_⟩)))
  refine ⟨4, ae_Xhb0 hj hA (br_t rfl ⟨ae_3 hj, ?_⟩) 3 0 rfl⟩
  rw [ae_cl (by omega), hM]
  by_cases z : a = 20
  · subst z
    exact br_t (nI_le (a := 20) (b := 20) (by omega) (by decide)) (h.1 rfl)
  · exact br_f (nI_ge (b := 20) (by omega) (by decide)) (h.2 (by omega))
theorem ae_Xcs {post : Int32 → SX → Prop} {x : Int32} {n i b : Nat} (hi : i < 3) (hC : ae_C C) (hD : D i = nI b) (hb : b ≤ 20)
    (h : wX_loseRunning_7 post x n (nI (i + 1)) (ae_tb C O (i * 20) b V) (upd R i 0) (upd H i 0) (upd M i 0) (upd D i 0) (upd K i 0) C O) :
    wX_loseRunning_7 post x (n + 1) (nI i) V R H M D K C O := by
  refine br_f (nI_ge (b := 3) hi (by decide)) ?_
  refine ae_Xtb (c := 0) hi hC hD (by omega) hb ?_
  refine ae_Xend hi ?_
  rw [ae_uu]
  exact nm_r (nI_1 i) h
theorem ae_Xlr {post : Int32 → SX → Prop} {b0 b1 b2 : Nat} (hC : ae_C C) (h0 : D 0 = nI b0) (h1 : D 1 = nI b1) (h2 : D 2 = nI b2) (l0 : b0 ≤ 20) (l1 : b1 ≤ 20) (l2 : b2 ≤ 20)
    (h : post (ae_cr R 3) (ae_tb C O (2 * 20) b2 (ae_tb C O (1 * 20) b1 (ae_tb C O (0 * 20) b0 V)), upd (upd (upd R 0 0) 1 0) 2 0, upd (upd (upd H 0 0) 1 0) 2 0, upd (upd (upd M 0 0) 1 0) 2 0, upd (upd (upd D 0 0) 1 0) 2 0, upd (upd (upd K 0 0) 1 0) 2 0, C, O)) :
    wpX_loseRunning post (V, R, H, M, D, K, C, O) := by
  unfold wpX_loseRunning
  refine ae_Xcr ⟨4, ?_⟩
  refine ae_Xcs (i := 0) (by omega) hC h0 l0 ?_
  refine ae_Xcs (i := 1) (by omega) hC (by rw [pk_un (by decide)]; exact h1) l1 ?_
  refine ae_Xcs (i := 2) (by omega) hC (by rw [pk_un (by decide), pk_un (by decide)]; exact h2) l2 ?_
  exact br_t (nI_le (a := 3) (b := 3) (by omega) (by decide)) h
end
