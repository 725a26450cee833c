/-! rows pasted from kit/rows -/
theorem pk_us {f : Nat → Int32} {k : Nat} {x : Int32} : upd f k x k = x := if_pos rfl
theorem pk_un {f : Nat → Int32} {k j : Nat} {x : Int32} (h : j ≠ k) : upd f k x j = f j := if_neg h
theorem pk_m1 (n : Nat) : nI (n + 1) + (-1) = nI n := by
  rw [← nI_1, Int32.add_assoc, show (1 : Int32) + (-1) = 0 from rfl, Int32.add_zero]
theorem pk_mul (a b : Nat) : nI a * nI b = nI (a * b) := (Int32.ofNat_mul a b).symm
theorem pk_ix (x : Int32) {n : Nat} (hn : n < 2 ^ 31) : x < 0 ∨ nI n ≤ x ∨ ∃ j : Nat, j < n ∧ x = nI j := by
  by_cases h : x < 0
  · exact Or.inl h
  · obtain ⟨j, hj, rfl⟩ := nI_of h
    by_cases h2 : j < n
    · exact Or.inr (Or.inr ⟨j, h2, rfl⟩)
    · exact Or.inr (Or.inl (nI_le (by omega) hj))
theorem s_l : ∀ n, n < 32 → ((nI n &&& 31).toBitVec.smod 32).toNat = n := by decide +kernel
theorem nf_sh : ∀ l, l < 32 → ((1 : Int32) <<< (nI l &&& 31)).toBitVec = BitVec.twoPow 32 l := by decide +kernel
theorem nf_tp : ∀ l, l < 32 → BitVec.twoPow 32 l ≠ 0#32 := by decide +kernel
/-! the bit of a cell, asked by a mask and by a shift -/
theorem ae_bit (m : Int32) (l : Nat) (hl : l < 32) : ((m >>> (nI l &&& 31)) &&& 1) = 0 ↔ (m &&& ((1 : Int32) <<< (nI l &&& 31))) = 0 := by
  have e : (m >>> (nI l &&& 31)).toBitVec = m.toBitVec.sshiftRight l := by
    rw [Int32.toBitVec_shiftRight]
    show m.toBitVec.sshiftRight ((nI l &&& 31).toBitVec.smod 32).toNat = _
    rw [s_l l hl]
  rw [← Int32.toBitVec_inj, ← Int32.toBitVec_inj, Int32.toBitVec_and, Int32.toBitVec_and, nf_sh l hl, e, BitVec.and_twoPow]
  show (m.toBitVec.sshiftRight l &&& 1#32) = 0#32 ↔ _ = 0#32
  have g : (m.toBitVec.sshiftRight l).getLsbD 0 = m.toBitVec.getLsbD l := by
    rw [BitVec.getLsbD_sshiftRight]
    simp [hl]
  rw [BitVec.and_one_eq_setWidth_ofBool_getLsbD, g]
  cases hb : m.toBitVec.getLsbD l
  · exact ⟨fun _ => by simp, fun _ => by decide⟩
  · exact ⟨fun z => absurd z (by decide), fun z => absurd ((if_pos rfl).symm.trans z) (nf_tp l hl)⟩
theorem ae_bit0 (l : Nat) : ((0 : Int32) &&& ((1 : Int32) <<< (nI l &&& 31))) = 0 := Int32.zero_and
/-! the pictures: cells held, how many run, writes taken back newest first -/
def ae_pc (h : Int32) : Nat → Int32
  | 0 => 0
  | n + 1 => ae_pc h n + ((h >>> (nI n &&& 31)) &&& 1)
def ae_cr (R : Nat → Int32) : Nat → Int32
  | 0 => 0
  | n + 1 => if R n = 0 then ae_cr R n else ae_cr R n + 1
def ae_tb (C O : Nat → Int32) (s : Nat) : Nat → (Nat → Int32) → (Nat → Int32)
  | 0, V => V
  | n + 1, V => ae_tb C O s n (upd V (C (s + n)).toNatClampNeg (O (s + n)))
/-! what one transaction's part of the two states has to do with each other -/
def ae_T (R H M D K h m l k : Nat → Int32) (t : Nat) : Prop :=
  (R t = 0 ∧ H t = 0 ∧ M t = 0 ∧ D t = 0 ∧ K t = 0) ∨
  (R t = 1 ∧ h t = H t ∧ ∃ a b c : Nat, c ≤ b ∧ b ≤ a ∧ a ≤ 20 ∧ M t = nI a ∧ m t = nI a ∧ D t = nI b ∧ l t = nI b ∧ K t = nI c ∧ k t = nI c)
def ae_C (C : Nat → Int32) : Prop := ∀ i, i < 60 → ∃ q : Nat, q < 16 ∧ C i = nI q
theorem ae_Cu {C : Nat → Int32} (h : ae_C C) {s q : Nat} (hq : q < 16) : ae_C (upd C s (nI q)) := by
  intro i hi
  by_cases e : i = s
  · subst e
    exact ⟨q, hq, pk_us⟩
  · rw [pk_un e]
    exact h i hi
theorem ae_tx (t : Int32) : ((t < 0 ∨ 3 ≤ t) ∧ ∀ j : Nat, j < 3 → t ≠ nI j) ∨ ∃ j : Nat, j < 3 ∧ t = nI j := by
  rcases pk_ix t (n := 3) (by decide) with h | h | h
  · refine Or.inl ⟨Or.inl h, fun j hj e => ?_⟩
    subst e
    exact nI_pos (by omega) h
  · refine Or.inl ⟨Or.inr h, fun j hj e => ?_⟩
    subst e
    exact nI_ge hj (by decide) h
  · exact Or.inr h
