/-! ===== pieces of the relation: the tape; hands and looks. A piece's row: both calls, the answer, the piece again, and nothing else changed ===== -/
/-- nothing but P has changed -/
def Sm (P : Nat → Nat → Prop) (I I' : Nat → Nat → Int32) : Prop := ∀ b j, ¬ P b j → I' b j = I b j
theorem Sm.rf {P : Nat → Nat → Prop} {I : Nat → Nat → Int32} : Sm P I I := fun _ _ _ => rfl
theorem Sm.tr {P : Nat → Nat → Prop} {I I' I'' : Nat → Nat → Int32} (h : Sm P I I') (h' : Sm P I' I'') : Sm P I I'' := fun b j q => (h' b j q).trans (h b j q)
theorem Sm.mono {P Q : Nat → Nat → Prop} {I I' : Nat → Nat → Int32} (h : Sm P I I') (hPQ : ∀ b j, P b j → Q b j) : Sm Q I I' := fun b j q => h b j (fun z => q (hPQ b j z))
theorem Sm.up {P : Nat → Nat → Prop} {I I' : Nat → Nat → Int32} {a k : Nat} {v : Int32} (h : Sm P I I') (hp : P a k) : Sm P I (up I' a k v) := by
  intro b j q
  rw [up_at, if_neg (fun z => q (by rw [z.1, z.2]; exact hp))]
  exact h b j q
/-- a number between, or outside -/
theorem i32_cases (k : Int32) {n : Nat} (hn : n < 2 ^ 31) : (k < 0 ∨ nI n < k) ∨ ∃ j : Nat, j ≤ n ∧ k = nI j := by
  by_cases h0 : k < 0
  · exact Or.inl (Or.inl h0)
  · by_cases h1 : nI n < k
    · exact Or.inl (Or.inr h1)
    · obtain ⟨j, hj, rfl⟩ := nI_of h0
      refine Or.inr ⟨j, ?_, rfl⟩
      rw [nI_ltI hn hj] at h1
      omega
def P_tape (b j : Nat) : Prop := (b = 1 ∧ j = 1) ∨ b = 2 ∨ (b = 169 ∧ j = 2) ∨ b = 170
def S_tape (I : Nat → Nat → Int32) : Prop := ∃ (n : Nat) (f : Nat → Int32), n ≤ 2000 ∧ Tp I 1 1 2 n f ∧ Tp I 169 2 170 n f ∧ ∀ j, j < n → (f j).toInt8.toInt32 = f j
theorem byt_byte (w s : Int32) : (byt w s).toInt8.toInt32 = byt w s := by
  unfold byt
  rw [vp_nar_byte]
  simp
theorem va_up_byte {f : Nat → Int32} {n : Nat} {w s : Int32} (h : ∀ j, j < n → (f j).toInt8.toInt32 = f j) : ∀ j, j < n + 1 → (va_up f n (byt w s) j).toInt8.toInt32 = va_up f n (byt w s) j := by
  intro j hj
  unfold va_up
  by_cases hq : j = n
  · rw [if_pos hq]; exact byt_byte w s
  · rw [if_neg hq]; exact h j (by omega)
theorem ext4_byte {f : Nat → Int32} {n : Nat} {w : Int32} (h : ∀ j, j < n → (f j).toInt8.toInt32 = f j) : ∀ j, j < n + 4 → (ext4 f n w j).toInt8.toInt32 = ext4 f n w j :=
  va_up_byte (va_up_byte (va_up_byte (va_up_byte h)))
theorem ext20_byte {f : Nat → Int32} {n : Nat} {a b c d e : Int32} (h : ∀ j, j < n → (f j).toInt8.toInt32 = f j) : ∀ j, j < n + 20 → (ext20 f n a b c d e j).toInt8.toInt32 = ext20 f n a b c d e j :=
  ext4_byte (ext4_byte (ext4_byte (ext4_byte (ext4_byte h))))
section PCS
variable {γ : rG} {l : Launch} {sh : Nat × (Nat → Nat) × (Nat → Nat)} {I : Nat → Nat → Int32} {J : Nat → Nat → Int64} {R : Nat → Nat → Option Nat}
theorem S_tape.loc {I' : Nat → Nat → Int32} (h : S_tape I) (hq : ∀ b j, P_tape b j → I' b j = I b j) : S_tape I' := by
  obtain ⟨n, f, hn, h1, h2, h3⟩ := h
  exact ⟨n, f, hn, ⟨(hq 1 1 (by simp [P_tape])).trans h1.1, fun j hj => (hq 2 j (by simp [P_tape])).trans (h1.2 j hj)⟩, ⟨(hq 169 2 (by simp [P_tape])).trans h2.1, fun j hj => (hq 170 j (by simp [P_tape])).trans (h2.2 j hj)⟩, h3⟩
theorem pc_feed (hA : At8 sh R 0) (hB : At9 sh R 169) (hS : S_tape I) (a b c d e : Int32) : ∃ (I1 I2 : Nat → Nat → Int32) (v : Int32), rMet γ l m_X8_feed [.ref 0, .int a, .int b, .int c, .int d, .int e] (sh, I, J, R) (sh, I1, J, R) (some (.int v)) ∧ rMet γ l m_X9_feed [.ref 169, .int a, .int b, .int c, .int d, .int e] (sh, I1, J, R) (sh, I2, J, R) (some (.int v)) ∧ S_tape I2 ∧ Sm P_tape I I2 := by
  obtain ⟨n, f, hn, h1, h2, h3⟩ := hS
  have m1 := ct_feed8 (γ := γ) (l := l) (J := J) (a := a) (b := b) (c := c) (d := d) (e := e) hA (x := 0) h1 hn
  by_cases hc : n + 20 ≤ 2000
  · rw [if_pos hc, if_pos hc] at m1
    have h2' : Tp (put5 I 1 1 2 a b c d e) 169 2 170 n f := ⟨(put5_off (by decide) (by decide)).trans h2.1, fun j hj => (put5_off (by decide) (by simp)).trans (h2.2 j hj)⟩
    have m2 := ct_feed9 (γ := γ) (l := l) (J := J) (a := a) (b := b) (c := c) (d := d) (e := e) hB (x := 169) h2' hn
    rw [if_pos hc, if_pos hc] at m2
    have h5 := put5_Tp (a := a) (b := b) (c := c) (d := d) (e := e) h1 (by omega) (by decide)
    have h6 := put5_Tp (a := a) (b := b) (c := c) (d := d) (e := e) h2' (by omega) (by decide)
    refine ⟨_, _, _, m1, m2, ⟨n + 20, ext20 f n a b c d e, hc, ⟨(put5_off (by decide) (by decide)).trans h5.1, fun j hj => (put5_off (by decide) (by simp)).trans (h5.2 j hj)⟩, h6, ext20_byte h3⟩, fun b j q => ?_⟩
    simp only [P_tape, not_or] at q
    rw [put5_off (by omega) (by omega), put5_off (by omega) (by omega)]
  · rw [if_neg hc, if_neg hc] at m1
    have m2 := ct_feed9 (γ := γ) (l := l) (J := J) (a := a) (b := b) (c := c) (d := d) (e := e) hB (x := 169) h2 hn
    rw [if_neg hc, if_neg hc] at m2
    exact ⟨_, _, _, m1, m2, ⟨n, f, hn, h1, h2, h3⟩, Sm.rf⟩
theorem pc_back (hA : At8 sh R 0) (hB : At9 sh R 169) (hS : S_tape I) (k : Int32) : ∃ (I1 I2 : Nat → Nat → Int32) (v : Int32), rMet γ l m_X8_back [.ref 0, .int k] (sh, I, J, R) (sh, I1, J, R) (some (.int v)) ∧ rMet γ l m_X9_back [.ref 169, .int k] (sh, I1, J, R) (sh, I2, J, R) (some (.int v)) ∧ S_tape I2 ∧ Sm P_tape I I2 := by
  obtain ⟨n, f, hn, h1, h2, h3⟩ := hS
  have m1 := ct_back8 (γ := γ) (l := l) (J := J) (k := k) hA (x := 0) h1.1
  by_cases hc : bkN n k = true
  · rw [if_pos hc, if_pos hc] at m1
    have h2' : up I 1 1 (nI n - k) 169 2 = nI n := by rw [up_at, if_neg (by decide)]; exact h2.1
    have m2 := ct_back9 (γ := γ) (l := l) (J := J) (k := k) hB (x := 169) h2'
    rw [if_pos hc, if_pos hc] at m2
    refine ⟨_, _, _, m1, m2, ?_, (Sm.rf.up (Or.inl ⟨rfl, rfl⟩)).up (Or.inr (Or.inr (Or.inl ⟨rfl, rfl⟩)))⟩
    unfold bkN at hc
    simp only [decide_eq_true_eq] at hc
    obtain ⟨j, hj, rfl⟩ : ∃ j : Nat, j ≤ n ∧ k = nI j := by
      rcases i32_cases k (n := n) (by omega) with (q | q) | q
      · exact absurd q hc.1
      · exact absurd hc.2 (by rw [Int32.not_le]; exact q)
      · exact q
    rw [pk_sub hj]
    refine ⟨n - j, f, by omega, ⟨by simp [up_at], fun i hi => ?_⟩, ⟨by simp [up_at], fun i hi => ?_⟩, fun i hi => h3 i (by omega)⟩
    · simp [up_at]; exact h1.2 i (by omega)
    · simp [up_at]; exact h2.2 i (by omega)
  · rw [if_neg hc, if_neg hc] at m1
    have m2 := ct_back9 (γ := γ) (l := l) (J := J) (k := k) hB (x := 169) h2.1
    rw [if_neg hc, if_neg hc] at m2
    exact ⟨_, _, _, m1, m2, ⟨n, f, hn, h1, h2, h3⟩, Sm.rf⟩
/-! hands and looks -/
def P_way (b j : Nat) : Prop := (b = 142 ∧ j < 4) ∨ b = 143 ∨ b = 144 ∨ b = 145 ∨ (b = 169 ∧ (j = 69 ∨ j = 71 ∨ j = 73)) ∨ b = 214 ∨ b = 215 ∨ b = 216 ∨ b = 217
def S_way (I : Nat → Nat → Int32) (H D K : Nat) (ho ld wh : Nat → Nat) : Prop := H ≤ 6 ∧ D ≤ 36 ∧ K ≤ 40 ∧ (I 142 0 = nI H ∧ I 142 1 = nI D ∧ I 142 2 = nI K) ∧ (I 169 69 = nI H ∧ I 169 71 = nI D ∧ I 169 73 = nI K)
  ∧ (∀ j, j < D → I 143 j = nI (ho j) ∧ I 215 j = nI (ho j) ∧ ho j < H) ∧ (∀ j, j < K → I 144 j = nI (ld j) ∧ I 145 j = nI (wh j) ∧ I 216 j = nI (ld j) ∧ I 217 j = nI (wh j) ∧ ld j < D ∧ wh j < 3)
/-- days D .. D + j are hand H's -/
def wyH (I : Nat → Nat → Int32) (D H j : Nat) : Nat → Nat → Int32 := fun b t => if b = 143 ∧ D ≤ t ∧ t < D + j then nI H else if b = 142 ∧ t = 1 then nI (D + j) else I b t
theorem wyH_0 {D H : Nat} (h : I 142 1 = nI D) : wyH I D H 0 = I := by
  funext b t
  unfold wyH
  rw [if_neg (by omega)]
  split
  · rename_i q; rw [q.1, q.2]; exact h.symm
  · rfl
theorem wyH_s {D H j : Nat} : up (up (wyH I D H j) 143 (D + j) (nI H)) 142 1 (nI (D + j + 1)) = wyH I D H (j + 1) := by
  funext b t
  simp only [up_at, wyH]
  by_cases h1 : b = 142 ∧ t = 1
  · rw [if_pos h1, if_neg (by omega), if_pos h1]; rfl
  · rw [if_neg h1]
    by_cases h2 : b = 143 ∧ t = D + j
    · rw [if_pos h2, if_pos (by omega)]
    · rw [if_neg h2]
      by_cases h3 : b = 143 ∧ D ≤ t ∧ t < D + j
      · rw [if_pos h3, if_pos (by omega)]
      · rw [if_neg h3, if_neg h1, if_neg (by omega), if_neg h1]
theorem hand_loop {D H m : Nat} (hA : At7 sh R 142) (hH : I 142 0 = nI H) (hm : D + m ≤ 36) : ∀ j i, i + j = m → rV γ l m_X7_addHand 0 0 29 [some (.ref 142), some (.int (nI m)), some (.int (nI i))] [] (sh, wyH I D H i, J, R) (sh, up (up (wyH I D H m) 142 3 0) 142 0 (nI (H + 1)), J, R) (some (.int (nI H))) := by
  have e0 : ∀ i, wyH I D H i 142 0 = nI H := fun i => by unfold wyH; rw [if_neg (by omega), if_neg (by omega)]; exact hH
  have e1 : ∀ i, wyH I D H i 142 1 = nI (D + i) := fun i => by unfold wyH; rw [if_neg (by omega), if_pos ⟨rfl, rfl⟩]
  intro j
  induction j with
  | zero =>
    intro i hi
    have e : i = m := by omega
    subst e
    have hg : nI i ≤ nI i := nI_le (Nat.le_refl _) (by omega)
    refine b_X7_addHand_29 hA (fun _ => ?_) (fun q => absurd hg q) (fun q => absurd hg q)
    simp [up_at, e0, nI_1]
    rw [nI_pred]
  | succ j ih =>
    intro i hi
    have hg : ¬ nI m ≤ nI i := nI_ge (by omega) (by omega)
    refine b_X7_addHand_29 hA (fun q => absurd q hg) (fun _ => by rw [e1]; exact vp_in_nI (by omega) (by decide)) (fun _ => ?_)
    have e2 : up (wyH I D H i) (142 + 1) (D + i) (nI H) 142 1 = nI (D + i) := by simp [up_at, e1]
    rw [e1, e0, nI_clamp (by omega), e2, nI_1, nI_1, wyH_s]
    exact ih (i + 1) (by omega)
end PCS
