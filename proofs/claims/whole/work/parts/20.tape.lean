/-! ===== the tape: both objects put bytes in the same way ===== -/
/-- one byte of a word -/
def byt (w s : Int32) : Int32 := vp_nar .byte ((w >>> (s &&& 31)).toInt8.toInt32)
def putB (I : Nat → Nat → Int32) (ob fd ar : Nat) (w s : Int32) : Nat → Nat → Int32 := up (up I ar (I ob fd).toNatClampNeg (byt w s)) ob fd (up I ar (I ob fd).toNatClampNeg (byt w s) ob fd + 1)
def putW (I : Nat → Nat → Int32) (ob fd ar : Nat) (w : Int32) : Nat → Nat → Int32 := putB (putB (putB (putB I ob fd ar w 24) ob fd ar w 16) ob fd ar w 8) ob fd ar w 0
/-- n bytes f lie on the tape -/
def Tp (I : Nat → Nat → Int32) (ob fd ar n : Nat) (f : Nat → Int32) : Prop := I ob fd = nI n ∧ ∀ j, j < n → I ar j = f j
theorem putB_Tp {I : Nat → Nat → Int32} {ob fd ar n : Nat} {f : Nat → Int32} {w s : Int32} (h : Tp I ob fd ar n f) (hn : n < 2 ^ 31) (ho : ar ≠ ob) : Tp (putB I ob fd ar w s) ob fd ar (n + 1) (va_up f n (byt w s)) := by
  obtain ⟨h1, h2⟩ := h
  have e : (I ob fd).toNatClampNeg = n := by rw [h1]; exact nI_clamp hn
  refine ⟨?_, fun j hj => ?_⟩
  · unfold putB
    simp only [up_at, e, h1, Ne.symm ho, false_and, if_false, and_self, if_true, nI_1]
  · unfold putB
    simp only [up_at, e, ho, false_and, if_false, true_and, va_up]
    by_cases hj2 : j = n
    · simp [hj2]
    · simp [hj2, h2 j (by omega)]
theorem putB_off {I : Nat → Nat → Int32} {ob fd ar : Nat} {w s : Int32} {b j : Nat} (h1 : b ≠ ar) (h2 : ¬ (b = ob ∧ j = fd)) : putB I ob fd ar w s b j = I b j := by
  unfold putB
  simp [up_at, h1, h2]
/-- four bytes more -/
def ext4 (f : Nat → Int32) (n : Nat) (w : Int32) : Nat → Int32 := va_up (va_up (va_up (va_up f n (byt w 24)) (n + 1) (byt w 16)) (n + 1 + 1) (byt w 8)) (n + 1 + 1 + 1) (byt w 0)
theorem putW_Tp {I : Nat → Nat → Int32} {ob fd ar n : Nat} {f : Nat → Int32} {w : Int32} (h : Tp I ob fd ar n f) (hn : n + 4 < 2 ^ 31) (ho : ar ≠ ob) : Tp (putW I ob fd ar w) ob fd ar (n + 4) (ext4 f n w) :=
  putB_Tp (putB_Tp (putB_Tp (putB_Tp h (by omega) ho) (by omega) ho) (by omega) ho) (by omega) ho
theorem putW_off {I : Nat → Nat → Int32} {ob fd ar : Nat} {w : Int32} {b j : Nat} (h1 : b ≠ ar) (h2 : ¬ (b = ob ∧ j = fd)) : putW I ob fd ar w b j = I b j := by
  unfold putW
  rw [putB_off h1 h2, putB_off h1 h2, putB_off h1 h2, putB_off h1 h2]
theorem ct_append {γ : rG} {l : Launch} {sh : Nat × (Nat → Nat) × (Nat → Nat)} {I : Nat → Nat → Int32} {J : Nat → Nat → Int64} {R : Nat → Nat → Option Nat} {a n : Nat} {f : Nat → Int32} {w : Int32} (hA : At6 sh R a) (h : Tp I a 1 (a + 1) n f) (hn : n + 4 ≤ 2000) : rMet γ l m_X6_append [.ref a, .int w] (sh, I, J, R) (sh, putW I a 1 (a + 1) w, J, R) none := by
  have ho : a + 1 ≠ a := by omega
  have step : ∀ {I : Nat → Nat → Int32} {n : Nat} {f : Nat → Int32} {x : Int32} {hf : rHeap}, Tp I a 1 (a + 1) n f → n < 2000 → ¬ x < 0 → rV γ l m_X6_append 0 0 3 [some (.ref a), some (.int w), some (.int (x + (-8 : Int32)))] [] (sh, putB I a 1 (a + 1) w x, J, R) hf none → rV γ l m_X6_append 0 0 3 [some (.ref a), some (.int w), some (.int x)] [] (sh, I, J, R) hf none := by
    intro I n f x hf hT hn hx hv
    have hlt : ¬ (2000 : Int32) ≤ I a 1 := by rw [hT.1, show (2000 : Int32) = nI 2000 by decide]; exact nI_ge hn (by decide)
    exact b_X6_append_3 hA (fun q => absurd q hx) (fun _ q => absurd q hlt) (fun _ _ => by rw [hT.1]; exact vp_in_nI hn (by decide)) (fun _ _ => hv)
  have h1 := putB_Tp (w := w) (s := 24) h (by omega) ho
  have h2 := putB_Tp (w := w) (s := 16) h1 (by omega) ho
  have h3 := putB_Tp (w := w) (s := 8) h2 (by omega) ho
  exact e_X6_append (b_X6_append_0 hA (step h (by omega) (by decide) (step h1 (by omega) (by decide) (step h2 (by omega) (by decide) (step h3 (by omega) (by decide) (b_X6_append_3 hA (fun _ => ⟨rfl, rfl⟩) (fun q => absurd (by decide) q) (fun q => absurd (by decide) q) (fun q => absurd (by decide) q)))))))
theorem ct_put {γ : rG} {l : Launch} {sh : Nat × (Nat → Nat) × (Nat → Nat)} {I : Nat → Nat → Int32} {J : Nat → Nat → Int64} {R : Nat → Nat → Option Nat} {a n : Nat} {f : Nat → Int32} {w : Int32} (hA : At9 sh R a) (h : Tp I a 2 (a + 1) n f) (hn : n + 4 ≤ 2000) : rMet γ l m_X9_put [.ref a, .int w] (sh, I, J, R) (sh, putW I a 2 (a + 1) w, J, R) none := by
  have ho : a + 1 ≠ a := by omega
  have step : ∀ {I : Nat → Nat → Int32} {n : Nat} {f : Nat → Int32} {x : Int32} {hf : rHeap}, Tp I a 2 (a + 1) n f → n < 2000 → ¬ x < 0 → rV γ l m_X9_put 0 0 3 [some (.ref a), some (.int w), some (.int (x + (-8 : Int32)))] [] (sh, putB I a 2 (a + 1) w x, J, R) hf none → rV γ l m_X9_put 0 0 3 [some (.ref a), some (.int w), some (.int x)] [] (sh, I, J, R) hf none := by
    intro I n f x hf hT hn hx hv
    exact b_X9_put_3 hA (fun q => absurd q hx) (fun _ => by rw [hT.1]; exact vp_in_nI hn (by decide)) (fun _ => hv)
  have h1 := putB_Tp (w := w) (s := 24) h (by omega) ho
  have h2 := putB_Tp (w := w) (s := 16) h1 (by omega) ho
  have h3 := putB_Tp (w := w) (s := 8) h2 (by omega) ho
  exact e_X9_put (b_X9_put_0 hA (step h (by omega) (by decide) (step h1 (by omega) (by decide) (step h2 (by omega) (by decide) (step h3 (by omega) (by decide) (b_X9_put_3 hA (fun _ => ⟨rfl, rfl⟩) (fun q => absurd (by decide) q) (fun q => absurd (by decide) q)))))))
def put5 (I : Nat → Nat → Int32) (ob fd ar : Nat) (a b c d e : Int32) : Nat → Nat → Int32 := putW (putW (putW (putW (putW I ob fd ar a) ob fd ar b) ob fd ar c) ob fd ar d) ob fd ar e
def ext20 (f : Nat → Int32) (n : Nat) (a b c d e : Int32) : Nat → Int32 := ext4 (ext4 (ext4 (ext4 (ext4 f n a) (n + 4) b) (n + 4 + 4) c) (n + 4 + 4 + 4) d) (n + 4 + 4 + 4 + 4) e
theorem put5_Tp {I : Nat → Nat → Int32} {ob fd ar n : Nat} {f : Nat → Int32} {a b c d e : Int32} (h : Tp I ob fd ar n f) (hn : n + 20 < 2 ^ 31) (ho : ar ≠ ob) : Tp (put5 I ob fd ar a b c d e) ob fd ar (n + 20) (ext20 f n a b c d e) :=
  putW_Tp (putW_Tp (putW_Tp (putW_Tp (putW_Tp h (by omega) ho) (by omega) ho) (by omega) ho) (by omega) ho) (by omega) ho
theorem put5_off {I : Nat → Nat → Int32} {ob fd ar : Nat} {a b c d e : Int32} {x j : Nat} (h1 : x ≠ ar) (h2 : ¬ (x = ob ∧ j = fd)) : put5 I ob fd ar a b c d e x j = I x j := by
  unfold put5
  rw [putW_off h1 h2, putW_off h1 h2, putW_off h1 h2, putW_off h1 h2, putW_off h1 h2]
theorem nI_le2000 {n : Nat} (hn : n ≤ 2000) : (nI n + (20 : Int32)) ≤ (2000 : Int32) ↔ n + 20 ≤ 2000 := by
  rw [show (20 : Int32) = nI 20 by decide, nI_add, show (2000 : Int32) = nI 2000 by decide]
  exact nI_leI (by omega) (by decide)
section FEED
variable {γ : rG} {l : Launch} {sh : Nat × (Nat → Nat) × (Nat → Nat)} {I : Nat → Nat → Int32} {J : Nat → Nat → Int64} {R : Nat → Nat → Option Nat} {x n : Nat} {f : Nat → Int32} {a b c d e : Int32}
theorem ct_feed8 (hA : At8 sh R x) (h : Tp I (x + 1) 1 (x + 1 + 1) n f) (hn : n ≤ 2000) : rMet γ l m_X8_feed [.ref x, .int a, .int b, .int c, .int d, .int e] (sh, I, J, R) (sh, (if n + 20 ≤ 2000 then put5 I (x + 1) 1 (x + 1 + 1) a b c d e else I), J, R) (some (.int (if n + 20 ≤ 2000 then nI (n + 20) else -1))) := by
  have ho : x + 1 + 1 ≠ x + 1 := by omega
  have hg : (I (x + 1) 1 + (20 : Int32)) ≤ (2000 : Int32) ↔ n + 20 ≤ 2000 := by rw [h.1]; exact nI_le2000 hn
  have h6 := (At8_0 hA).2
  by_cases hc : n + 20 ≤ 2000
  · have h1 := putW_Tp (w := a) h (by omega) ho
    have h2 := putW_Tp (w := b) h1 (by omega) ho
    have h3 := putW_Tp (w := c) h2 (by omega) ho
    have h4 := putW_Tp (w := d) h3 (by omega) ho
    have h5 := putW_Tp (w := e) h4 (by omega) ho
    rw [if_pos hc, if_pos hc]
    exact e_X8_feed (b_X8_feed_0 hA (fun _ => ct_append h6 h (by omega)) (fun _ => ct_append h6 h1 (by omega)) (fun _ => ct_append h6 h2 (by omega)) (fun _ => ct_append h6 h3 (by omega)) (fun _ => ct_append h6 h4 (by omega)) (fun _ => ⟨rfl, by rw [h5.1]⟩) (fun q => absurd (hg.mpr hc) q))
  · rw [if_neg hc, if_neg hc]
    exact e_X8_feed (b_X8_feed_0 (I2 := I) (I4 := I) (I6 := I) (I8 := I) (I10 := I) hA (fun q => absurd (hg.mp q) hc) (fun q => absurd (hg.mp q) hc) (fun q => absurd (hg.mp q) hc) (fun q => absurd (hg.mp q) hc) (fun q => absurd (hg.mp q) hc) (fun q => absurd (hg.mp q) hc) (fun _ => ⟨rfl, rfl⟩))
theorem ct_feed9 (hA : At9 sh R x) (h : Tp I x 2 (x + 1) n f) (hn : n ≤ 2000) : rMet γ l m_X9_feed [.ref x, .int a, .int b, .int c, .int d, .int e] (sh, I, J, R) (sh, (if n + 20 ≤ 2000 then put5 I x 2 (x + 1) a b c d e else I), J, R) (some (.int (if n + 20 ≤ 2000 then nI (n + 20) else -1))) := by
  have ho : x + 1 ≠ x := by omega
  have hg : (I x 2 + (20 : Int32)) ≤ (2000 : Int32) ↔ n + 20 ≤ 2000 := by rw [h.1]; exact nI_le2000 hn
  by_cases hc : n + 20 ≤ 2000
  · have h1 := putW_Tp (w := a) h (by omega) ho
    have h2 := putW_Tp (w := b) h1 (by omega) ho
    have h3 := putW_Tp (w := c) h2 (by omega) ho
    have h4 := putW_Tp (w := d) h3 (by omega) ho
    have h5 := putW_Tp (w := e) h4 (by omega) ho
    rw [if_pos hc, if_pos hc]
    exact e_X9_feed (b_X9_feed_0 hA (fun _ => ct_put hA h (by omega)) (fun _ => ct_put hA h1 (by omega)) (fun _ => ct_put hA h2 (by omega)) (fun _ => ct_put hA h3 (by omega)) (fun _ => ct_put hA h4 (by omega)) (fun _ => ⟨rfl, by rw [h5.1]⟩) (fun q => absurd (hg.mpr hc) q))
  · rw [if_neg hc, if_neg hc]
    exact e_X9_feed (b_X9_feed_0 (I2 := I) (I4 := I) (I6 := I) (I8 := I) (I10 := I) hA (fun q => absurd (hg.mp q) hc) (fun q => absurd (hg.mp q) hc) (fun q => absurd (hg.mp q) hc) (fun q => absurd (hg.mp q) hc) (fun q => absurd (hg.mp q) hc) (fun q => absurd (hg.mp q) hc) (fun _ => ⟨rfl, rfl⟩))
/-- back: k bytes less, or refused -/
def bkN (n : Nat) (k : Int32) : Bool := decide (¬ k < 0 ∧ k ≤ nI n)
theorem ct_back8 {k : Int32} (hA : At8 sh R x) (h : I (x + 1) 1 = nI n) : rMet γ l m_X8_back [.ref x, .int k] (sh, I, J, R) (sh, (if bkN n k = true then up I (x + 1) 1 (nI n - k) else I), J, R) (some (.int (if bkN n k = true then nI n - k else -1))) := by
  unfold bkN
  refine e_X8_back (b_X8_back_0 hA (fun q => ?_) (fun q1 q2 => ?_) (fun q1 q2 => ?_))
  · simp [q]
  · rw [h] at q2 ⊢
    simp [q1, q2, up_at]
  · rw [h] at q2
    simp [q1, q2]
theorem ct_back9 {k : Int32} (hA : At9 sh R x) (h : I x 2 = nI n) : rMet γ l m_X9_back [.ref x, .int k] (sh, I, J, R) (sh, (if bkN n k = true then up I x 2 (nI n - k) else I), J, R) (some (.int (if bkN n k = true then nI n - k else -1))) := by
  unfold bkN
  refine e_X9_back (b_X9_back_0 hA (fun q => ?_) (fun q1 q2 => ?_) (fun q1 q2 => ?_))
  · simp [q]
  · rw [h] at q2 ⊢
    simp [q1, q2, up_at]
  · rw [h] at q2
    simp [q1, q2]
end FEED
