/-! ===== the whole relation, and that each pair of calls keeps it (by program, wip/whole/gen_ops.py) ===== -/
def Rpl (b j : Nat) : Prop := (b = 0 ∧ j = 7) ∨ (b = 169 ∧ j = 17)
def Rpr (b j : Nat) : Prop := (153 ≤ b ∧ b ≤ 158) ∨ (161 ≤ b ∧ b ≤ 166) ∨ (b = 169 ∧ j = 18) ∨ (177 ≤ b ∧ b ≤ 190)
def Rfd (b j : Nat) : Prop := (b = 116 ∧ j < 12) ∨ (b = 117 ∧ j < 2) ∨ (119 ≤ b ∧ b ≤ 121) ∨ (b = 169 ∧ (j = 59 ∨ j = 60 ∨ j = 61 ∨ j = 64 ∨ j = 65)) ∨ (207 ≤ b ∧ b ≤ 211)
def Rwy (b j : Nat) : Prop := (b = 142 ∧ j < 3) ∨ (143 ≤ b ∧ b ≤ 145) ∨ (b = 169 ∧ (j = 69 ∨ j = 71 ∨ j = 73)) ∨ (215 ≤ b ∧ b ≤ 217)
def Rwc (b j : Nat) : Prop := Rwy b j ∨ (b = 142 ∧ j = 3) ∨ (146 ≤ b ∧ b ≤ 148)
theorem S_pr2.loc {sh : Nat × (Nat → Nat) × (Nat → Nat)} {I I' : Nat → Nat → Int32} {R : Nat → Nat → Option Nat} {p p' s : Nat} {Rs : List Rul} (h : S_pr2 sh I R p p' s Rs) (hq : ∀ b j, Rpr b j → I' b j = I b j) : S_pr2 sh I' R p p' s Rs := by
  obtain ⟨⟨h1, h2, h3, h4, h5⟩, h6, b, nr, h7⟩ := h
  have hp := h2.2.2
  have h8 : PrX I' 169 s b nr Rs := h7.fr (fun c j z => hq _ _ (by unfold Rpr; omega))
  exact ⟨⟨h1, h2, h3.loc (fun c j z1 z2 => hq _ _ (by unfold Rpr; omega)), (hq _ _ (by unfold Rpr; omega)).trans h4, h8.M⟩, h6, b, nr, h8⟩
theorem S_fnd.loc {I I' : Nat → Nat → Int32} {J J' : Nat → Nat → Int64} {N : Nat} {F : Fnd} (h : S_fnd I J N F) (hq : ∀ b j, Rfd b j → I' b j = I b j) (hJ : ∀ j, J' 118 j = J 118 j) : S_fnd I' J' N F := by
  obtain ⟨h1, h2, h3, h4, h5⟩ := h
  refine ⟨h1, h2.loc (fun j hj => hq _ _ (by unfold Rfd; omega)), h3.loc (fun b j z => hq _ _ (by unfold Rfd; omega)), h4.fr (fun b j z => hq _ _ (by unfold Rfd; omega)) hJ, ?_⟩
  rcases h5 with ⟨s1, s2⟩ | ⟨⟨s1, s2, s3⟩, t1, t2, t3, t4⟩
  · exact Or.inl ⟨(hq _ _ (by unfold Rfd; omega)).trans s1, (hq _ _ (by unfold Rfd; omega)).trans s2⟩
  · exact Or.inr ⟨⟨(hq _ _ (by unfold Rfd; omega)).trans s1, s2.fr (fun b j z => hq _ _ (by unfold Rfd; omega)) hJ, s3.loc (fun j z1 z2 => hq _ _ (by unfold Rfd; omega))⟩, (hq _ _ (by unfold Rfd; omega)).trans t1, t2.fr (fun b j z => hq _ _ (by unfold Frw Fft at z; unfold Rfd; omega)), (hq _ _ (by unfold Rfd; omega)).trans t3, (hq _ _ (by unfold Rfd; omega)).trans t4⟩
theorem S_way.lc {I I' : Nat → Nat → Int32} {H D K : Nat} {ho ld wh : Nat → Nat} (h : S_way I H D K ho ld wh) (hq : ∀ b j, Rwy b j → I' b j = I b j) : S_way I' H D K ho ld wh := by
  obtain ⟨h1, h2, h3, ⟨a1, a2, a3⟩, ⟨b1, b2, b3⟩, c1, c2⟩ := h
  refine ⟨h1, h2, h3, ⟨(hq _ _ (by unfold Rwy; omega)).trans a1, (hq _ _ (by unfold Rwy; omega)).trans a2, (hq _ _ (by unfold Rwy; omega)).trans a3⟩, ⟨(hq _ _ (by unfold Rwy; omega)).trans b1, (hq _ _ (by unfold Rwy; omega)).trans b2, (hq _ _ (by unfold Rwy; omega)).trans b3⟩, fun j hj => ?_, fun j hj => ?_⟩
  · obtain ⟨q1, q2, q3⟩ := c1 j hj
    exact ⟨(hq _ _ (by unfold Rwy; omega)).trans q1, (hq _ _ (by unfold Rwy; omega)).trans q2, q3⟩
  · obtain ⟨q1, q2, q3, q4, q5, q6⟩ := c2 j hj
    exact ⟨(hq _ _ (by unfold Rwy; omega)).trans q1, (hq _ _ (by unfold Rwy; omega)).trans q2, (hq _ _ (by unfold Rwy; omega)).trans q3, (hq _ _ (by unfold Rwy; omega)).trans q4, q5, q6⟩
theorem S_wc.loc {I I' : Nat → Nat → Int32} {Rs : List Rul} {H D K : Nat} {ho ld wh : Nat → Nat} (h : S_wc I Rs H D K ho ld wh) (hq : ∀ b j, Rwc b j → I' b j = I b j) : S_wc I' Rs H D K ho ld wh := by
  refine ⟨h.1.lc (fun b j z => hq _ _ (Or.inl z)), ?_⟩
  have e3 : I' 142 3 = I 142 3 := hq _ _ (Or.inr (Or.inl ⟨rfl, rfl⟩))
  rcases h.2 with s1 | ⟨s1, s2⟩
  · exact Or.inl (e3.trans s1)
  · exact Or.inr ⟨e3.trans s1, s2.loc (fun b j z => hq _ _ (Or.inr (Or.inr (by omega))))⟩
def WhS (n : Nat) : rS := fun I J R => (At8 SH R 0 ∧ At9 SH R 169) ∧ (S_tape I ∧ I 0 7 = I 169 17 ∧ KeysM J 169) ∧ ∃ (T : Sht) (p p' s : Nat) (Rs : List Rul) (F : Fnd) (H D K : Nat) (ho ld wh : Nat → Nat), S_sheet n I T ∧ S_pr2 SH I R p p' s Rs ∧ S_fnd I J (yN T) F ∧ S_wc I Rs H D K ho ld wh
theorem WhS.up {n : Nat} {I : Nat → Nat → Int32} {J : Nat → Nat → Int64} {R : Nat → Nat → Option Nat} (h : WhS n I J R) : WhS (n + 1) I J R := by
  obtain ⟨h0, h1, T, p, p', s, Rs, F, H, D, K, ho, ld, wh, q1, q2, q3, q4⟩ := h
  exact ⟨h0, h1, T, p, p', s, Rs, F, H, D, K, ho, ld, wh, q1.mono (by omega), q2, q3, q4⟩
theorem b01 {a : Int32} (h : a = 0 ∨ a = 1) : ∃ b : Bool, a = nz b := by
  rcases h with h | h
  · exact ⟨false, h⟩
  · exact ⟨true, h⟩
section OPS
variable {γ : rG} {l : Launch} {n : Nat}
theorem op_feed : Oq_feed γ l (WhS n) (WhS (n + 1)) := by
  intro I J R a1 a2 a3 a4 a5 h
  obtain ⟨⟨hA, hB⟩, ⟨h1, h2, h3⟩, T, p, p', s, Rs, F, H, D, K, ho, ld, wh, q1, q2, q3, q4⟩ := id h
  obtain ⟨I1, I2, v, m1, m2, m3, m4⟩ := pc_feed (γ := γ) (l := l) (J := J) hA hB h1 a1 a2 a3 a4 a5
  exact ⟨I1, I2, v, m1, m2, ⟨hA, hB⟩, ⟨m3, (by rw [m4 0 7 (by unfold P_tape; omega), m4 169 17 (by unfold P_tape; omega)]; exact h2), h3⟩, T, p, p', s, Rs, F, H, D, K, ho, ld, wh, (q1.loc (fun b j z => m4 _ _ (by unfold Psh Fc Fm at z; unfold P_tape; omega))).mono (by omega), q2.loc (fun b j z => m4 _ _ (by unfold Rpr at z; unfold P_tape; omega)), q3.loc (fun b j z => m4 _ _ (by unfold Rfd at z; unfold P_tape; omega)) (fun _ => rfl), q4.loc (fun b j z => m4 _ _ (by unfold Rwc Rwy at z; unfold P_tape; omega))⟩
theorem op_back : Oq_back γ l (WhS n) (WhS (n + 1)) := by
  intro I J R a1 h
  obtain ⟨⟨hA, hB⟩, ⟨h1, h2, h3⟩, T, p, p', s, Rs, F, H, D, K, ho, ld, wh, q1, q2, q3, q4⟩ := id h
  obtain ⟨I1, I2, v, m1, m2, m3, m4⟩ := pc_back (γ := γ) (l := l) (J := J) hA hB h1 a1
  exact ⟨I1, I2, v, m1, m2, ⟨hA, hB⟩, ⟨m3, (by rw [m4 0 7 (by unfold P_tape; omega), m4 169 17 (by unfold P_tape; omega)]; exact h2), h3⟩, T, p, p', s, Rs, F, H, D, K, ho, ld, wh, (q1.loc (fun b j z => m4 _ _ (by unfold Psh Fc Fm at z; unfold P_tape; omega))).mono (by omega), q2.loc (fun b j z => m4 _ _ (by unfold Rpr at z; unfold P_tape; omega)), q3.loc (fun b j z => m4 _ _ (by unfold Rfd at z; unfold P_tape; omega)) (fun _ => rfl), q4.loc (fun b j z => m4 _ _ (by unfold Rwc Rwy at z; unfold P_tape; omega))⟩
theorem op_read : Oq_read γ l (WhS n) (WhS (n + 1)) := by
  intro I J R  h
  obtain ⟨⟨hA, hB⟩, ⟨h1, h2, h3⟩, T, p, p', s, Rs, F, H, D, K, ho, ld, wh, q1, q2, q3, q4⟩ := id h
  obtain ⟨I1, R1, I2, J2, v, m1, m2, m3, m4, m5, m6, m7, m8, m9⟩ := pc_read (γ := γ) (l := l) hA hB h1 q2 h3
  refine ⟨I1, R1, I2, J2, v, m1, m2, m3, ⟨m4, m5, m6⟩, ?_⟩
  rcases m7 with ⟨w1, w2⟩ | ⟨s', Rs', w1, w2⟩
  · refine ⟨T, p, p', s, Rs, F, H, D, K, ho, ld, wh, (q1.loc (fun b j z => m8 _ _ (by unfold Psh Fc Fm at z; unfold Prd; omega))).mono (by omega), w1, q3.loc (fun b j z => m8 _ _ (by unfold Rfd at z; unfold Prd; omega)) (fun j => m9 118 j (by decide)), ?_⟩
    refine q4.loc (fun b j z => ?_)
    by_cases e : b = 142 ∧ j = 3
    · rw [e.1, e.2]; exact w2
    · exact m8 _ _ (by unfold Rwc Rwy at z; unfold Prd; omega)
  · exact ⟨T, p', p, s', Rs', F, H, D, K, ho, ld, wh, (q1.loc (fun b j z => m8 _ _ (by unfold Psh Fc Fm at z; unfold Prd; omega))).mono (by omega), w1, q3.loc (fun b j z => m8 _ _ (by unfold Rfd at z; unfold Prd; omega)) (fun j => m9 118 j (by decide)), q4.1.lc (fun b j z => m8 _ _ (by unfold Rwy at z; unfold Prd; omega)), Or.inl w2⟩
theorem op_place : Oq_place γ l (WhS n) (WhS (n + 1)) := by
  intro I J R  h
  obtain ⟨⟨hA, hB⟩, ⟨h1, h2, h3⟩, T, p, p', s, Rs, F, H, D, K, ho, ld, wh, q1, q2, q3, q4⟩ := id h
  obtain ⟨v, m1, m2⟩ := pc_place (γ := γ) (l := l) (J := J) hA hB h2
  exact ⟨v, m1, m2, h.up⟩
theorem op_mark : Oq_mark γ l (WhS n) (WhS (n + 1)) := by
  intro I J R a1 h
  obtain ⟨⟨hA, hB⟩, ⟨h1, h2, h3⟩, T, p, p', s, Rs, F, H, D, K, ho, ld, wh, q1, q2, q3, q4⟩ := id h
  obtain ⟨v, m1, m2⟩ := pc_mark (γ := γ) (l := l) (J := J) hA hB q1 a1
  exact ⟨v, m1, m2, h.up⟩
theorem op_layers : Oq_layers γ l (WhS n) (WhS (n + 1)) := by
  intro I J R a1 h
  obtain ⟨⟨hA, hB⟩, ⟨h1, h2, h3⟩, T, p, p', s, Rs, F, H, D, K, ho, ld, wh, q1, q2, q3, q4⟩ := id h
  obtain ⟨v, m1, m2⟩ := pc_layers (γ := γ) (l := l) (J := J) hA hB q1 a1
  exact ⟨v, m1, m2, h.up⟩
theorem op_at : Oq_at γ l (WhS n) (WhS (n + 1)) := by
  intro I J R a1 a2 h
  obtain ⟨⟨hA, hB⟩, ⟨h1, h2, h3⟩, T, p, p', s, Rs, F, H, D, K, ho, ld, wh, q1, q2, q3, q4⟩ := id h
  obtain ⟨v, m1, m2⟩ := pc_at (γ := γ) (l := l) (J := J) hA hB q1 a1 a2
  exact ⟨v, m1, m2, h.up⟩
theorem op_sheet : Oq_sheet γ l (WhS n) (WhS (n + 1)) := by
  intro I J R a1 h
  obtain ⟨⟨hA, hB⟩, ⟨h1, h2, h3⟩, T, p, p', s, Rs, F, H, D, K, ho, ld, wh, q1, q2, q3, q4⟩ := id h
  obtain ⟨I1, I2, v, m1, m2, m3, m4⟩ := pc_sheet (γ := γ) (l := l) (J := J) (I := I) (n := n) hA hB a1
  refine ⟨I1, I2, v, m1, m2, ?_⟩
  rcases m3 with e | ⟨N, w1, w2, w3, w4, w5, w6, w7⟩
  · rw [e]; exact h.up
  · exact ⟨⟨hA, hB⟩, ⟨h1.loc (fun b j z => m4 _ _ (by unfold P_tape at z; unfold Psf Psh Fc Fm Pfd; omega)), (by rw [m4 0 7 (by unfold Psf Psh Fc Fm Pfd; omega), m4 169 17 (by unfold Psf Psh Fc Fm Pfd; omega)]; exact h2), h3⟩, newT N, p, p', s, Rs, noF, H, D, K, ho, ld, wh, w2.mono (by omega), q2.loc (fun b j z => m4 _ _ (by unfold Rpr at z; unfold Psf Psh Fc Fm Pfd; omega)), ⟨w3, w4, w5, q3.2.2.2.1.fr (fun b j z => m4 _ _ (by unfold Psf Psh Fc Fm Pfd; omega)) (fun _ => rfl), Or.inl ⟨w6, w7⟩⟩, q4.loc (fun b j z => m4 _ _ (by unfold Rwc Rwy at z; unfold Psf Psh Fc Fm Pfd; omega))⟩
theorem op_fold : Oq_fold γ l (WhS n) (WhS (n + 1)) := by
  intro I J R a1 a2 a3 h g2 g3
  obtain ⟨⟨hA, hB⟩, ⟨h1, h2, h3⟩, T, p, p', s, Rs, F, H, D, K, ho, ld, wh, q1, q2, q3, q4⟩ := id h
  obtain ⟨x2, rfl⟩ := b01 g2
  obtain ⟨x3, rfl⟩ := b01 g3
  obtain ⟨I1, I2, v, m1, m2, ⟨T', w1, w2⟩, m4⟩ := pc_fold (γ := γ) (l := l) (J := J) hA hB q1 a1 x2 x3
  refine ⟨I1, I2, v, m1, m2, ⟨hA, hB⟩, ⟨h1.loc (fun b j z => m4 _ _ (by unfold P_tape at z; unfold Psh Fc Fm; omega)), (by rw [m4 0 7 (by unfold Psh Fc Fm; omega), m4 169 17 (by unfold Psh Fc Fm; omega)]; exact h2), h3⟩, T', p, p', s, Rs, F, H, D, K, ho, ld, wh, w1.mono (by omega), q2.loc (fun b j z => m4 _ _ (by unfold Rpr at z; unfold Psh Fc Fm; omega)), ?_, q4.loc (fun b j z => m4 _ _ (by unfold Rwc Rwy at z; unfold Psh Fc Fm; omega))⟩
  rw [w2]
  exact q3.loc (fun b j z => m4 _ _ (by unfold Rfd at z; unfold Psh Fc Fm; omega)) (fun _ => rfl)
theorem op_tuck : Oq_tuck γ l (WhS n) (WhS (n + 1)) := by
  intro I J R a1 a2 a3 h g2
  obtain ⟨⟨hA, hB⟩, ⟨h1, h2, h3⟩, T, p, p', s, Rs, F, H, D, K, ho, ld, wh, q1, q2, q3, q4⟩ := id h
  obtain ⟨x2, rfl⟩ := b01 g2
  obtain ⟨I1, I2, v, m1, m2, ⟨T', w1, w2⟩, m4⟩ := pc_tuck (γ := γ) (l := l) (J := J) hA hB q1 a1 a3 x2
  refine ⟨I1, I2, v, m1, m2, ⟨hA, hB⟩, ⟨h1.loc (fun b j z => m4 _ _ (by unfold P_tape at z; unfold Psh Fc Fm; omega)), (by rw [m4 0 7 (by unfold Psh Fc Fm; omega), m4 169 17 (by unfold Psh Fc Fm; omega)]; exact h2), h3⟩, T', p, p', s, Rs, F, H, D, K, ho, ld, wh, w1.mono (by omega), q2.loc (fun b j z => m4 _ _ (by unfold Rpr at z; unfold Psh Fc Fm; omega)), ?_, q4.loc (fun b j z => m4 _ _ (by unfold Rwc Rwy at z; unfold Psh Fc Fm; omega))⟩
  rw [w2]
  exact q3.loc (fun b j z => m4 _ _ (by unfold Rfd at z; unfold Psh Fc Fm; omega)) (fun _ => rfl)
theorem op_slit : Oq_slit γ l (WhS n) (WhS (n + 1)) := by
  intro I J R a1 a2 h
  obtain ⟨⟨hA, hB⟩, ⟨h1, h2, h3⟩, T, p, p', s, Rs, F, H, D, K, ho, ld, wh, q1, q2, q3, q4⟩ := id h
  obtain ⟨I1, I2, v, m1, m2, ⟨T', w1, w2⟩, m4⟩ := pc_slit (γ := γ) (l := l) (J := J) hA hB q1 a1 a2
  refine ⟨I1, I2, v, m1, m2, ⟨hA, hB⟩, ⟨h1.loc (fun b j z => m4 _ _ (by unfold P_tape at z; unfold Psh Fc Fm; omega)), (by rw [m4 0 7 (by unfold Psh Fc Fm; omega), m4 169 17 (by unfold Psh Fc Fm; omega)]; exact h2), h3⟩, T', p, p', s, Rs, F, H, D, K, ho, ld, wh, w1, q2.loc (fun b j z => m4 _ _ (by unfold Rpr at z; unfold Psh Fc Fm; omega)), ?_, q4.loc (fun b j z => m4 _ _ (by unfold Rwc Rwy at z; unfold Psh Fc Fm; omega))⟩
  rw [w2]
  exact q3.loc (fun b j z => m4 _ _ (by unfold Rfd at z; unfold Psh Fc Fm; omega)) (fun _ => rfl)
theorem op_lock (hn5 : n < 512) : Oq_lock γ l (WhS n) (WhS (n + 1)) := by
  intro I J R a1 a2 h
  obtain ⟨⟨hA, hB⟩, ⟨h1, h2, h3⟩, T, p, p', s, Rs, F, H, D, K, ho, ld, wh, q1, q2, q3, q4⟩ := id h
  have hn : n < 2 ^ 31 := by omega
  obtain ⟨I1, I2, v, m1, m2, ⟨T', w1, w2⟩, m4⟩ := pc_lock (γ := γ) (l := l) (J := J) hA hB hn q1 a1 a2
  refine ⟨I1, I2, v, m1, m2, ⟨hA, hB⟩, ⟨h1.loc (fun b j z => m4 _ _ (by unfold P_tape at z; unfold Psh Fc Fm; omega)), (by rw [m4 0 7 (by unfold Psh Fc Fm; omega), m4 169 17 (by unfold Psh Fc Fm; omega)]; exact h2), h3⟩, T', p, p', s, Rs, F, H, D, K, ho, ld, wh, w1.mono (by omega), q2.loc (fun b j z => m4 _ _ (by unfold Rpr at z; unfold Psh Fc Fm; omega)), ?_, q4.loc (fun b j z => m4 _ _ (by unfold Rwc Rwy at z; unfold Psh Fc Fm; omega))⟩
  rw [w2]
  exact q3.loc (fun b j z => m4 _ _ (by unfold Rfd at z; unfold Psh Fc Fm; omega)) (fun _ => rfl)
theorem op_seal : Oq_seal γ l (WhS n) (WhS (n + 1)) := by
  intro I J R a1 h
  obtain ⟨⟨hA, hB⟩, ⟨h1, h2, h3⟩, T, p, p', s, Rs, F, H, D, K, ho, ld, wh, q1, q2, q3, q4⟩ := id h
  obtain ⟨I1, I2, v, m1, m2, ⟨T', w1, w2⟩, m4⟩ := pc_seal (γ := γ) (l := l) (J := J) hA hB q1 a1
  refine ⟨I1, I2, v, m1, m2, ⟨hA, hB⟩, ⟨h1.loc (fun b j z => m4 _ _ (by unfold P_tape at z; unfold Psh Fc Fm; omega)), (by rw [m4 0 7 (by unfold Psh Fc Fm; omega), m4 169 17 (by unfold Psh Fc Fm; omega)]; exact h2), h3⟩, T', p, p', s, Rs, F, H, D, K, ho, ld, wh, w1.mono (by omega), q2.loc (fun b j z => m4 _ _ (by unfold Rpr at z; unfold Psh Fc Fm; omega)), ?_, q4.loc (fun b j z => m4 _ _ (by unfold Rwc Rwy at z; unfold Psh Fc Fm; omega))⟩
  rw [w2]
  exact q3.loc (fun b j z => m4 _ _ (by unfold Rfd at z; unfold Psh Fc Fm; omega)) (fun _ => rfl)
theorem op_soil : Oq_soil γ l (WhS n) (WhS (n + 1)) := by
  intro I J R  h
  obtain ⟨⟨hA, hB⟩, ⟨h1, h2, h3⟩, T, p, p', s, Rs, F, H, D, K, ho, ld, wh, q1, q2, q3, q4⟩ := id h
  obtain ⟨I1, I2, v, m1, m2, ⟨T', w1, w2⟩, m4⟩ := pc_soil (γ := γ) (l := l) (J := J) hA hB q1
  refine ⟨I1, I2, v, m1, m2, ⟨hA, hB⟩, ⟨h1.loc (fun b j z => m4 _ _ (by unfold P_tape at z; unfold Psh Fc Fm; omega)), (by rw [m4 0 7 (by unfold Psh Fc Fm; omega), m4 169 17 (by unfold Psh Fc Fm; omega)]; exact h2), h3⟩, T', p, p', s, Rs, F, H, D, K, ho, ld, wh, w1.mono (by omega), q2.loc (fun b j z => m4 _ _ (by unfold Rpr at z; unfold Psh Fc Fm; omega)), ?_, q4.loc (fun b j z => m4 _ _ (by unfold Rwc Rwy at z; unfold Psh Fc Fm; omega))⟩
  rw [w2]
  exact q3.loc (fun b j z => m4 _ _ (by unfold Rfd at z; unfold Psh Fc Fm; omega)) (fun _ => rfl)
theorem op_undo : Oq_undo γ l (WhS n) (WhS (n + 1)) := by
  intro I J R  h
  obtain ⟨⟨hA, hB⟩, ⟨h1, h2, h3⟩, T, p, p', s, Rs, F, H, D, K, ho, ld, wh, q1, q2, q3, q4⟩ := id h
  obtain ⟨I1, I2, v, m1, m2, ⟨T', w1, w2⟩, m4⟩ := pc_undo (γ := γ) (l := l) (J := J) hA hB q1 q2.1
  refine ⟨I1, I2, v, m1, m2, ⟨hA, hB⟩, ⟨h1.loc (fun b j z => m4 _ _ (by unfold P_tape at z; unfold Pus Psc Psh Fc Fm; omega)), (by rw [m4 0 7 (by unfold Pus Psc Psh Fc Fm; omega), m4 169 17 (by unfold Pus Psc Psh Fc Fm; omega)]; exact h2), h3⟩, T', p, p', s, Rs, F, H, D, K, ho, ld, wh, w1.mono (by omega), q2.loc (fun b j z => m4 _ _ (by unfold Rpr at z; unfold Pus Psc Psh Fc Fm; omega)), ?_, q4.loc (fun b j z => m4 _ _ (by unfold Rwc Rwy at z; unfold Pus Psc Psh Fc Fm; omega))⟩
  rw [w2]
  exact q3.loc (fun b j z => m4 _ _ (by unfold Rfd at z; unfold Pus Psc Psh Fc Fm; omega)) (fun _ => rfl)
theorem op_part : Oq_part γ l (WhS n) (WhS (n + 1)) := by
  intro I J R a1 a2 h
  obtain ⟨⟨hA, hB⟩, ⟨h1, h2, h3⟩, T, p, p', s, Rs, F, H, D, K, ho, ld, wh, q1, q2, q3, q4⟩ := id h
  obtain ⟨I1, I2, v, m1, m2, m4⟩ := pc_part (γ := γ) (l := l) (J := J) hA hB q1 q2.1 a1 a2
  exact ⟨I1, I2, v, m1, m2, ⟨hA, hB⟩, ⟨h1.loc (fun b j z => m4 _ _ (by unfold P_tape at z; unfold Psc; omega)), (by rw [m4 0 7 (by unfold Psc; omega), m4 169 17 (by unfold Psc; omega)]; exact h2), h3⟩, T, p, p', s, Rs, F, H, D, K, ho, ld, wh, (q1.loc (fun b j z => m4 _ _ (by unfold Psh Fc Fm at z; unfold Psc; omega))).mono (by omega), q2.loc (fun b j z => m4 _ _ (by unfold Rpr at z; unfold Psc; omega)), q3.loc (fun b j z => m4 _ _ (by unfold Rfd at z; unfold Psc; omega)) (fun _ => rfl), q4.loc (fun b j z => m4 _ _ (by unfold Rwc Rwy at z; unfold Psc; omega))⟩
theorem op_harm : Oq_harm γ l (WhS n) (WhS (n + 1)) := by
  intro I J R a1 h
  obtain ⟨⟨hA, hB⟩, ⟨h1, h2, h3⟩, T, p, p', s, Rs, F, H, D, K, ho, ld, wh, q1, q2, q3, q4⟩ := id h
  obtain ⟨I1, I2, v, m1, m2, m4⟩ := pc_harm (γ := γ) (l := l) (J := J) hA hB q1 q2.1 a1
  exact ⟨I1, I2, v, m1, m2, ⟨hA, hB⟩, ⟨h1.loc (fun b j z => m4 _ _ (by unfold P_tape at z; unfold Psc; omega)), (by rw [m4 0 7 (by unfold Psc; omega), m4 169 17 (by unfold Psc; omega)]; exact h2), h3⟩, T, p, p', s, Rs, F, H, D, K, ho, ld, wh, (q1.loc (fun b j z => m4 _ _ (by unfold Psh Fc Fm at z; unfold Psc; omega))).mono (by omega), q2.loc (fun b j z => m4 _ _ (by unfold Rpr at z; unfold Psc; omega)), q3.loc (fun b j z => m4 _ _ (by unfold Rfd at z; unfold Psc; omega)) (fun _ => rfl), q4.loc (fun b j z => m4 _ _ (by unfold Rwc Rwy at z; unfold Psc; omega))⟩
theorem op_by : Oq_by γ l (WhS n) (WhS (n + 1)) := by
  intro I J R a1 h
  obtain ⟨⟨hA, hB⟩, ⟨h1, h2, h3⟩, T, p, p', s, Rs, F, H, D, K, ho, ld, wh, q1, q2, q3, q4⟩ := id h
  obtain ⟨I1, I2, v, m1, m2, m4⟩ := pc_by (γ := γ) (l := l) (J := J) hA hB q1 q2.1 a1
  exact ⟨I1, I2, v, m1, m2, ⟨hA, hB⟩, ⟨h1.loc (fun b j z => m4 _ _ (by unfold P_tape at z; unfold Psc; omega)), (by rw [m4 0 7 (by unfold Psc; omega), m4 169 17 (by unfold Psc; omega)]; exact h2), h3⟩, T, p, p', s, Rs, F, H, D, K, ho, ld, wh, (q1.loc (fun b j z => m4 _ _ (by unfold Psh Fc Fm at z; unfold Psc; omega))).mono (by omega), q2.loc (fun b j z => m4 _ _ (by unfold Rpr at z; unfold Psc; omega)), q3.loc (fun b j z => m4 _ _ (by unfold Rfd at z; unfold Psc; omega)) (fun _ => rfl), q4.loc (fun b j z => m4 _ _ (by unfold Rwc Rwy at z; unfold Psc; omega))⟩
theorem op_ease : Oq_ease γ l (WhS n) (WhS (n + 1)) := by
  intro I J R a1 h
  obtain ⟨⟨hA, hB⟩, ⟨h1, h2, h3⟩, T, p, p', s, Rs, F, H, D, K, ho, ld, wh, q1, q2, q3, q4⟩ := id h
  obtain ⟨I1, I2, v, m1, m2, m4⟩ := pc_ease (γ := γ) (l := l) (J := J) hA hB q1 q2.1 a1
  exact ⟨I1, I2, v, m1, m2, ⟨hA, hB⟩, ⟨h1.loc (fun b j z => m4 _ _ (by unfold P_tape at z; unfold Psc; omega)), (by rw [m4 0 7 (by unfold Psc; omega), m4 169 17 (by unfold Psc; omega)]; exact h2), h3⟩, T, p, p', s, Rs, F, H, D, K, ho, ld, wh, (q1.loc (fun b j z => m4 _ _ (by unfold Psh Fc Fm at z; unfold Psc; omega))).mono (by omega), q2.loc (fun b j z => m4 _ _ (by unfold Rpr at z; unfold Psc; omega)), q3.loc (fun b j z => m4 _ _ (by unfold Rfd at z; unfold Psc; omega)) (fun _ => rfl), q4.loc (fun b j z => m4 _ _ (by unfold Rwc Rwy at z; unfold Psc; omega))⟩
theorem op_undone : Oq_undone γ l (WhS n) (WhS (n + 1)) := by
  intro I J R a1 h
  obtain ⟨⟨hA, hB⟩, ⟨h1, h2, h3⟩, T, p, p', s, Rs, F, H, D, K, ho, ld, wh, q1, q2, q3, q4⟩ := id h
  obtain ⟨I1, I2, v, m1, m2, m4⟩ := pc_undone (γ := γ) (l := l) (J := J) hA hB q1 q2.1 a1
  exact ⟨I1, I2, v, m1, m2, ⟨hA, hB⟩, ⟨h1.loc (fun b j z => m4 _ _ (by unfold P_tape at z; unfold Psc; omega)), (by rw [m4 0 7 (by unfold Psc; omega), m4 169 17 (by unfold Psc; omega)]; exact h2), h3⟩, T, p, p', s, Rs, F, H, D, K, ho, ld, wh, (q1.loc (fun b j z => m4 _ _ (by unfold Psh Fc Fm at z; unfold Psc; omega))).mono (by omega), q2.loc (fun b j z => m4 _ _ (by unfold Rpr at z; unfold Psc; omega)), q3.loc (fun b j z => m4 _ _ (by unfold Rfd at z; unfold Psc; omega)) (fun _ => rfl), q4.loc (fun b j z => m4 _ _ (by unfold Rwc Rwy at z; unfold Psc; omega))⟩
theorem op_count : Oq_count γ l (WhS n) (WhS (n + 1)) := by
  intro I J R a1 h
  obtain ⟨⟨hA, hB⟩, ⟨h1, h2, h3⟩, T, p, p', s, Rs, F, H, D, K, ho, ld, wh, q1, q2, q3, q4⟩ := id h
  have t1 : I 1 1 = I 169 2 := by obtain ⟨k, f, _, x1, x2, _⟩ := h1; rw [x1.1, x2.1]
  have w0 : I 142 0 = I 169 69 := by rw [q4.1.2.2.2.1.1, q4.1.2.2.2.2.1.1]
  have w1 : I 142 1 = I 169 71 := by rw [q4.1.2.2.2.1.2.1, q4.1.2.2.2.2.1.2.1]
  have w2 : I 142 2 = I 169 73 := by rw [q4.1.2.2.2.1.2.2, q4.1.2.2.2.2.1.2.2]
  obtain ⟨I1, I2, v, m1, m2, m4⟩ := pc_count (γ := γ) (l := l) (J := J) hA hB q1 q2.1 t1 w0 w1 w2 a1
  exact ⟨I1, I2, v, m1, m2, ⟨hA, hB⟩, ⟨h1.loc (fun b j z => m4 _ _ (by unfold P_tape at z; unfold Psc; omega)), (by rw [m4 0 7 (by unfold Psc; omega), m4 169 17 (by unfold Psc; omega)]; exact h2), h3⟩, T, p, p', s, Rs, F, H, D, K, ho, ld, wh, (q1.loc (fun b j z => m4 _ _ (by unfold Psh Fc Fm at z; unfold Psc; omega))).mono (by omega), q2.loc (fun b j z => m4 _ _ (by unfold Rpr at z; unfold Psc; omega)), q3.loc (fun b j z => m4 _ _ (by unfold Rfd at z; unfold Psc; omega)) (fun _ => rfl), q4.loc (fun b j z => m4 _ _ (by unfold Rwc Rwy at z; unfold Psc; omega))⟩
theorem op_find : Oq_find γ l (WhS n) (WhS (n + 1)) := by
  intro I J R a1 a2 a3 h
  obtain ⟨⟨hA, hB⟩, ⟨h1, h2, h3⟩, T, p, p', s, Rs, F, H, D, K, ho, ld, wh, q1, q2, q3, q4⟩ := id h
  obtain ⟨I1, I2, v, m1, m2, m3, m4⟩ := pc_find (γ := γ) (l := l) (J := J) hA hB q3.1 q3.2.1 q3.2.2.1 q1.2.2.1.1 ⟨q1.1.1, q1.1.2.1⟩ a1 a2 a3
  refine ⟨I1, I2, v, m1, m2, ?_⟩
  rcases m3 with e | ⟨F', w1, w2, w3, w4, w5⟩
  · rw [e]; exact h.up
  · exact ⟨⟨hA, hB⟩, ⟨h1.loc (fun b j z => m4 _ _ (by unfold P_tape at z; unfold Pfd; omega)), (by rw [m4 0 7 (by unfold Pfd; omega), m4 169 17 (by unfold Pfd; omega)]; exact h2), h3⟩, T, p, p', s, Rs, F', H, D, K, ho, ld, wh, (q1.loc (fun b j z => m4 _ _ (by unfold Psh Fc Fm at z; unfold Pfd; omega))).mono (by omega), q2.loc (fun b j z => m4 _ _ (by unfold Rpr at z; unfold Pfd; omega)), ⟨w1, w2, w3, q3.2.2.2.1.fr (fun b j z => m4 _ _ (by unfold Pfd; omega)) (fun _ => rfl), Or.inl ⟨w4, w5⟩⟩, q4.loc (fun b j z => m4 _ _ (by unfold Rwc Rwy at z; unfold Pfd; omega))⟩
theorem op_finds (hn5 : n < 512) : Oq_finds γ l (WhS n) (WhS (n + 1)) := by
  intro I J R h
  obtain ⟨⟨hA, hB⟩, ⟨h1, h2, h3⟩, T, p, p', s, Rs, F, H, D, K, ho, ld, wh, q1, q2, q3, q4⟩ := id h
  obtain ⟨I1, I2, m1, m2, ⟨w1, w2, w3, w4, w5⟩, m4⟩ := pc_finds (γ := γ) (l := l) (J := J) hA hB (show n < 2 ^ 31 by omega) q1 q3.2.1
  exact ⟨I1, I2, m1, m2, ⟨hA, hB⟩, ⟨h1.loc (fun b j z => m4 _ _ (by unfold P_tape at z; unfold Pfd; omega)), (by rw [m4 0 7 (by unfold Pfd; omega), m4 169 17 (by unfold Pfd; omega)]; exact h2), h3⟩, T, p, p', s, Rs, allF T, H, D, K, ho, ld, wh, (q1.loc (fun b j z => m4 _ _ (by unfold Psh Fc Fm at z; unfold Pfd; omega))).mono (by omega), q2.loc (fun b j z => m4 _ _ (by unfold Rpr at z; unfold Pfd; omega)), ⟨w1, w2, w3, q3.2.2.2.1.fr (fun b j z => m4 _ _ (by unfold Pfd; omega)) (fun _ => rfl), Or.inl ⟨w4, w5⟩⟩, q4.loc (fun b j z => m4 _ _ (by unfold Rwc Rwy at z; unfold Pfd; omega))⟩
theorem op_rows : Oq_rows γ l (WhS n) (WhS (n + 1)) := by
  intro I J R  h
  obtain ⟨⟨hA, hB⟩, ⟨h1, h2, h3⟩, T, p, p', s, Rs, F, H, D, K, ho, ld, wh, q1, q2, q3, q4⟩ := id h
  obtain ⟨I1, J1, I2, v, m1, m2, m3, m4, m5⟩ := pc_rows (γ := γ) (l := l) hA hB ⟨q1.1.1, q1.1.2.1⟩ q1.2.2.1.1 q3 
  exact ⟨I1, J1, I2, v, m1, m2, ⟨hA, hB⟩, ⟨h1.loc (fun b j z => m4 _ _ (by unfold P_tape at z; unfold Psr; omega)), (by rw [m4 0 7 (by unfold Psr; omega), m4 169 17 (by unfold Psr; omega)]; exact h2), fun k hk => by rw [m5 _ _ (by decide)]; exact h3 k hk⟩, T, p, p', s, Rs, F, H, D, K, ho, ld, wh, (q1.loc (fun b j z => m4 _ _ (by unfold Psh Fc Fm at z; unfold Psr; omega))).mono (by omega), q2.loc (fun b j z => m4 _ _ (by unfold Rpr at z; unfold Psr; omega)), m3, q4.loc (fun b j z => m4 _ _ (by unfold Rwc Rwy at z; unfold Psr; omega))⟩
theorem op_row : Oq_row γ l (WhS n) (WhS (n + 1)) := by
  intro I J R a1 h
  obtain ⟨⟨hA, hB⟩, ⟨h1, h2, h3⟩, T, p, p', s, Rs, F, H, D, K, ho, ld, wh, q1, q2, q3, q4⟩ := id h
  obtain ⟨I1, J1, I2, v, m1, m2, m3, m4, m5⟩ := pc_row (γ := γ) (l := l) hA hB ⟨q1.1.1, q1.1.2.1⟩ q1.2.2.1.1 q3 a1
  exact ⟨I1, J1, I2, v, m1, m2, ⟨hA, hB⟩, ⟨h1.loc (fun b j z => m4 _ _ (by unfold P_tape at z; unfold Psr; omega)), (by rw [m4 0 7 (by unfold Psr; omega), m4 169 17 (by unfold Psr; omega)]; exact h2), fun k hk => by rw [m5 _ _ (by decide)]; exact h3 k hk⟩, T, p, p', s, Rs, F, H, D, K, ho, ld, wh, (q1.loc (fun b j z => m4 _ _ (by unfold Psh Fc Fm at z; unfold Psr; omega))).mono (by omega), q2.loc (fun b j z => m4 _ _ (by unfold Rpr at z; unfold Psr; omega)), m3, q4.loc (fun b j z => m4 _ _ (by unfold Rwc Rwy at z; unfold Psr; omega))⟩
theorem op_shut : Oq_shut γ l (WhS n) (WhS (n + 1)) := by
  intro I J R  h
  obtain ⟨⟨hA, hB⟩, ⟨h1, h2, h3⟩, T, p, p', s, Rs, F, H, D, K, ho, ld, wh, q1, q2, q3, q4⟩ := id h
  obtain ⟨I1, J1, I2, v, m1, m2, m3, m4, m5⟩ := pc_shut (γ := γ) (l := l) hA hB ⟨q1.1.1, q1.1.2.1⟩ q1.2.2.1.1 q3 
  exact ⟨I1, J1, I2, v, m1, m2, ⟨hA, hB⟩, ⟨h1.loc (fun b j z => m4 _ _ (by unfold P_tape at z; unfold Psr; omega)), (by rw [m4 0 7 (by unfold Psr; omega), m4 169 17 (by unfold Psr; omega)]; exact h2), fun k hk => by rw [m5 _ _ (by decide)]; exact h3 k hk⟩, T, p, p', s, Rs, F, H, D, K, ho, ld, wh, (q1.loc (fun b j z => m4 _ _ (by unfold Psh Fc Fm at z; unfold Psr; omega))).mono (by omega), q2.loc (fun b j z => m4 _ _ (by unfold Rpr at z; unfold Psr; omega)), m3, q4.loc (fun b j z => m4 _ _ (by unfold Rwc Rwy at z; unfold Psr; omega))⟩
theorem op_hand : Oq_hand γ l (WhS n) (WhS (n + 1)) := by
  intro I J R a1 h
  obtain ⟨⟨hA, hB⟩, ⟨h1, h2, h3⟩, T, p, p', s, Rs, F, H, D, K, ho, ld, wh, q1, q2, q3, q4⟩ := id h
  obtain ⟨I1, I2, v, m1, m2, m3, m4⟩ := pc_hand (γ := γ) (l := l) (J := J) hA hB q4.1 a1
  refine ⟨I1, I2, v, m1, m2, ?_⟩
  rcases m3 with e | ⟨m, ho', w1, w2⟩
  · rw [e]; exact h.up
  · exact ⟨⟨hA, hB⟩, ⟨h1.loc (fun b j z => m4 _ _ (by unfold P_tape at z; unfold P_way; omega)), (by rw [m4 0 7 (by unfold P_way; omega), m4 169 17 (by unfold P_way; omega)]; exact h2), h3⟩, T, p, p', s, Rs, F, H + 1, D + m, K, ho', ld, wh, (q1.loc (fun b j z => m4 _ _ (by unfold Psh Fc Fm at z; unfold P_way; omega))).mono (by omega), q2.loc (fun b j z => m4 _ _ (by unfold Rpr at z; unfold P_way; omega)), q3.loc (fun b j z => m4 _ _ (by unfold Rfd at z; unfold P_way; omega)) (fun _ => rfl), w1, Or.inl w2⟩
theorem op_look : Oq_look γ l (WhS n) (WhS (n + 1)) := by
  intro I J R a1 a2 h
  obtain ⟨⟨hA, hB⟩, ⟨h1, h2, h3⟩, T, p, p', s, Rs, F, H, D, K, ho, ld, wh, q1, q2, q3, q4⟩ := id h
  obtain ⟨I1, I2, v, m1, m2, m3, m4⟩ := pc_look (γ := γ) (l := l) (J := J) hA hB q4.1 a1 a2
  refine ⟨I1, I2, v, m1, m2, ?_⟩
  rcases m3 with e | ⟨ld', wh', w1, w2⟩
  · rw [e]; exact h.up
  · exact ⟨⟨hA, hB⟩, ⟨h1.loc (fun b j z => m4 _ _ (by unfold P_tape at z; unfold P_way; omega)), (by rw [m4 0 7 (by unfold P_way; omega), m4 169 17 (by unfold P_way; omega)]; exact h2), h3⟩, T, p, p', s, Rs, F, H, D, K + 1, ho, ld', wh', (q1.loc (fun b j z => m4 _ _ (by unfold Psh Fc Fm at z; unfold P_way; omega))).mono (by omega), q2.loc (fun b j z => m4 _ _ (by unfold Rpr at z; unfold P_way; omega)), q3.loc (fun b j z => m4 _ _ (by unfold Rfd at z; unfold P_way; omega)) (fun _ => rfl), w1, Or.inl w2⟩
theorem op_tale : Oq_tale γ l (WhS n) (WhS (n + 1)) := by
  intro I J R a1 h
  obtain ⟨⟨hA, hB⟩, ⟨h1, h2, h3⟩, T, p, p', s, Rs, F, H, D, K, ho, ld, wh, q1, q2, q3, q4⟩ := id h
  obtain ⟨I1, J1, I2, v, m1, m2, m3, m4, m5⟩ := pc_tale (γ := γ) (l := l) (J := J) hA hB q4 q2.1 a1
  exact ⟨I1, J1, I2, v, m1, m2, ⟨hA, hB⟩, ⟨h1.loc (fun b j z => m4 _ _ (by unfold P_tape at z; unfold Pwy; omega)), (by rw [m4 0 7 (by unfold Pwy; omega), m4 169 17 (by unfold Pwy; omega)]; exact h2), fun k hk => by rw [m5 _ _ (by decide) (by decide)]; exact h3 k hk⟩, T, p, p', s, Rs, F, H, D, K, ho, ld, wh, (q1.loc (fun b j z => m4 _ _ (by unfold Psh Fc Fm at z; unfold Pwy; omega))).mono (by omega), q2.loc (fun b j z => m4 _ _ (by unfold Rpr at z; unfold Pwy; omega)), q3.loc (fun b j z => m4 _ _ (by unfold Rfd at z; unfold Pwy; omega)) (fun j => m5 118 j (by decide) (by decide)), m3⟩
theorem op_tales : Oq_tales γ l (WhS n) (WhS (n + 1)) := by
  intro I J R a1 h
  obtain ⟨⟨hA, hB⟩, ⟨h1, h2, h3⟩, T, p, p', s, Rs, F, H, D, K, ho, ld, wh, q1, q2, q3, q4⟩ := id h
  obtain ⟨I1, J1, I2, J2, v, m1, m2, m3, m4, m5⟩ := pc_tales (γ := γ) (l := l) (J := J) hA hB q4 q2.1 a1
  exact ⟨I1, J1, I2, J2, v, m1, m2, ⟨hA, hB⟩, ⟨h1.loc (fun b j z => m4 _ _ (by unfold P_tape at z; unfold Pwy; omega)), (by rw [m4 0 7 (by unfold Pwy; omega), m4 169 17 (by unfold Pwy; omega)]; exact h2), fun k hk => by rw [m5 _ _ (by decide) (by decide)]; exact h3 k hk⟩, T, p, p', s, Rs, F, H, D, K, ho, ld, wh, (q1.loc (fun b j z => m4 _ _ (by unfold Psh Fc Fm at z; unfold Pwy; omega))).mono (by omega), q2.loc (fun b j z => m4 _ _ (by unfold Rpr at z; unfold Pwy; omega)), q3.loc (fun b j z => m4 _ _ (by unfold Rfd at z; unfold Pwy; omega)) (fun j => m5 118 j (by decide) (by decide)), m3⟩
theorem op_told : Oq_told γ l (WhS n) (WhS (n + 1)) := by
  intro I J R a1 a2 h
  obtain ⟨⟨hA, hB⟩, ⟨h1, h2, h3⟩, T, p, p', s, Rs, F, H, D, K, ho, ld, wh, q1, q2, q3, q4⟩ := id h
  obtain ⟨I1, J1, I2, v, m1, m2, m3, m4, m5⟩ := pc_told (γ := γ) (l := l) (J := J) hA hB q4 q2.1 a1 a2
  exact ⟨I1, J1, I2, v, m1, m2, ⟨hA, hB⟩, ⟨h1.loc (fun b j z => m4 _ _ (by unfold P_tape at z; unfold Pwy; omega)), (by rw [m4 0 7 (by unfold Pwy; omega), m4 169 17 (by unfold Pwy; omega)]; exact h2), fun k hk => by rw [m5 _ _ (by decide) (by decide)]; exact h3 k hk⟩, T, p, p', s, Rs, F, H, D, K, ho, ld, wh, (q1.loc (fun b j z => m4 _ _ (by unfold Psh Fc Fm at z; unfold Pwy; omega))).mono (by omega), q2.loc (fun b j z => m4 _ _ (by unfold Rpr at z; unfold Pwy; omega)), q3.loc (fun b j z => m4 _ _ (by unfold Rfd at z; unfold Pwy; omega)) (fun j => m5 118 j (by decide) (by decide)), m3⟩
theorem op_opened : Oq_opened γ l (WhS n) (WhS (n + 1)) := by
  intro I J R a1 a2 h
  obtain ⟨⟨hA, hB⟩, ⟨h1, h2, h3⟩, T, p, p', s, Rs, F, H, D, K, ho, ld, wh, q1, q2, q3, q4⟩ := id h
  obtain ⟨I1, J1, I2, J2, v, m1, m2, m3, m4, m5⟩ := pc_opened (γ := γ) (l := l) (J := J) hA hB q4 q2.1 a1 a2
  exact ⟨I1, J1, I2, J2, v, m1, m2, ⟨hA, hB⟩, ⟨h1.loc (fun b j z => m4 _ _ (by unfold P_tape at z; unfold Pwy; omega)), (by rw [m4 0 7 (by unfold Pwy; omega), m4 169 17 (by unfold Pwy; omega)]; exact h2), fun k hk => by rw [m5 _ _ (by decide) (by decide)]; exact h3 k hk⟩, T, p, p', s, Rs, F, H, D, K, ho, ld, wh, (q1.loc (fun b j z => m4 _ _ (by unfold Psh Fc Fm at z; unfold Pwy; omega))).mono (by omega), q2.loc (fun b j z => m4 _ _ (by unfold Rpr at z; unfold Pwy; omega)), q3.loc (fun b j z => m4 _ _ (by unfold Rfd at z; unfold Pwy; omega)) (fun j => m5 118 j (by decide) (by decide)), m3⟩
theorem op_turned : Oq_turned γ l (WhS n) (WhS (n + 1)) := by
  intro I J R a1 h
  obtain ⟨⟨hA, hB⟩, ⟨h1, h2, h3⟩, T, p, p', s, Rs, F, H, D, K, ho, ld, wh, q1, q2, q3, q4⟩ := id h
  obtain ⟨I1, J1, I2, v, m1, m2, m3, m4, m5⟩ := pc_turned (γ := γ) (l := l) (J := J) hA hB q4 q2.1 a1
  exact ⟨I1, J1, I2, v, m1, m2, ⟨hA, hB⟩, ⟨h1.loc (fun b j z => m4 _ _ (by unfold P_tape at z; unfold Pwy; omega)), (by rw [m4 0 7 (by unfold Pwy; omega), m4 169 17 (by unfold Pwy; omega)]; exact h2), fun k hk => by rw [m5 _ _ (by decide) (by decide)]; exact h3 k hk⟩, T, p, p', s, Rs, F, H, D, K, ho, ld, wh, (q1.loc (fun b j z => m4 _ _ (by unfold Psh Fc Fm at z; unfold Pwy; omega))).mono (by omega), q2.loc (fun b j z => m4 _ _ (by unfold Rpr at z; unfold Pwy; omega)), q3.loc (fun b j z => m4 _ _ (by unfold Rfd at z; unfold Pwy; omega)) (fun j => m5 118 j (by decide) (by decide)), m3⟩
end OPS
