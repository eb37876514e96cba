/-! ===== the library's small methods ===== -/
theorem ct_J3 {γ : rG} {l : Launch} {h : rHeap} {i n : Int32} (v : Value) (hv : v.category = 1) (h0 : ¬ i < 0) (h1 : i < n) : rMet γ l m_J3_checkIndex_8e157 [.int i, .int n, v] h h (some (.int i)) := by
  refine rMet_of (L := [some (.int i), some (.int n)]) rfl rfl (rSub_at ⟨rfl, rfl, trivial⟩) (by simp [rargs, hv, show (Value.int i).category = 1 from rfl, show (Value.int n).category = 1 from rfl, mL]) ?_
  exact r_iload_n dJ3_checkIndex_8e157_0 rfl (r_if_lt (tgt := 9) dJ3_checkIndex_8e157_1 (by decide) (fun q => absurd q h0) (fun _ => r_iload_n dJ3_checkIndex_8e157_4 rfl (r_iload_n dJ3_checkIndex_8e157_5 rfl (r_icmp_lt (tgt := 16) dJ3_checkIndex_8e157_6 (by decide) (fun _ => r_iload_n dJ3_checkIndex_8e157_16 rfl (r_ireturn dJ3_checkIndex_8e157_17 rfl rfl rfl)) (fun q => absurd h1 q)))))
theorem ct_J0c {γ : rG} {l : Launch} {h : rHeap} {i n : Int32} (h0 : ¬ i < 0) (h1 : i < n) : rMet γ l m_J0_checkIndex_df160 [.int i, .int n] h h none := by
  refine rMet_of (L := [some (.int i), some (.int n)]) rfl rfl (rSub_at ⟨rfl, rfl, trivial⟩) (Nat.le_of_ble_eq_true rfl) ?_
  exact r_iload_n dJ0_checkIndex_df160_0 rfl (r_iload_n dJ0_checkIndex_df160_1 rfl (r_getsD dJ0_checkIndex_df160_2 g_RJ0_1053 (r_callS (As := [.int i, .int n, .float 4]) (rest := []) (M' := m_J3_checkIndex_8e157) dJ0_checkIndex_df160_5 yy_J3_checkIndex_8e157 yi_J3_checkIndex_8e157 lm_RJ0_1059 rfl (Nat.le_of_ble_eq_true rfl) ⟨Nat.le_of_ble_eq_true rfl, Nat.le_of_ble_eq_true rfl⟩ ⟨Nat.le_of_ble_eq_true rfl, Nat.le_of_ble_eq_true rfl⟩ (ct_J3 (.float 4) rfl h0 h1) (r_pop dJ0_checkIndex_df160_8 rfl (r_return dJ0_checkIndex_df160_9 rfl rfl rfl))) (r_callS (As := [.int i, .int n, .null]) (rest := []) (M' := m_J3_checkIndex_8e157) dJ0_checkIndex_df160_5 yy_J3_checkIndex_8e157 yi_J3_checkIndex_8e157 lm_RJ0_1059 rfl (Nat.le_of_ble_eq_true rfl) ⟨Nat.le_of_ble_eq_true rfl, Nat.le_of_ble_eq_true rfl⟩ ⟨Nat.le_of_ble_eq_true rfl, Nat.le_of_ble_eq_true rfl⟩ (ct_J3 .null rfl h0 h1) (r_pop dJ0_checkIndex_df160_8 rfl (r_return dJ0_checkIndex_df160_9 rfl rfl rfl)))))
theorem ct_J1 {γ : rG} {l : Launch} {h : rHeap} {i : Int32} (hi : vp_in i 112) : rMet γ l m_J1_charAt_3b067 [.float 3, .int i] h h (some (.int ((rWORDS.getD i.toNatClampNeg 0 &&& 255).toUInt32 % 65536).toInt32)) := by
  have h2 := vp_in_iff.mp hi
  have h0 : ¬ i < 0 := fun q => hi (Or.inl q)
  have h1 : i < 112 := by rw [Int32.lt_iff_toInt_lt]; exact h2.2
  refine rMet_of (L := [some (.float 3), some (.int i)]) rfl rfl (rSub_at ⟨rfl, rfl, trivial⟩) (Nat.le_of_ble_eq_true rfl) ?_
  exact r_iload_n dJ1_charAt_3b067_0 rfl (r_aload_nO dJ1_charAt_3b067_1 rfl (r_alenS dJ1_charAt_3b067_2 (r_callS (As := [.int i, .int 112]) (rest := []) (M' := m_J0_checkIndex_df160) dJ1_charAt_3b067_3 yy_J0_checkIndex_df160 yi_J0_checkIndex_df160 lm_RJ1_9 rfl (Nat.le_of_ble_eq_true rfl) ⟨Nat.le_of_ble_eq_true rfl, Nat.le_of_ble_eq_true rfl⟩ ⟨Nat.le_of_ble_eq_true rfl, Nat.le_of_ble_eq_true rfl⟩ (ct_J0c h0 h1) (r_aload_nO dJ1_charAt_3b067_6 rfl (r_iload_n dJ1_charAt_3b067_7 rfl (r_baloadS dJ1_charAt_3b067_8 hi (r_sipush (v := (255 : Int32)) dJ1_charAt_3b067_9 (by decide) (r_iand dJ1_charAt_3b067_12 (r_i2c dJ1_charAt_3b067_13 (r_zreturn dJ1_charAt_3b067_14 rfl (pk_nc _) rfl rfl))))))))))
theorem ct_J0l {γ : rG} {l : Launch} {h : rHeap} : rMet γ l m_J0_isLatin1_aae02 [.float 2] h h (some (.int 1)) := by
  refine rMet_of (L := [some (.float 2)]) rfl rfl (rSub_at ⟨rfl, trivial⟩) (Nat.le_of_ble_eq_true rfl) ?_
  exact r_getsC dJ0_isLatin1_aae02_0 g_RJ0_38 (r_if_eq (tgt := 17) dJ0_isLatin1_aae02_3 (by decide) (fun q => absurd q (by decide)) (fun _ => r_aload_nO dJ0_isLatin1_aae02_6 rfl (r_strC dJ0_isLatin1_aae02_7 g_RJ0_15 (r_if_ne (tgt := 17) dJ0_isLatin1_aae02_10 (by decide) (fun q => absurd rfl q) (fun _ => r_iconst (v := (1 : Int32)) dJ0_isLatin1_aae02_13 (by decide) (r_goto (tgt := 18) dJ0_isLatin1_aae02_14 (by decide) (r_zreturn dJ0_isLatin1_aae02_18 rfl rfl rfl rfl)))))))
theorem rWORDS_char : ∀ j, j < 112 → ((rWORDS.getD j 0 &&& 255).toUInt32 % 65536).toInt32 = rWORDS.getD j 0 := by decide +kernel
theorem ct_charAt {γ : rG} {l : Launch} {h : rHeap} {i : Int32} (hi : vp_in i 112) : rMet γ l m_J0_charAt_5068e [.float 2, .int i] h h (some (.int (rWORDS.getD i.toNatClampNeg 0))) := by
  have e : ((rWORDS.getD i.toNatClampNeg 0 &&& 255).toUInt32 % 65536).toInt32 = rWORDS.getD i.toNatClampNeg 0 := rWORDS_char _ (Nat.not_le.mp fun q => hi (Or.inr q))
  rw [← e]
  refine rMet_of (L := [some (.float 2), some (.int i)]) rfl rfl (rSub_at ⟨rfl, rfl, trivial⟩) (Nat.le_of_ble_eq_true rfl) ?_
  exact r_aload_nO dJ0_charAt_5068e_0 rfl (r_callVO (As := []) (rest := []) (M' := m_J0_isLatin1_aae02) dJ0_charAt_5068e_1 yy_J0_isLatin1_aae02 yi_J0_isLatin1_aae02 lm_RJ0_492 ys_J0_isLatin1_aae02 rfl rfl (Nat.le_of_ble_eq_true rfl) ⟨Nat.le_of_ble_eq_true rfl, Nat.le_of_ble_eq_true rfl⟩ ⟨Nat.le_of_ble_eq_true rfl, Nat.le_of_ble_eq_true rfl⟩ ct_J0l (r_if_eq (tgt := 16) dJ0_charAt_5068e_4 (by decide) (fun q => absurd q (by decide)) (fun _ => r_aload_nO dJ0_charAt_5068e_7 rfl (r_strV dJ0_charAt_5068e_8 g_RJ0_9 (r_iload_n dJ0_charAt_5068e_11 rfl (r_callS (As := [.float 3, .int i]) (rest := []) (M' := m_J1_charAt_3b067) dJ0_charAt_5068e_12 yy_J1_charAt_3b067 yi_J1_charAt_3b067 lm_RJ0_495 rfl (Nat.le_of_ble_eq_true rfl) ⟨Nat.le_of_ble_eq_true rfl, Nat.le_of_ble_eq_true rfl⟩ ⟨Nat.le_of_ble_eq_true rfl, Nat.le_of_ble_eq_true rfl⟩ (ct_J1 hi) (r_zreturn dJ0_charAt_5068e_15 rfl (pk_nc _) rfl rfl)))))))
/-- Arrays.fill: the first n places of a row -/
def fillN (I : Nat → Nat → Int32) (a : Nat) (v : Int32) (n : Nat) : Nat → Nat → Int32 := fun b j => if b = a ∧ j < n then v else I b j
theorem fillN_up {I : Nat → Nat → Int32} {a n : Nat} {v : Int32} : up (fillN I a v n) a n v = fillN I a v (n + 1) := by
  funext b j
  unfold up fillN va_up
  by_cases hb : b = a
  · subst hb
    by_cases hj : j = n
    · simp [hj]
    · by_cases h2 : j < n
      · simp [hj, h2, Nat.lt_succ_of_lt h2]
      · have h3 : ¬ j < n + 1 := by omega
        simp [hj, h2, h3]
  · simp [hb]
theorem fill_loop {γ : rG} {l : Launch} {sh : Nat × (Nat → Nat) × (Nat → Nat)} {I : Nat → Nat → Int32} {J : Nat → Nat → Int64} {R : Nat → Nat → Option Nat} {a N : Nat} {v : Int32} (ha : rK sh a 11) (hN : sh.2.2 a = N) (hN2 : N < 2 ^ 31) : ∀ j i, i + j = N → rV γ l m_J7_fill_53178 0 0 5 [some (.ref a), some (.int v), some (.int (nI i)), some (.int (nI N))] [] (sh, fillN I a v i, J, R) (sh, fillN I a v N, J, R) none := by
  intro j
  induction j with
  | zero =>
    intro i hi
    have : i = N := by omega
    subst this
    refine b_J7_fill_53178_5 ha hN (fun _ => ⟨rfl, rfl⟩) (fun q => absurd (nI_le (Nat.le_refl _) hN2) q) (fun q => absurd (nI_le (Nat.le_refl _) hN2) q)
  | succ j ih =>
    intro i hi
    have hlt : i < N := by omega
    refine b_J7_fill_53178_5 ha hN (fun q => absurd q (nI_ge hlt hN2)) (fun _ => vp_in_nI hlt hN2) (fun _ => ?_)
    rw [nI_clamp (by omega), fillN_up, nI_1]
    exact ih (i + 1) (by omega)
theorem ct_fill {γ : rG} {l : Launch} {sh : Nat × (Nat → Nat) × (Nat → Nat)} {I : Nat → Nat → Int32} {J : Nat → Nat → Int64} {R : Nat → Nat → Option Nat} {a N : Nat} {v : Int32} (ha : rK sh a 11) (hN : sh.2.2 a = N) (hN2 : N < 2 ^ 31) : rMet γ l m_J7_fill_53178 [.ref a, .int v] (sh, I, J, R) (sh, fillN I a v N, J, R) none := by
  refine rMet_of (L := [some (.ref a), some (.int v), none, none]) rfl rfl (rSub_at ⟨rfl, rfl, trivial⟩) (Nat.le_of_ble_eq_true rfl) ?_
  · refine b_J7_fill_53178_0 ha hN ?_
    have e : fillN I a v 0 = I := by funext b j; simp [fillN]
    have := fill_loop (γ := γ) (l := l) (I := I) (J := J) (R := R) (v := v) ha hN hN2 N 0 (by omega)
    rw [e] at this
    exact this
