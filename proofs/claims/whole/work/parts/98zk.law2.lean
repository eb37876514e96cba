/-! ===== the law's loop, with a relation that counts the calls (by program, wip/whole/gen_law2.py, out of part 30) ===== -/
def Oq_feed (γ : rG) (l : Launch) (S S' : rS) : Prop := ∀ (I : Nat → Nat → Int32) (J : Nat → Nat → Int64) (R : Nat → Nat → Option Nat) (a1 a2 a3 a4 a5 : Int32), S I J R → ∃ (I1 : Nat → Nat → Int32) (I2 : Nat → Nat → Int32) (v : Int32), rMet γ l m_X8_feed [.ref 0, .int a1, .int a2, .int a3, .int a4, .int a5] (SH, I, J, R) (SH, I1, J, R) (some (.int v)) ∧ rMet γ l m_X9_feed [.ref 169, .int a1, .int a2, .int a3, .int a4, .int a5] (SH, I1, J, R) (SH, I2, J, R) (some (.int v)) ∧ S' I2 J R
def Oq_back (γ : rG) (l : Launch) (S S' : rS) : Prop := ∀ (I : Nat → Nat → Int32) (J : Nat → Nat → Int64) (R : Nat → Nat → Option Nat) (a1 : Int32), S I J R → ∃ (I1 : Nat → Nat → Int32) (I2 : Nat → Nat → Int32) (v : Int32), rMet γ l m_X8_back [.ref 0, .int a1] (SH, I, J, R) (SH, I1, J, R) (some (.int v)) ∧ rMet γ l m_X9_back [.ref 169, .int a1] (SH, I1, J, R) (SH, I2, J, R) (some (.int v)) ∧ S' I2 J R
def Oq_read (γ : rG) (l : Launch) (S S' : rS) : Prop := ∀ (I : Nat → Nat → Int32) (J : Nat → Nat → Int64) (R : Nat → Nat → Option Nat), S I J R → ∃ (I1 : Nat → Nat → Int32) (R1 : Nat → Nat → Option Nat) (I2 : Nat → Nat → Int32) (J2 : Nat → Nat → Int64) (v : Int32), rMet γ l m_X8_read [.ref 0] (SH, I, J, R) (SH, I1, J, R1) (some (.int v)) ∧ rMet γ l m_X9_read [.ref 169] (SH, I1, J, R1) (SH, I2, J2, R1) (some (.int v)) ∧ S' I2 J2 R1
def Oq_place (γ : rG) (l : Launch) (S S' : rS) : Prop := ∀ (I : Nat → Nat → Int32) (J : Nat → Nat → Int64) (R : Nat → Nat → Option Nat), S I J R → ∃ (v : Int32), rMet γ l m_X8_place [.ref 0] (SH, I, J, R) (SH, I, J, R) (some (.int v)) ∧ rMet γ l m_X9_place [.ref 169] (SH, I, J, R) (SH, I, J, R) (some (.int v)) ∧ S' I J R
def Oq_sheet (γ : rG) (l : Launch) (S S' : rS) : Prop := ∀ (I : Nat → Nat → Int32) (J : Nat → Nat → Int64) (R : Nat → Nat → Option Nat) (a1 : Int32), S I J R → ∃ (I1 : Nat → Nat → Int32) (I2 : Nat → Nat → Int32) (v : Int32), rMet γ l m_X8_sheet [.ref 0, .int a1] (SH, I, J, R) (SH, I1, J, R) (some (.int v)) ∧ rMet γ l m_X9_sheet [.ref 169, .int a1] (SH, I1, J, R) (SH, I2, J, R) (some (.int v)) ∧ S' I2 J R
def Oq_fold (γ : rG) (l : Launch) (S S' : rS) : Prop := ∀ (I : Nat → Nat → Int32) (J : Nat → Nat → Int64) (R : Nat → Nat → Option Nat) (a1 a2 a3 : Int32), S I J R → (a2 = 0 ∨ a2 = 1) → (a3 = 0 ∨ a3 = 1) → ∃ (I1 : Nat → Nat → Int32) (I2 : Nat → Nat → Int32) (v : Int32), rMet γ l m_X8_fold [.ref 0, .int a1, .int a2, .int a3] (SH, I, J, R) (SH, I1, J, R) (some (.int v)) ∧ rMet γ l m_X9_fold [.ref 169, .int a1, .int a2, .int a3] (SH, I1, J, R) (SH, I2, J, R) (some (.int v)) ∧ S' I2 J R
def Oq_tuck (γ : rG) (l : Launch) (S S' : rS) : Prop := ∀ (I : Nat → Nat → Int32) (J : Nat → Nat → Int64) (R : Nat → Nat → Option Nat) (a1 a2 a3 : Int32), S I J R → (a2 = 0 ∨ a2 = 1) → ∃ (I1 : Nat → Nat → Int32) (I2 : Nat → Nat → Int32) (v : Int32), rMet γ l m_X8_tuck [.ref 0, .int a1, .int a2, .int a3] (SH, I, J, R) (SH, I1, J, R) (some (.int v)) ∧ rMet γ l m_X9_tuck [.ref 169, .int a1, .int a2, .int a3] (SH, I1, J, R) (SH, I2, J, R) (some (.int v)) ∧ S' I2 J R
def Oq_slit (γ : rG) (l : Launch) (S S' : rS) : Prop := ∀ (I : Nat → Nat → Int32) (J : Nat → Nat → Int64) (R : Nat → Nat → Option Nat) (a1 a2 : Int32), S I J R → ∃ (I1 : Nat → Nat → Int32) (I2 : Nat → Nat → Int32) (v : Int32), rMet γ l m_X8_slit [.ref 0, .int a1, .int a2] (SH, I, J, R) (SH, I1, J, R) (some (.int v)) ∧ rMet γ l m_X9_slit [.ref 169, .int a1, .int a2] (SH, I1, J, R) (SH, I2, J, R) (some (.int v)) ∧ S' I2 J R
def Oq_lock (γ : rG) (l : Launch) (S S' : rS) : Prop := ∀ (I : Nat → Nat → Int32) (J : Nat → Nat → Int64) (R : Nat → Nat → Option Nat) (a1 a2 : Int32), S I J R → ∃ (I1 : Nat → Nat → Int32) (I2 : Nat → Nat → Int32) (v : Int32), rMet γ l m_X8_lock [.ref 0, .int a1, .int a2] (SH, I, J, R) (SH, I1, J, R) (some (.int v)) ∧ rMet γ l m_X9_lock [.ref 169, .int a1, .int a2] (SH, I1, J, R) (SH, I2, J, R) (some (.int v)) ∧ S' I2 J R
def Oq_seal (γ : rG) (l : Launch) (S S' : rS) : Prop := ∀ (I : Nat → Nat → Int32) (J : Nat → Nat → Int64) (R : Nat → Nat → Option Nat) (a1 : Int32), S I J R → ∃ (I1 : Nat → Nat → Int32) (I2 : Nat → Nat → Int32) (v : Int32), rMet γ l m_X8_seal [.ref 0, .int a1] (SH, I, J, R) (SH, I1, J, R) (some (.int v)) ∧ rMet γ l m_X9_seal [.ref 169, .int a1] (SH, I1, J, R) (SH, I2, J, R) (some (.int v)) ∧ S' I2 J R
def Oq_soil (γ : rG) (l : Launch) (S S' : rS) : Prop := ∀ (I : Nat → Nat → Int32) (J : Nat → Nat → Int64) (R : Nat → Nat → Option Nat), S I J R → ∃ (I1 : Nat → Nat → Int32) (I2 : Nat → Nat → Int32) (v : Int32), rMet γ l m_X8_soil [.ref 0] (SH, I, J, R) (SH, I1, J, R) (some (.int v)) ∧ rMet γ l m_X9_soil [.ref 169] (SH, I1, J, R) (SH, I2, J, R) (some (.int v)) ∧ S' I2 J R
def Oq_undo (γ : rG) (l : Launch) (S S' : rS) : Prop := ∀ (I : Nat → Nat → Int32) (J : Nat → Nat → Int64) (R : Nat → Nat → Option Nat), S I J R → ∃ (I1 : Nat → Nat → Int32) (I2 : Nat → Nat → Int32) (v : Int32), rMet γ l m_X8_undo [.ref 0] (SH, I, J, R) (SH, I1, J, R) (some (.int v)) ∧ rMet γ l m_X9_undo [.ref 169] (SH, I1, J, R) (SH, I2, J, R) (some (.int v)) ∧ S' I2 J R
def Oq_part (γ : rG) (l : Launch) (S S' : rS) : Prop := ∀ (I : Nat → Nat → Int32) (J : Nat → Nat → Int64) (R : Nat → Nat → Option Nat) (a1 a2 : Int32), S I J R → ∃ (I1 : Nat → Nat → Int32) (I2 : Nat → Nat → Int32) (v : Int32), rMet γ l m_X8_part [.ref 0, .int a1, .int a2] (SH, I, J, R) (SH, I1, J, R) (some (.int v)) ∧ rMet γ l m_X9_part [.ref 169, .int a1, .int a2] (SH, I1, J, R) (SH, I2, J, R) (some (.int v)) ∧ S' I2 J R
def Oq_mark (γ : rG) (l : Launch) (S S' : rS) : Prop := ∀ (I : Nat → Nat → Int32) (J : Nat → Nat → Int64) (R : Nat → Nat → Option Nat) (a1 : Int32), S I J R → ∃ (v : Int32), rMet γ l m_X8_mark [.ref 0, .int a1] (SH, I, J, R) (SH, I, J, R) (some (.int v)) ∧ rMet γ l m_X9_mark [.ref 169, .int a1] (SH, I, J, R) (SH, I, J, R) (some (.int v)) ∧ S' I J R
def Oq_layers (γ : rG) (l : Launch) (S S' : rS) : Prop := ∀ (I : Nat → Nat → Int32) (J : Nat → Nat → Int64) (R : Nat → Nat → Option Nat) (a1 : Int32), S I J R → ∃ (v : Int32), rMet γ l m_X8_layers [.ref 0, .int a1] (SH, I, J, R) (SH, I, J, R) (some (.int v)) ∧ rMet γ l m_X9_layers [.ref 169, .int a1] (SH, I, J, R) (SH, I, J, R) (some (.int v)) ∧ S' I J R
def Oq_at (γ : rG) (l : Launch) (S S' : rS) : Prop := ∀ (I : Nat → Nat → Int32) (J : Nat → Nat → Int64) (R : Nat → Nat → Option Nat) (a1 a2 : Int32), S I J R → ∃ (v : Int32), rMet γ l m_X8_at [.ref 0, .int a1, .int a2] (SH, I, J, R) (SH, I, J, R) (some (.int v)) ∧ rMet γ l m_X9_at [.ref 169, .int a1, .int a2] (SH, I, J, R) (SH, I, J, R) (some (.int v)) ∧ S' I J R
def Oq_harm (γ : rG) (l : Launch) (S S' : rS) : Prop := ∀ (I : Nat → Nat → Int32) (J : Nat → Nat → Int64) (R : Nat → Nat → Option Nat) (a1 : Int32), S I J R → ∃ (I1 : Nat → Nat → Int32) (I2 : Nat → Nat → Int32) (v : Int32), rMet γ l m_X8_harm [.ref 0, .int a1] (SH, I, J, R) (SH, I1, J, R) (some (.int v)) ∧ rMet γ l m_X9_harm [.ref 169, .int a1] (SH, I1, J, R) (SH, I2, J, R) (some (.int v)) ∧ S' I2 J R
def Oq_by (γ : rG) (l : Launch) (S S' : rS) : Prop := ∀ (I : Nat → Nat → Int32) (J : Nat → Nat → Int64) (R : Nat → Nat → Option Nat) (a1 : Int32), S I J R → ∃ (I1 : Nat → Nat → Int32) (I2 : Nat → Nat → Int32) (v : Int32), rMet γ l m_X8_by [.ref 0, .int a1] (SH, I, J, R) (SH, I1, J, R) (some (.int v)) ∧ rMet γ l m_X9_by [.ref 169, .int a1] (SH, I1, J, R) (SH, I2, J, R) (some (.int v)) ∧ S' I2 J R
def Oq_ease (γ : rG) (l : Launch) (S S' : rS) : Prop := ∀ (I : Nat → Nat → Int32) (J : Nat → Nat → Int64) (R : Nat → Nat → Option Nat) (a1 : Int32), S I J R → ∃ (I1 : Nat → Nat → Int32) (I2 : Nat → Nat → Int32) (v : Int32), rMet γ l m_X8_ease [.ref 0, .int a1] (SH, I, J, R) (SH, I1, J, R) (some (.int v)) ∧ rMet γ l m_X9_ease [.ref 169, .int a1] (SH, I1, J, R) (SH, I2, J, R) (some (.int v)) ∧ S' I2 J R
def Oq_undone (γ : rG) (l : Launch) (S S' : rS) : Prop := ∀ (I : Nat → Nat → Int32) (J : Nat → Nat → Int64) (R : Nat → Nat → Option Nat) (a1 : Int32), S I J R → ∃ (I1 : Nat → Nat → Int32) (I2 : Nat → Nat → Int32) (v : Int32), rMet γ l m_X8_undone [.ref 0, .int a1] (SH, I, J, R) (SH, I1, J, R) (some (.int v)) ∧ rMet γ l m_X9_undone [.ref 169, .int a1] (SH, I1, J, R) (SH, I2, J, R) (some (.int v)) ∧ S' I2 J R
def Oq_find (γ : rG) (l : Launch) (S S' : rS) : Prop := ∀ (I : Nat → Nat → Int32) (J : Nat → Nat → Int64) (R : Nat → Nat → Option Nat) (a1 a2 a3 : Int32), S I J R → ∃ (I1 : Nat → Nat → Int32) (I2 : Nat → Nat → Int32) (v : Int32), rMet γ l m_X8_find [.ref 0, .int a1, .int a2, .int a3] (SH, I, J, R) (SH, I1, J, R) (some (.int v)) ∧ rMet γ l m_X9_find [.ref 169, .int a1, .int a2, .int a3] (SH, I1, J, R) (SH, I2, J, R) (some (.int v)) ∧ S' I2 J R
def Oq_finds (γ : rG) (l : Launch) (S S' : rS) : Prop := ∀ (I : Nat → Nat → Int32) (J : Nat → Nat → Int64) (R : Nat → Nat → Option Nat), S I J R → ∃ (I1 : Nat → Nat → Int32) (I2 : Nat → Nat → Int32), rMet γ l m_X8_finds [.ref 0] (SH, I, J, R) (SH, I1, J, R) none ∧ rMet γ l m_X9_finds [.ref 169] (SH, I1, J, R) (SH, I2, J, R) none ∧ S' I2 J R
def Oq_rows (γ : rG) (l : Launch) (S S' : rS) : Prop := ∀ (I : Nat → Nat → Int32) (J : Nat → Nat → Int64) (R : Nat → Nat → Option Nat), S I J R → ∃ (I1 : Nat → Nat → Int32) (J1 : Nat → Nat → Int64) (I2 : Nat → Nat → Int32) (v : Int32), rMet γ l m_X8_rows [.ref 0] (SH, I, J, R) (SH, I1, J1, R) (some (.int v)) ∧ rMet γ l m_X9_rows [.ref 169] (SH, I1, J1, R) (SH, I2, J1, R) (some (.int v)) ∧ S' I2 J1 R
def Oq_row (γ : rG) (l : Launch) (S S' : rS) : Prop := ∀ (I : Nat → Nat → Int32) (J : Nat → Nat → Int64) (R : Nat → Nat → Option Nat) (a1 : Int32), S I J R → ∃ (I1 : Nat → Nat → Int32) (J1 : Nat → Nat → Int64) (I2 : Nat → Nat → Int32) (v : Int32), rMet γ l m_X8_row [.ref 0, .int a1] (SH, I, J, R) (SH, I1, J1, R) (some (.int v)) ∧ rMet γ l m_X9_row [.ref 169, .int a1] (SH, I1, J1, R) (SH, I2, J1, R) (some (.int v)) ∧ S' I2 J1 R
def Oq_shut (γ : rG) (l : Launch) (S S' : rS) : Prop := ∀ (I : Nat → Nat → Int32) (J : Nat → Nat → Int64) (R : Nat → Nat → Option Nat), S I J R → ∃ (I1 : Nat → Nat → Int32) (J1 : Nat → Nat → Int64) (I2 : Nat → Nat → Int32) (v : Int32), rMet γ l m_X8_shut [.ref 0] (SH, I, J, R) (SH, I1, J1, R) (some (.int v)) ∧ rMet γ l m_X9_shut [.ref 169] (SH, I1, J1, R) (SH, I2, J1, R) (some (.int v)) ∧ S' I2 J1 R
def Oq_hand (γ : rG) (l : Launch) (S S' : rS) : Prop := ∀ (I : Nat → Nat → Int32) (J : Nat → Nat → Int64) (R : Nat → Nat → Option Nat) (a1 : Int32), S I J R → ∃ (I1 : Nat → Nat → Int32) (I2 : Nat → Nat → Int32) (v : Int32), rMet γ l m_X8_hand [.ref 0, .int a1] (SH, I, J, R) (SH, I1, J, R) (some (.int v)) ∧ rMet γ l m_X9_hand [.ref 169, .int a1] (SH, I1, J, R) (SH, I2, J, R) (some (.int v)) ∧ S' I2 J R
def Oq_look (γ : rG) (l : Launch) (S S' : rS) : Prop := ∀ (I : Nat → Nat → Int32) (J : Nat → Nat → Int64) (R : Nat → Nat → Option Nat) (a1 a2 : Int32), S I J R → ∃ (I1 : Nat → Nat → Int32) (I2 : Nat → Nat → Int32) (v : Int32), rMet γ l m_X8_look [.ref 0, .int a1, .int a2] (SH, I, J, R) (SH, I1, J, R) (some (.int v)) ∧ rMet γ l m_X9_look [.ref 169, .int a1, .int a2] (SH, I1, J, R) (SH, I2, J, R) (some (.int v)) ∧ S' I2 J R
def Oq_tale (γ : rG) (l : Launch) (S S' : rS) : Prop := ∀ (I : Nat → Nat → Int32) (J : Nat → Nat → Int64) (R : Nat → Nat → Option Nat) (a1 : Int32), S I J R → ∃ (I1 : Nat → Nat → Int32) (J1 : Nat → Nat → Int64) (I2 : Nat → Nat → Int32) (v : Int32), rMet γ l m_X8_tale [.ref 0, .int a1] (SH, I, J, R) (SH, I1, J1, R) (some (.int v)) ∧ rMet γ l m_X9_tale [.ref 169, .int a1] (SH, I1, J1, R) (SH, I2, J1, R) (some (.int v)) ∧ S' I2 J1 R
def Oq_tales (γ : rG) (l : Launch) (S S' : rS) : Prop := ∀ (I : Nat → Nat → Int32) (J : Nat → Nat → Int64) (R : Nat → Nat → Option Nat) (a1 : Int32), S I J R → ∃ (I1 : Nat → Nat → Int32) (J1 : Nat → Nat → Int64) (I2 : Nat → Nat → Int32) (J2 : Nat → Nat → Int64) (v : Int64), rMet γ l m_X8_tales [.ref 0, .int a1] (SH, I, J, R) (SH, I1, J1, R) (some (.long v)) ∧ rMet γ l m_X9_tales [.ref 169, .int a1] (SH, I1, J1, R) (SH, I2, J2, R) (some (.long v)) ∧ S' I2 J2 R
def Oq_told (γ : rG) (l : Launch) (S S' : rS) : Prop := ∀ (I : Nat → Nat → Int32) (J : Nat → Nat → Int64) (R : Nat → Nat → Option Nat) (a1 a2 : Int32), S I J R → ∃ (I1 : Nat → Nat → Int32) (J1 : Nat → Nat → Int64) (I2 : Nat → Nat → Int32) (v : Int32), rMet γ l m_X8_told [.ref 0, .int a1, .int a2] (SH, I, J, R) (SH, I1, J1, R) (some (.int v)) ∧ rMet γ l m_X9_told [.ref 169, .int a1, .int a2] (SH, I1, J1, R) (SH, I2, J1, R) (some (.int v)) ∧ S' I2 J1 R
def Oq_opened (γ : rG) (l : Launch) (S S' : rS) : Prop := ∀ (I : Nat → Nat → Int32) (J : Nat → Nat → Int64) (R : Nat → Nat → Option Nat) (a1 a2 : Int32), S I J R → ∃ (I1 : Nat → Nat → Int32) (J1 : Nat → Nat → Int64) (I2 : Nat → Nat → Int32) (J2 : Nat → Nat → Int64) (v : Int32), rMet γ l m_X8_opened [.ref 0, .int a1, .int a2] (SH, I, J, R) (SH, I1, J1, R) (some (.int v)) ∧ rMet γ l m_X9_opened [.ref 169, .int a1, .int a2] (SH, I1, J1, R) (SH, I2, J2, R) (some (.int v)) ∧ S' I2 J2 R
def Oq_turned (γ : rG) (l : Launch) (S S' : rS) : Prop := ∀ (I : Nat → Nat → Int32) (J : Nat → Nat → Int64) (R : Nat → Nat → Option Nat) (a1 : Int32), S I J R → ∃ (I1 : Nat → Nat → Int32) (J1 : Nat → Nat → Int64) (I2 : Nat → Nat → Int32) (v : Int32), rMet γ l m_X8_turned [.ref 0, .int a1] (SH, I, J, R) (SH, I1, J1, R) (some (.int v)) ∧ rMet γ l m_X9_turned [.ref 169, .int a1] (SH, I1, J1, R) (SH, I2, J1, R) (some (.int v)) ∧ S' I2 J1 R
def Oq_count (γ : rG) (l : Launch) (S S' : rS) : Prop := ∀ (I : Nat → Nat → Int32) (J : Nat → Nat → Int64) (R : Nat → Nat → Option Nat) (a1 : Int32), S I J R → ∃ (I1 : Nat → Nat → Int32) (I2 : Nat → Nat → Int32) (v : Int32), rMet γ l m_X8_count [.ref 0, .int a1] (SH, I, J, R) (SH, I1, J, R) (some (.int v)) ∧ rMet γ l m_X9_count [.ref 169, .int a1] (SH, I1, J, R) (SH, I2, J, R) (some (.int v)) ∧ S' I2 J R
section LAW2
variable {γ : rG} {l : Launch} {S S' : rS} {I : Nat → Nat → Int32} {J : Nat → Nat → Int64} {R : Nat → Nat → Option Nat} {i : Nat}
theorem lax_feed (hN : gN γ ≤ 3072) (hi : i + 6 ≤ gN γ) (hA : ∀ I J R, S I J R → At8 SH R 0 ∧ At9 SH R 169) (hA' : ∀ I J R, S' I J R → At8 SH R 0 ∧ At9 SH R 169) (ho : Oq_feed γ l S S') (hS : S I J R) (ih : ∀ I J R, S' I J R → atL18 γ l 18 (i + 6) I J R) : atL18 γ l 180 i I J R := by
  obtain ⟨I1, I2, v, hm1, hm2, hs⟩ := ho I J R (gX γ (nI i + (1 : Int32)).toNatClampNeg) (gX γ (nI i + (2 : Int32)).toNatClampNeg) (gX γ (nI i + (3 : Int32)).toNatClampNeg) (gX γ (nI i + (4 : Int32)).toNatClampNeg) (gX γ (nI i + (5 : Int32)).toNatClampNeg) hS
  have hA1 := hA' _ _ _ hs
  have hA := hA _ _ _ hS
  obtain ⟨hf, hv⟩ := law_next (l := l) hA1 (ih _ _ _ hs)
  exact ⟨hf, b_L_law_180 hA.1 hA.2 (vpS (j := 1) _ (by decide) (by omega) (by omega)) (vpS (j := 2) _ (by decide) (by omega) (by omega)) (vpS (j := 3) _ (by decide) (by omega) (by omega)) (vpS (j := 4) _ (by decide) (by omega) (by omega)) (vpS (j := 5) _ (by decide) (by omega) (by omega)) hm1 (vpS (j := 1) _ (by decide) (by omega) (by omega)) (vpS (j := 2) _ (by decide) (by omega) (by omega)) (vpS (j := 3) _ (by decide) (by omega) (by omega)) (vpS (j := 4) _ (by decide) (by omega) (by omega)) (vpS (j := 5) _ (by decide) (by omega) (by omega)) hm2 (fun _ => hv) (fun q => absurd rfl q)⟩
theorem lax_back (hN : gN γ ≤ 3072) (hi : i + 6 ≤ gN γ) (hA : ∀ I J R, S I J R → At8 SH R 0 ∧ At9 SH R 169) (hA' : ∀ I J R, S' I J R → At8 SH R 0 ∧ At9 SH R 169) (ho : Oq_back γ l S S') (hS : S I J R) (ih : ∀ I J R, S' I J R → atL18 γ l 18 (i + 6) I J R) : atL18 γ l 243 i I J R := by
  obtain ⟨I1, I2, v, hm1, hm2, hs⟩ := ho I J R (gX γ (nI i + (1 : Int32)).toNatClampNeg) hS
  have hA1 := hA' _ _ _ hs
  have hA := hA _ _ _ hS
  obtain ⟨hf, hv⟩ := law_next (l := l) hA1 (ih _ _ _ hs)
  exact ⟨hf, b_L_law_243 hA.1 hA.2 (vpS (j := 1) _ (by decide) (by omega) (by omega)) hm1 (vpS (j := 1) _ (by decide) (by omega) (by omega)) hm2 (fun _ => hv) (fun q => absurd rfl q)⟩
theorem lax_place (hN : gN γ ≤ 3072) (hi : i + 6 ≤ gN γ) (hA : ∀ I J R, S I J R → At8 SH R 0 ∧ At9 SH R 169) (hA' : ∀ I J R, S' I J R → At8 SH R 0 ∧ At9 SH R 169) (ho : Oq_place γ l S S') (hS : S I J R) (ih : ∀ I J R, S' I J R → atL18 γ l 18 (i + 6) I J R) : atL18 γ l 279 i I J R := by
  obtain ⟨v, hm1, hm2, hs⟩ := ho I J R  hS
  have hA1 := hA' _ _ _ hs
  have hA := hA _ _ _ hS
  obtain ⟨hf, hv⟩ := law_next (l := l) hA1 (ih _ _ _ hs)
  exact ⟨hf, b_L_law_279 hA.1 hA.2 hm1 hm2 (fun _ => hv) (fun q => absurd rfl q)⟩
theorem lax_sheet (hN : gN γ ≤ 3072) (hi : i + 6 ≤ gN γ) (hA : ∀ I J R, S I J R → At8 SH R 0 ∧ At9 SH R 169) (hA' : ∀ I J R, S' I J R → At8 SH R 0 ∧ At9 SH R 169) (ho : Oq_sheet γ l S S') (hS : S I J R) (ih : ∀ I J R, S' I J R → atL18 γ l 18 (i + 6) I J R) : atL18 γ l 292 i I J R := by
  obtain ⟨I1, I2, v, hm1, hm2, hs⟩ := ho I J R (gX γ (nI i + (1 : Int32)).toNatClampNeg) hS
  have hA1 := hA' _ _ _ hs
  have hA := hA _ _ _ hS
  obtain ⟨hf, hv⟩ := law_next (l := l) hA1 (ih _ _ _ hs)
  exact ⟨hf, b_L_law_292 hA.1 hA.2 (vpS (j := 1) _ (by decide) (by omega) (by omega)) hm1 (vpS (j := 1) _ (by decide) (by omega) (by omega)) hm2 (fun _ => hv) (fun q => absurd rfl q)⟩
theorem lax_slit (hN : gN γ ≤ 3072) (hi : i + 6 ≤ gN γ) (hA : ∀ I J R, S I J R → At8 SH R 0 ∧ At9 SH R 169) (hA' : ∀ I J R, S' I J R → At8 SH R 0 ∧ At9 SH R 169) (ho : Oq_slit γ l S S') (hS : S I J R) (ih : ∀ I J R, S' I J R → atL18 γ l 18 (i + 6) I J R) : atL18 γ l 449 i I J R := by
  obtain ⟨I1, I2, v, hm1, hm2, hs⟩ := ho I J R (gX γ (nI i + (1 : Int32)).toNatClampNeg) (gX γ (nI i + (2 : Int32)).toNatClampNeg) hS
  have hA1 := hA' _ _ _ hs
  have hA := hA _ _ _ hS
  obtain ⟨hf, hv⟩ := law_next (l := l) hA1 (ih _ _ _ hs)
  exact ⟨hf, b_L_law_449 hA.1 hA.2 (vpS (j := 1) _ (by decide) (by omega) (by omega)) (vpS (j := 2) _ (by decide) (by omega) (by omega)) hm1 (vpS (j := 1) _ (by decide) (by omega) (by omega)) (vpS (j := 2) _ (by decide) (by omega) (by omega)) hm2 (fun _ => hv) (fun q => absurd rfl q)⟩
theorem lax_lock (hN : gN γ ≤ 3072) (hi : i + 6 ≤ gN γ) (hA : ∀ I J R, S I J R → At8 SH R 0 ∧ At9 SH R 169) (hA' : ∀ I J R, S' I J R → At8 SH R 0 ∧ At9 SH R 169) (ho : Oq_lock γ l S S') (hS : S I J R) (ih : ∀ I J R, S' I J R → atL18 γ l 18 (i + 6) I J R) : atL18 γ l 482 i I J R := by
  obtain ⟨I1, I2, v, hm1, hm2, hs⟩ := ho I J R (gX γ (nI i + (1 : Int32)).toNatClampNeg) (gX γ (nI i + (2 : Int32)).toNatClampNeg) hS
  have hA1 := hA' _ _ _ hs
  have hA := hA _ _ _ hS
  obtain ⟨hf, hv⟩ := law_next (l := l) hA1 (ih _ _ _ hs)
  exact ⟨hf, b_L_law_482 hA.1 hA.2 (vpS (j := 1) _ (by decide) (by omega) (by omega)) (vpS (j := 2) _ (by decide) (by omega) (by omega)) hm1 (vpS (j := 1) _ (by decide) (by omega) (by omega)) (vpS (j := 2) _ (by decide) (by omega) (by omega)) hm2 (fun _ => hv) (fun q => absurd rfl q)⟩
theorem lax_seal (hN : gN γ ≤ 3072) (hi : i + 6 ≤ gN γ) (hA : ∀ I J R, S I J R → At8 SH R 0 ∧ At9 SH R 169) (hA' : ∀ I J R, S' I J R → At8 SH R 0 ∧ At9 SH R 169) (ho : Oq_seal γ l S S') (hS : S I J R) (ih : ∀ I J R, S' I J R → atL18 γ l 18 (i + 6) I J R) : atL18 γ l 515 i I J R := by
  obtain ⟨I1, I2, v, hm1, hm2, hs⟩ := ho I J R (gX γ (nI i + (1 : Int32)).toNatClampNeg) hS
  have hA1 := hA' _ _ _ hs
  have hA := hA _ _ _ hS
  obtain ⟨hf, hv⟩ := law_next (l := l) hA1 (ih _ _ _ hs)
  exact ⟨hf, b_L_law_515 hA.1 hA.2 (vpS (j := 1) _ (by decide) (by omega) (by omega)) hm1 (vpS (j := 1) _ (by decide) (by omega) (by omega)) hm2 (fun _ => hv) (fun q => absurd rfl q)⟩
theorem lax_soil (hN : gN γ ≤ 3072) (hi : i + 6 ≤ gN γ) (hA : ∀ I J R, S I J R → At8 SH R 0 ∧ At9 SH R 169) (hA' : ∀ I J R, S' I J R → At8 SH R 0 ∧ At9 SH R 169) (ho : Oq_soil γ l S S') (hS : S I J R) (ih : ∀ I J R, S' I J R → atL18 γ l 18 (i + 6) I J R) : atL18 γ l 538 i I J R := by
  obtain ⟨I1, I2, v, hm1, hm2, hs⟩ := ho I J R  hS
  have hA1 := hA' _ _ _ hs
  have hA := hA _ _ _ hS
  obtain ⟨hf, hv⟩ := law_next (l := l) hA1 (ih _ _ _ hs)
  exact ⟨hf, b_L_law_538 hA.1 hA.2 hm1 hm2 (fun _ => hv) (fun q => absurd rfl q)⟩
theorem lax_undo (hN : gN γ ≤ 3072) (hi : i + 6 ≤ gN γ) (hA : ∀ I J R, S I J R → At8 SH R 0 ∧ At9 SH R 169) (hA' : ∀ I J R, S' I J R → At8 SH R 0 ∧ At9 SH R 169) (ho : Oq_undo γ l S S') (hS : S I J R) (ih : ∀ I J R, S' I J R → atL18 γ l 18 (i + 6) I J R) : atL18 γ l 551 i I J R := by
  obtain ⟨I1, I2, v, hm1, hm2, hs⟩ := ho I J R  hS
  have hA1 := hA' _ _ _ hs
  have hA := hA _ _ _ hS
  obtain ⟨hf, hv⟩ := law_next (l := l) hA1 (ih _ _ _ hs)
  exact ⟨hf, b_L_law_551 hA.1 hA.2 hm1 hm2 (fun _ => hv) (fun q => absurd rfl q)⟩
theorem lax_part (hN : gN γ ≤ 3072) (hi : i + 6 ≤ gN γ) (hA : ∀ I J R, S I J R → At8 SH R 0 ∧ At9 SH R 169) (hA' : ∀ I J R, S' I J R → At8 SH R 0 ∧ At9 SH R 169) (ho : Oq_part γ l S S') (hS : S I J R) (ih : ∀ I J R, S' I J R → atL18 γ l 18 (i + 6) I J R) : atL18 γ l 564 i I J R := by
  obtain ⟨I1, I2, v, hm1, hm2, hs⟩ := ho I J R (gX γ (nI i + (1 : Int32)).toNatClampNeg) (gX γ (nI i + (2 : Int32)).toNatClampNeg) hS
  have hA1 := hA' _ _ _ hs
  have hA := hA _ _ _ hS
  obtain ⟨hf, hv⟩ := law_next (l := l) hA1 (ih _ _ _ hs)
  exact ⟨hf, b_L_law_564 hA.1 hA.2 (vpS (j := 1) _ (by decide) (by omega) (by omega)) (vpS (j := 2) _ (by decide) (by omega) (by omega)) hm1 (vpS (j := 1) _ (by decide) (by omega) (by omega)) (vpS (j := 2) _ (by decide) (by omega) (by omega)) hm2 (fun _ => hv) (fun q => absurd rfl q)⟩
theorem lax_mark (hN : gN γ ≤ 3072) (hi : i + 6 ≤ gN γ) (hA : ∀ I J R, S I J R → At8 SH R 0 ∧ At9 SH R 169) (hA' : ∀ I J R, S' I J R → At8 SH R 0 ∧ At9 SH R 169) (ho : Oq_mark γ l S S') (hS : S I J R) (ih : ∀ I J R, S' I J R → atL18 γ l 18 (i + 6) I J R) : atL18 γ l 597 i I J R := by
  obtain ⟨v, hm1, hm2, hs⟩ := ho I J R (gX γ (nI i + (1 : Int32)).toNatClampNeg) hS
  have hA1 := hA' _ _ _ hs
  have hA := hA _ _ _ hS
  obtain ⟨hf, hv⟩ := law_next (l := l) hA1 (ih _ _ _ hs)
  exact ⟨hf, b_L_law_597 hA.1 hA.2 (vpS (j := 1) _ (by decide) (by omega) (by omega)) hm1 (vpS (j := 1) _ (by decide) (by omega) (by omega)) hm2 (fun _ => hv) (fun q => absurd rfl q)⟩
theorem lax_layers (hN : gN γ ≤ 3072) (hi : i + 6 ≤ gN γ) (hA : ∀ I J R, S I J R → At8 SH R 0 ∧ At9 SH R 169) (hA' : ∀ I J R, S' I J R → At8 SH R 0 ∧ At9 SH R 169) (ho : Oq_layers γ l S S') (hS : S I J R) (ih : ∀ I J R, S' I J R → atL18 γ l 18 (i + 6) I J R) : atL18 γ l 620 i I J R := by
  obtain ⟨v, hm1, hm2, hs⟩ := ho I J R (gX γ (nI i + (1 : Int32)).toNatClampNeg) hS
  have hA1 := hA' _ _ _ hs
  have hA := hA _ _ _ hS
  obtain ⟨hf, hv⟩ := law_next (l := l) hA1 (ih _ _ _ hs)
  exact ⟨hf, b_L_law_620 hA.1 hA.2 (vpS (j := 1) _ (by decide) (by omega) (by omega)) hm1 (vpS (j := 1) _ (by decide) (by omega) (by omega)) hm2 (fun _ => hv) (fun q => absurd rfl q)⟩
theorem lax_at (hN : gN γ ≤ 3072) (hi : i + 6 ≤ gN γ) (hA : ∀ I J R, S I J R → At8 SH R 0 ∧ At9 SH R 169) (hA' : ∀ I J R, S' I J R → At8 SH R 0 ∧ At9 SH R 169) (ho : Oq_at γ l S S') (hS : S I J R) (ih : ∀ I J R, S' I J R → atL18 γ l 18 (i + 6) I J R) : atL18 γ l 643 i I J R := by
  obtain ⟨v, hm1, hm2, hs⟩ := ho I J R (gX γ (nI i + (1 : Int32)).toNatClampNeg) (gX γ (nI i + (2 : Int32)).toNatClampNeg) hS
  have hA1 := hA' _ _ _ hs
  have hA := hA _ _ _ hS
  obtain ⟨hf, hv⟩ := law_next (l := l) hA1 (ih _ _ _ hs)
  exact ⟨hf, b_L_law_643 hA.1 hA.2 (vpS (j := 1) _ (by decide) (by omega) (by omega)) (vpS (j := 2) _ (by decide) (by omega) (by omega)) hm1 (vpS (j := 1) _ (by decide) (by omega) (by omega)) (vpS (j := 2) _ (by decide) (by omega) (by omega)) hm2 (fun _ => hv) (fun q => absurd rfl q)⟩
theorem lax_harm (hN : gN γ ≤ 3072) (hi : i + 6 ≤ gN γ) (hA : ∀ I J R, S I J R → At8 SH R 0 ∧ At9 SH R 169) (hA' : ∀ I J R, S' I J R → At8 SH R 0 ∧ At9 SH R 169) (ho : Oq_harm γ l S S') (hS : S I J R) (ih : ∀ I J R, S' I J R → atL18 γ l 18 (i + 6) I J R) : atL18 γ l 676 i I J R := by
  obtain ⟨I1, I2, v, hm1, hm2, hs⟩ := ho I J R (gX γ (nI i + (1 : Int32)).toNatClampNeg) hS
  have hA1 := hA' _ _ _ hs
  have hA := hA _ _ _ hS
  obtain ⟨hf, hv⟩ := law_next (l := l) hA1 (ih _ _ _ hs)
  exact ⟨hf, b_L_law_676 hA.1 hA.2 (vpS (j := 1) _ (by decide) (by omega) (by omega)) hm1 (vpS (j := 1) _ (by decide) (by omega) (by omega)) hm2 (fun _ => hv) (fun q => absurd rfl q)⟩
theorem lax_by (hN : gN γ ≤ 3072) (hi : i + 6 ≤ gN γ) (hA : ∀ I J R, S I J R → At8 SH R 0 ∧ At9 SH R 169) (hA' : ∀ I J R, S' I J R → At8 SH R 0 ∧ At9 SH R 169) (ho : Oq_by γ l S S') (hS : S I J R) (ih : ∀ I J R, S' I J R → atL18 γ l 18 (i + 6) I J R) : atL18 γ l 699 i I J R := by
  obtain ⟨I1, I2, v, hm1, hm2, hs⟩ := ho I J R (gX γ (nI i + (1 : Int32)).toNatClampNeg) hS
  have hA1 := hA' _ _ _ hs
  have hA := hA _ _ _ hS
  obtain ⟨hf, hv⟩ := law_next (l := l) hA1 (ih _ _ _ hs)
  exact ⟨hf, b_L_law_699 hA.1 hA.2 (vpS (j := 1) _ (by decide) (by omega) (by omega)) hm1 (vpS (j := 1) _ (by decide) (by omega) (by omega)) hm2 (fun _ => hv) (fun q => absurd rfl q)⟩
theorem lax_ease (hN : gN γ ≤ 3072) (hi : i + 6 ≤ gN γ) (hA : ∀ I J R, S I J R → At8 SH R 0 ∧ At9 SH R 169) (hA' : ∀ I J R, S' I J R → At8 SH R 0 ∧ At9 SH R 169) (ho : Oq_ease γ l S S') (hS : S I J R) (ih : ∀ I J R, S' I J R → atL18 γ l 18 (i + 6) I J R) : atL18 γ l 722 i I J R := by
  obtain ⟨I1, I2, v, hm1, hm2, hs⟩ := ho I J R (gX γ (nI i + (1 : Int32)).toNatClampNeg) hS
  have hA1 := hA' _ _ _ hs
  have hA := hA _ _ _ hS
  obtain ⟨hf, hv⟩ := law_next (l := l) hA1 (ih _ _ _ hs)
  exact ⟨hf, b_L_law_722 hA.1 hA.2 (vpS (j := 1) _ (by decide) (by omega) (by omega)) hm1 (vpS (j := 1) _ (by decide) (by omega) (by omega)) hm2 (fun _ => hv) (fun q => absurd rfl q)⟩
theorem lax_undone (hN : gN γ ≤ 3072) (hi : i + 6 ≤ gN γ) (hA : ∀ I J R, S I J R → At8 SH R 0 ∧ At9 SH R 169) (hA' : ∀ I J R, S' I J R → At8 SH R 0 ∧ At9 SH R 169) (ho : Oq_undone γ l S S') (hS : S I J R) (ih : ∀ I J R, S' I J R → atL18 γ l 18 (i + 6) I J R) : atL18 γ l 745 i I J R := by
  obtain ⟨I1, I2, v, hm1, hm2, hs⟩ := ho I J R (gX γ (nI i + (1 : Int32)).toNatClampNeg) hS
  have hA1 := hA' _ _ _ hs
  have hA := hA _ _ _ hS
  obtain ⟨hf, hv⟩ := law_next (l := l) hA1 (ih _ _ _ hs)
  exact ⟨hf, b_L_law_745 hA.1 hA.2 (vpS (j := 1) _ (by decide) (by omega) (by omega)) hm1 (vpS (j := 1) _ (by decide) (by omega) (by omega)) hm2 (fun _ => hv) (fun q => absurd rfl q)⟩
theorem lax_find (hN : gN γ ≤ 3072) (hi : i + 6 ≤ gN γ) (hA : ∀ I J R, S I J R → At8 SH R 0 ∧ At9 SH R 169) (hA' : ∀ I J R, S' I J R → At8 SH R 0 ∧ At9 SH R 169) (ho : Oq_find γ l S S') (hS : S I J R) (ih : ∀ I J R, S' I J R → atL18 γ l 18 (i + 6) I J R) : atL18 γ l 768 i I J R := by
  obtain ⟨I1, I2, v, hm1, hm2, hs⟩ := ho I J R (gX γ (nI i + (1 : Int32)).toNatClampNeg) (gX γ (nI i + (2 : Int32)).toNatClampNeg) (gX γ (nI i + (3 : Int32)).toNatClampNeg) hS
  have hA1 := hA' _ _ _ hs
  have hA := hA _ _ _ hS
  obtain ⟨hf, hv⟩ := law_next (l := l) hA1 (ih _ _ _ hs)
  exact ⟨hf, b_L_law_768 hA.1 hA.2 (vpS (j := 1) _ (by decide) (by omega) (by omega)) (vpS (j := 2) _ (by decide) (by omega) (by omega)) (vpS (j := 3) _ (by decide) (by omega) (by omega)) hm1 (vpS (j := 1) _ (by decide) (by omega) (by omega)) (vpS (j := 2) _ (by decide) (by omega) (by omega)) (vpS (j := 3) _ (by decide) (by omega) (by omega)) hm2 (fun _ => hv) (fun q => absurd rfl q)⟩
theorem lax_finds (hN : gN γ ≤ 3072) (hi : i + 6 ≤ gN γ) (hA : ∀ I J R, S I J R → At8 SH R 0 ∧ At9 SH R 169) (hA' : ∀ I J R, S' I J R → At8 SH R 0 ∧ At9 SH R 169) (ho : Oq_finds γ l S S') (hS : S I J R) (ih : ∀ I J R, S' I J R → atL18 γ l 18 (i + 6) I J R) : atL18 γ l 811 i I J R := by
  obtain ⟨I1, I2, hm1, hm2, hs⟩ := ho I J R  hS
  have hA1 := hA' _ _ _ hs
  have hA := hA _ _ _ hS
  obtain ⟨hf, hv⟩ := law_next (l := l) hA1 (ih _ _ _ hs)
  exact ⟨hf, b_L_law_811 hA.1 hA.2 hm1 hm2 hv⟩
theorem lax_rows (hN : gN γ ≤ 3072) (hi : i + 6 ≤ gN γ) (hA : ∀ I J R, S I J R → At8 SH R 0 ∧ At9 SH R 169) (hA' : ∀ I J R, S' I J R → At8 SH R 0 ∧ At9 SH R 169) (ho : Oq_rows γ l S S') (hS : S I J R) (ih : ∀ I J R, S' I J R → atL18 γ l 18 (i + 6) I J R) : atL18 γ l 822 i I J R := by
  obtain ⟨I1, J1, I2, v, hm1, hm2, hs⟩ := ho I J R  hS
  have hA1 := hA' _ _ _ hs
  have hA := hA _ _ _ hS
  obtain ⟨hf, hv⟩ := law_next (l := l) hA1 (ih _ _ _ hs)
  exact ⟨hf, b_L_law_822 hA.1 hA.2 hm1 hm2 (fun _ => hv) (fun q => absurd rfl q)⟩
theorem lax_row (hN : gN γ ≤ 3072) (hi : i + 6 ≤ gN γ) (hA : ∀ I J R, S I J R → At8 SH R 0 ∧ At9 SH R 169) (hA' : ∀ I J R, S' I J R → At8 SH R 0 ∧ At9 SH R 169) (ho : Oq_row γ l S S') (hS : S I J R) (ih : ∀ I J R, S' I J R → atL18 γ l 18 (i + 6) I J R) : atL18 γ l 835 i I J R := by
  obtain ⟨I1, J1, I2, v, hm1, hm2, hs⟩ := ho I J R (gX γ (nI i + (1 : Int32)).toNatClampNeg) hS
  have hA1 := hA' _ _ _ hs
  have hA := hA _ _ _ hS
  obtain ⟨hf, hv⟩ := law_next (l := l) hA1 (ih _ _ _ hs)
  exact ⟨hf, b_L_law_835 hA.1 hA.2 (vpS (j := 1) _ (by decide) (by omega) (by omega)) hm1 (vpS (j := 1) _ (by decide) (by omega) (by omega)) hm2 (fun _ => hv) (fun q => absurd rfl q)⟩
theorem lax_shut (hN : gN γ ≤ 3072) (hi : i + 6 ≤ gN γ) (hA : ∀ I J R, S I J R → At8 SH R 0 ∧ At9 SH R 169) (hA' : ∀ I J R, S' I J R → At8 SH R 0 ∧ At9 SH R 169) (ho : Oq_shut γ l S S') (hS : S I J R) (ih : ∀ I J R, S' I J R → atL18 γ l 18 (i + 6) I J R) : atL18 γ l 858 i I J R := by
  obtain ⟨I1, J1, I2, v, hm1, hm2, hs⟩ := ho I J R  hS
  have hA1 := hA' _ _ _ hs
  have hA := hA _ _ _ hS
  obtain ⟨hf, hv⟩ := law_next (l := l) hA1 (ih _ _ _ hs)
  exact ⟨hf, b_L_law_858 hA.1 hA.2 hm1 hm2 (fun _ => hv) (fun q => absurd rfl q)⟩
theorem lax_hand (hN : gN γ ≤ 3072) (hi : i + 6 ≤ gN γ) (hA : ∀ I J R, S I J R → At8 SH R 0 ∧ At9 SH R 169) (hA' : ∀ I J R, S' I J R → At8 SH R 0 ∧ At9 SH R 169) (ho : Oq_hand γ l S S') (hS : S I J R) (ih : ∀ I J R, S' I J R → atL18 γ l 18 (i + 6) I J R) : atL18 γ l 871 i I J R := by
  obtain ⟨I1, I2, v, hm1, hm2, hs⟩ := ho I J R (gX γ (nI i + (1 : Int32)).toNatClampNeg) hS
  have hA1 := hA' _ _ _ hs
  have hA := hA _ _ _ hS
  obtain ⟨hf, hv⟩ := law_next (l := l) hA1 (ih _ _ _ hs)
  exact ⟨hf, b_L_law_871 hA.1 hA.2 (vpS (j := 1) _ (by decide) (by omega) (by omega)) hm1 (vpS (j := 1) _ (by decide) (by omega) (by omega)) hm2 (fun _ => hv) (fun q => absurd rfl q)⟩
theorem lax_look (hN : gN γ ≤ 3072) (hi : i + 6 ≤ gN γ) (hA : ∀ I J R, S I J R → At8 SH R 0 ∧ At9 SH R 169) (hA' : ∀ I J R, S' I J R → At8 SH R 0 ∧ At9 SH R 169) (ho : Oq_look γ l S S') (hS : S I J R) (ih : ∀ I J R, S' I J R → atL18 γ l 18 (i + 6) I J R) : atL18 γ l 894 i I J R := by
  obtain ⟨I1, I2, v, hm1, hm2, hs⟩ := ho I J R (gX γ (nI i + (1 : Int32)).toNatClampNeg) (gX γ (nI i + (2 : Int32)).toNatClampNeg) hS
  have hA1 := hA' _ _ _ hs
  have hA := hA _ _ _ hS
  obtain ⟨hf, hv⟩ := law_next (l := l) hA1 (ih _ _ _ hs)
  exact ⟨hf, b_L_law_894 hA.1 hA.2 (vpS (j := 1) _ (by decide) (by omega) (by omega)) (vpS (j := 2) _ (by decide) (by omega) (by omega)) hm1 (vpS (j := 1) _ (by decide) (by omega) (by omega)) (vpS (j := 2) _ (by decide) (by omega) (by omega)) hm2 (fun _ => hv) (fun q => absurd rfl q)⟩
theorem lax_tale (hN : gN γ ≤ 3072) (hi : i + 6 ≤ gN γ) (hA : ∀ I J R, S I J R → At8 SH R 0 ∧ At9 SH R 169) (hA' : ∀ I J R, S' I J R → At8 SH R 0 ∧ At9 SH R 169) (ho : Oq_tale γ l S S') (hS : S I J R) (ih : ∀ I J R, S' I J R → atL18 γ l 18 (i + 6) I J R) : atL18 γ l 927 i I J R := by
  obtain ⟨I1, J1, I2, v, hm1, hm2, hs⟩ := ho I J R (gX γ (nI i + (1 : Int32)).toNatClampNeg) hS
  have hA1 := hA' _ _ _ hs
  have hA := hA _ _ _ hS
  obtain ⟨hf, hv⟩ := law_next (l := l) hA1 (ih _ _ _ hs)
  exact ⟨hf, b_L_law_927 hA.1 hA.2 (vpS (j := 1) _ (by decide) (by omega) (by omega)) hm1 (vpS (j := 1) _ (by decide) (by omega) (by omega)) hm2 (fun _ => hv) (fun q => absurd rfl q)⟩
theorem lax_tales (hN : gN γ ≤ 3072) (hi : i + 6 ≤ gN γ) (hA : ∀ I J R, S I J R → At8 SH R 0 ∧ At9 SH R 169) (hA' : ∀ I J R, S' I J R → At8 SH R 0 ∧ At9 SH R 169) (ho : Oq_tales γ l S S') (hS : S I J R) (ih : ∀ I J R, S' I J R → atL18 γ l 18 (i + 6) I J R) : atL18 γ l 950 i I J R := by
  obtain ⟨I1, J1, I2, J2, v, hm1, hm2, hs⟩ := ho I J R (gX γ (nI i + (1 : Int32)).toNatClampNeg) hS
  have hA1 := hA' _ _ _ hs
  have hA := hA _ _ _ hS
  obtain ⟨hf, hv⟩ := law_next (l := l) hA1 (ih _ _ _ hs)
  exact ⟨hf, b_L_law_950 hA.1 hA.2 (vpS (j := 1) _ (by decide) (by omega) (by omega)) hm1 (vpS (j := 1) _ (by decide) (by omega) (by omega)) hm2 (fun _ => hv) (fun q => absurd (lg_self _) q)⟩
theorem lax_told (hN : gN γ ≤ 3072) (hi : i + 6 ≤ gN γ) (hA : ∀ I J R, S I J R → At8 SH R 0 ∧ At9 SH R 169) (hA' : ∀ I J R, S' I J R → At8 SH R 0 ∧ At9 SH R 169) (ho : Oq_told γ l S S') (hS : S I J R) (ih : ∀ I J R, S' I J R → atL18 γ l 18 (i + 6) I J R) : atL18 γ l 974 i I J R := by
  obtain ⟨I1, J1, I2, v, hm1, hm2, hs⟩ := ho I J R (gX γ (nI i + (1 : Int32)).toNatClampNeg) (gX γ (nI i + (2 : Int32)).toNatClampNeg) hS
  have hA1 := hA' _ _ _ hs
  have hA := hA _ _ _ hS
  obtain ⟨hf, hv⟩ := law_next (l := l) hA1 (ih _ _ _ hs)
  exact ⟨hf, b_L_law_974 hA.1 hA.2 (vpS (j := 1) _ (by decide) (by omega) (by omega)) (vpS (j := 2) _ (by decide) (by omega) (by omega)) hm1 (vpS (j := 1) _ (by decide) (by omega) (by omega)) (vpS (j := 2) _ (by decide) (by omega) (by omega)) hm2 (fun _ => hv) (fun q => absurd rfl q)⟩
theorem lax_opened (hN : gN γ ≤ 3072) (hi : i + 6 ≤ gN γ) (hA : ∀ I J R, S I J R → At8 SH R 0 ∧ At9 SH R 169) (hA' : ∀ I J R, S' I J R → At8 SH R 0 ∧ At9 SH R 169) (ho : Oq_opened γ l S S') (hS : S I J R) (ih : ∀ I J R, S' I J R → atL18 γ l 18 (i + 6) I J R) : atL18 γ l 1007 i I J R := by
  obtain ⟨I1, J1, I2, J2, v, hm1, hm2, hs⟩ := ho I J R (gX γ (nI i + (1 : Int32)).toNatClampNeg) (gX γ (nI i + (2 : Int32)).toNatClampNeg) hS
  have hA1 := hA' _ _ _ hs
  have hA := hA _ _ _ hS
  obtain ⟨hf, hv⟩ := law_next (l := l) hA1 (ih _ _ _ hs)
  exact ⟨hf, b_L_law_1007 hA.1 hA.2 (vpS (j := 1) _ (by decide) (by omega) (by omega)) (vpS (j := 2) _ (by decide) (by omega) (by omega)) hm1 (vpS (j := 1) _ (by decide) (by omega) (by omega)) (vpS (j := 2) _ (by decide) (by omega) (by omega)) hm2 (fun _ => hv) (fun q => absurd rfl q)⟩
theorem lax_turned (hN : gN γ ≤ 3072) (hi : i + 6 ≤ gN γ) (hA : ∀ I J R, S I J R → At8 SH R 0 ∧ At9 SH R 169) (hA' : ∀ I J R, S' I J R → At8 SH R 0 ∧ At9 SH R 169) (ho : Oq_turned γ l S S') (hS : S I J R) (ih : ∀ I J R, S' I J R → atL18 γ l 18 (i + 6) I J R) : atL18 γ l 1040 i I J R := by
  obtain ⟨I1, J1, I2, v, hm1, hm2, hs⟩ := ho I J R (gX γ (nI i + (1 : Int32)).toNatClampNeg) hS
  have hA1 := hA' _ _ _ hs
  have hA := hA _ _ _ hS
  obtain ⟨hf, hv⟩ := law_next (l := l) hA1 (ih _ _ _ hs)
  exact ⟨hf, b_L_law_1040 hA.1 hA.2 (vpS (j := 1) _ (by decide) (by omega) (by omega)) hm1 (vpS (j := 1) _ (by decide) (by omega) (by omega)) hm2 (fun _ => hv) (fun q => absurd rfl q)⟩
theorem lax_count (hN : gN γ ≤ 3072) (hi : i + 6 ≤ gN γ) (hA : ∀ I J R, S I J R → At8 SH R 0 ∧ At9 SH R 169) (hA' : ∀ I J R, S' I J R → At8 SH R 0 ∧ At9 SH R 169) (ho : Oq_count γ l S S') (hS : S I J R) (ih : ∀ I J R, S' I J R → atL18 γ l 18 (i + 6) I J R) : atL18 γ l 1063 i I J R := by
  obtain ⟨I1, I2, v, hm1, hm2, hs⟩ := ho I J R (gX γ (nI i + (1 : Int32)).toNatClampNeg) hS
  have hA1 := hA' _ _ _ hs
  have hA := hA _ _ _ hS
  obtain ⟨hf, hv⟩ := law_next (l := l) hA1 (ih _ _ _ hs)
  exact ⟨hf, b_L_law_1063 hA.1 hA.2 (vpS (j := 1) _ (by decide) (by omega) (by omega)) hm1 (vpS (j := 1) _ (by decide) (by omega) (by omega)) hm2 (fun _ => hv) (fun q => absurd rfl q)⟩
theorem lax_read (hN : gN γ ≤ 3072) (hi : i + 6 ≤ gN γ) (hA : ∀ I J R, S I J R → At8 SH R 0 ∧ At9 SH R 169) (hA' : ∀ I J R, S' I J R → At8 SH R 0 ∧ At9 SH R 169) (ho : Oq_read γ l S S') (hS : S I J R) (ih : ∀ I J R, S' I J R → atL18 γ l 18 (i + 6) I J R) : atL18 γ l 266 i I J R := by
  obtain ⟨I1, R1, I2, J2, v, hm1, hm2, hs⟩ := ho I J R hS
  have hA2 := hA' _ _ _ hs
  have hA := hA _ _ _ hS
  obtain ⟨hf, hv⟩ := law_next (l := l) hA2 (ih _ _ _ hs)
  exact ⟨hf, b_L_law_266 hA.1 hA.2 hm1 (b_L_law_270 hA2.1 hA2.2 hm2 (fun _ => hv) (fun q => absurd rfl q))⟩
theorem lax_fold (hN : gN γ ≤ 3072) (hi : i + 6 ≤ gN γ) (hA : ∀ I J R, S I J R → At8 SH R 0 ∧ At9 SH R 169) (hA' : ∀ I J R, S' I J R → At8 SH R 0 ∧ At9 SH R 169) (ho : Oq_fold γ l S S') (hS : S I J R) (ih : ∀ I J R, S' I J R → atL18 γ l 18 (i + 6) I J R) : atL18 γ l 315 i I J R := by
  have hA0 := hA
  by_cases q2 : (gX γ (nI i + (2 : Int32)).toNatClampNeg) = 0 <;> by_cases q3 : (gX γ (nI i + (3 : Int32)).toNatClampNeg) = 0
  · obtain ⟨I1, I2, v, hm1, hm2, hs⟩ := ho I J R (gX γ (nI i + (1 : Int32)).toNatClampNeg) 0 0 hS (by decide) (by decide)
    have hA1 := hA' _ _ _ hs
    have hA := hA _ _ _ hS
    obtain ⟨hf, hv⟩ := law_next (l := l) hA1 (ih _ _ _ hs)
    exact ⟨hf, b_L_law_315 hA.1 hA.2 (vpS (j := 1) _ (by decide) (by omega) (by omega)) (vpS (j := 2) _ (by decide) (by omega) (by omega)) (fun _ => (b_L_law_334 hA.1 hA.2 hA.1 (vpS (j := 3) _ (by decide) (by omega) (by omega)) (fun _ => (b_L_law_347 hA.1 hA.2 hA.1 hm1 (vpS (j := 1) _ (by decide) (by omega) (by omega)) (vpS (j := 2) _ (by decide) (by omega) (by omega)) (fun _ => (b_L_law_369 (I3 := I2) (v5 := v) (I9 := I2) (v11 := v) hA.1 hA.2 hA.2 (vpS (j := 3) _ (by decide) (by omega) (by omega)) (fun _ => hm2) (fun _ _ => hv) (fun _ z => absurd rfl z) (fun z => absurd q3 z) (fun z => absurd q3 z) (fun z => absurd q3 z))) (fun z => absurd q2 z))) (fun z => absurd q3 z))) (fun z => absurd q2 z)⟩
  · obtain ⟨I1, I2, v, hm1, hm2, hs⟩ := ho I J R (gX γ (nI i + (1 : Int32)).toNatClampNeg) 0 1 hS (by decide) (by decide)
    have hA1 := hA' _ _ _ hs
    have hA := hA _ _ _ hS
    obtain ⟨hf, hv⟩ := law_next (l := l) hA1 (ih _ _ _ hs)
    exact ⟨hf, b_L_law_315 hA.1 hA.2 (vpS (j := 1) _ (by decide) (by omega) (by omega)) (vpS (j := 2) _ (by decide) (by omega) (by omega)) (fun _ => (b_L_law_334 hA.1 hA.2 hA.1 (vpS (j := 3) _ (by decide) (by omega) (by omega)) (fun z => absurd z q3) (fun _ => (b_L_law_347 hA.1 hA.2 hA.1 hm1 (vpS (j := 1) _ (by decide) (by omega) (by omega)) (vpS (j := 2) _ (by decide) (by omega) (by omega)) (fun _ => (b_L_law_369 (I3 := I2) (v5 := v) (I9 := I2) (v11 := v) hA.1 hA.2 hA.2 (vpS (j := 3) _ (by decide) (by omega) (by omega)) (fun z => absurd z q3) (fun z => absurd z q3) (fun z => absurd z q3) (fun _ => hm2) (fun _ _ => hv) (fun _ z => absurd rfl z))) (fun z => absurd q2 z))))) (fun z => absurd q2 z)⟩
  · obtain ⟨I1, I2, v, hm1, hm2, hs⟩ := ho I J R (gX γ (nI i + (1 : Int32)).toNatClampNeg) 1 0 hS (by decide) (by decide)
    have hA1 := hA' _ _ _ hs
    have hA := hA _ _ _ hS
    obtain ⟨hf, hv⟩ := law_next (l := l) hA1 (ih _ _ _ hs)
    exact ⟨hf, b_L_law_315 hA.1 hA.2 (vpS (j := 1) _ (by decide) (by omega) (by omega)) (vpS (j := 2) _ (by decide) (by omega) (by omega)) (fun z => absurd z q2) (fun _ => (b_L_law_334 hA.1 hA.2 hA.1 (vpS (j := 3) _ (by decide) (by omega) (by omega)) (fun _ => (b_L_law_347 hA.1 hA.2 hA.1 hm1 (vpS (j := 1) _ (by decide) (by omega) (by omega)) (vpS (j := 2) _ (by decide) (by omega) (by omega)) (fun z => absurd z q2) (fun _ => (b_L_law_369 (I3 := I2) (v5 := v) (I9 := I2) (v11 := v) hA.1 hA.2 hA.2 (vpS (j := 3) _ (by decide) (by omega) (by omega)) (fun _ => hm2) (fun _ _ => hv) (fun _ z => absurd rfl z) (fun z => absurd q3 z) (fun z => absurd q3 z) (fun z => absurd q3 z))))) (fun z => absurd q3 z)))⟩
  · obtain ⟨I1, I2, v, hm1, hm2, hs⟩ := ho I J R (gX γ (nI i + (1 : Int32)).toNatClampNeg) 1 1 hS (by decide) (by decide)
    have hA1 := hA' _ _ _ hs
    have hA := hA _ _ _ hS
    obtain ⟨hf, hv⟩ := law_next (l := l) hA1 (ih _ _ _ hs)
    exact ⟨hf, b_L_law_315 hA.1 hA.2 (vpS (j := 1) _ (by decide) (by omega) (by omega)) (vpS (j := 2) _ (by decide) (by omega) (by omega)) (fun z => absurd z q2) (fun _ => (b_L_law_334 hA.1 hA.2 hA.1 (vpS (j := 3) _ (by decide) (by omega) (by omega)) (fun z => absurd z q3) (fun _ => (b_L_law_347 hA.1 hA.2 hA.1 hm1 (vpS (j := 1) _ (by decide) (by omega) (by omega)) (vpS (j := 2) _ (by decide) (by omega) (by omega)) (fun z => absurd z q2) (fun _ => (b_L_law_369 (I3 := I2) (v5 := v) (I9 := I2) (v11 := v) hA.1 hA.2 hA.2 (vpS (j := 3) _ (by decide) (by omega) (by omega)) (fun z => absurd z q3) (fun z => absurd z q3) (fun z => absurd z q3) (fun _ => hm2) (fun _ _ => hv) (fun _ z => absurd rfl z)))))))⟩
theorem lax_tuck (hN : gN γ ≤ 3072) (hi : i + 6 ≤ gN γ) (hA : ∀ I J R, S I J R → At8 SH R 0 ∧ At9 SH R 169) (hA' : ∀ I J R, S' I J R → At8 SH R 0 ∧ At9 SH R 169) (ho : Oq_tuck γ l S S') (hS : S I J R) (ih : ∀ I J R, S' I J R → atL18 γ l 18 (i + 6) I J R) : atL18 γ l 390 i I J R := by
  by_cases q2 : (gX γ (nI i + (2 : Int32)).toNatClampNeg) = 0
  · obtain ⟨I1, I2, v, hm1, hm2, hs⟩ := ho I J R (gX γ (nI i + (1 : Int32)).toNatClampNeg) 0 (gX γ (nI i + (3 : Int32)).toNatClampNeg) hS (by decide)
    have hA1 := hA' _ _ _ hs
    have hA := hA _ _ _ hS
    obtain ⟨hf, hv⟩ := law_next (l := l) hA1 (ih _ _ _ hs)
    exact ⟨hf, b_L_law_390 hA.1 hA.2 (vpS (j := 1) _ (by decide) (by omega) (by omega)) (vpS (j := 2) _ (by decide) (by omega) (by omega)) (fun _ => (b_L_law_409 (I9 := I2) (v11 := v) (I16 := I2) (v18 := v) hA.1 hA.2 hA.1 (vpS (j := 3) _ (by decide) (by omega) (by omega)) hm1 (vpS (j := 1) _ (by decide) (by omega) (by omega)) (vpS (j := 2) _ (by decide) (by omega) (by omega)) (fun _ => (vpS (j := 3) _ (by decide) (by omega) (by omega))) (fun _ => hm2) (fun _ _ => hv) (fun _ z => absurd rfl z) (fun z => absurd q2 z) (fun z => absurd q2 z) (fun z => absurd q2 z) (fun z => absurd q2 z))) (fun z => absurd q2 z)⟩
  · obtain ⟨I1, I2, v, hm1, hm2, hs⟩ := ho I J R (gX γ (nI i + (1 : Int32)).toNatClampNeg) 1 (gX γ (nI i + (3 : Int32)).toNatClampNeg) hS (by decide)
    have hA1 := hA' _ _ _ hs
    have hA := hA _ _ _ hS
    obtain ⟨hf, hv⟩ := law_next (l := l) hA1 (ih _ _ _ hs)
    exact ⟨hf, b_L_law_390 hA.1 hA.2 (vpS (j := 1) _ (by decide) (by omega) (by omega)) (vpS (j := 2) _ (by decide) (by omega) (by omega)) (fun z => absurd z q2) (fun _ => (b_L_law_409 (I9 := I2) (v11 := v) (I16 := I2) (v18 := v) hA.1 hA.2 hA.1 (vpS (j := 3) _ (by decide) (by omega) (by omega)) hm1 (vpS (j := 1) _ (by decide) (by omega) (by omega)) (vpS (j := 2) _ (by decide) (by omega) (by omega)) (fun z => absurd z q2) (fun z => absurd z q2) (fun z => absurd z q2) (fun z => absurd z q2) (fun _ => (vpS (j := 3) _ (by decide) (by omega) (by omega))) (fun _ => hm2) (fun _ _ => hv) (fun _ z => absurd rfl z)))⟩
end LAW2
set_option maxHeartbeats 4000000 in
set_option maxRecDepth 20000 in
/-- the law's loop: from its head, for every script, to true -/
theorem law_go2 {γ : rG} {l : Launch} {S : Nat → rS} (hN : gN γ ≤ 3072) (hA : ∀ n I J R, S n I J R → At8 SH R 0 ∧ At9 SH R 169) (hM : ∀ n I J R, S n I J R → S (n + 1) I J R) (o_feed : ∀ n, n < 512 → Oq_feed γ l (S n) (S (n + 1))) (o_back : ∀ n, n < 512 → Oq_back γ l (S n) (S (n + 1))) (o_read : ∀ n, n < 512 → Oq_read γ l (S n) (S (n + 1))) (o_place : ∀ n, n < 512 → Oq_place γ l (S n) (S (n + 1))) (o_sheet : ∀ n, n < 512 → Oq_sheet γ l (S n) (S (n + 1))) (o_fold : ∀ n, n < 512 → Oq_fold γ l (S n) (S (n + 1))) (o_tuck : ∀ n, n < 512 → Oq_tuck γ l (S n) (S (n + 1))) (o_slit : ∀ n, n < 512 → Oq_slit γ l (S n) (S (n + 1))) (o_lock : ∀ n, n < 512 → Oq_lock γ l (S n) (S (n + 1))) (o_seal : ∀ n, n < 512 → Oq_seal γ l (S n) (S (n + 1))) (o_soil : ∀ n, n < 512 → Oq_soil γ l (S n) (S (n + 1))) (o_undo : ∀ n, n < 512 → Oq_undo γ l (S n) (S (n + 1))) (o_part : ∀ n, n < 512 → Oq_part γ l (S n) (S (n + 1))) (o_mark : ∀ n, n < 512 → Oq_mark γ l (S n) (S (n + 1))) (o_layers : ∀ n, n < 512 → Oq_layers γ l (S n) (S (n + 1))) (o_at : ∀ n, n < 512 → Oq_at γ l (S n) (S (n + 1))) (o_harm : ∀ n, n < 512 → Oq_harm γ l (S n) (S (n + 1))) (o_by : ∀ n, n < 512 → Oq_by γ l (S n) (S (n + 1))) (o_ease : ∀ n, n < 512 → Oq_ease γ l (S n) (S (n + 1))) (o_undone : ∀ n, n < 512 → Oq_undone γ l (S n) (S (n + 1))) (o_find : ∀ n, n < 512 → Oq_find γ l (S n) (S (n + 1))) (o_finds : ∀ n, n < 512 → Oq_finds γ l (S n) (S (n + 1))) (o_rows : ∀ n, n < 512 → Oq_rows γ l (S n) (S (n + 1))) (o_row : ∀ n, n < 512 → Oq_row γ l (S n) (S (n + 1))) (o_shut : ∀ n, n < 512 → Oq_shut γ l (S n) (S (n + 1))) (o_hand : ∀ n, n < 512 → Oq_hand γ l (S n) (S (n + 1))) (o_look : ∀ n, n < 512 → Oq_look γ l (S n) (S (n + 1))) (o_tale : ∀ n, n < 512 → Oq_tale γ l (S n) (S (n + 1))) (o_tales : ∀ n, n < 512 → Oq_tales γ l (S n) (S (n + 1))) (o_told : ∀ n, n < 512 → Oq_told γ l (S n) (S (n + 1))) (o_opened : ∀ n, n < 512 → Oq_opened γ l (S n) (S (n + 1))) (o_turned : ∀ n, n < 512 → Oq_turned γ l (S n) (S (n + 1))) (o_count : ∀ n, n < 512 → Oq_count γ l (S n) (S (n + 1))) : ∀ (q i n : Nat) (I : Nat → Nat → Int32) (J : Nat → Nat → Int64) (R : Nat → Nat → Option Nat), gN γ < i + 6 * q + 6 → i ≤ gN γ + 6 → 6 * n ≤ i → S n I J R → atL18 γ l 18 i I J R := by
  intro q
  induction q with
  | zero =>
    intro i n I J R h1 h2 h3 hS
    have hA := hA n _ _ _ hS
    have hg : (nI (gN γ) - (6 : Int32)) < nI i := (gdS hN (by omega)).mpr (by omega)
    exact ⟨(SH, I, J, R), b_L_law_18 hA.1 hA.2 (fun _ => ⟨rfl, rfl⟩) (fun z => absurd hg z) (fun z _ => absurd hg z) (fun z _ _ => absurd hg z) (fun z _ _ _ => absurd hg z) (fun z _ _ _ _ => absurd hg z) (fun z _ _ _ _ _ => absurd hg z) (fun z _ _ _ _ _ _ => absurd hg z) (fun z _ _ _ _ _ _ _ => absurd hg z) (fun z _ _ _ _ _ _ _ _ => absurd hg z) (fun z _ _ _ _ _ _ _ _ _ => absurd hg z) (fun z _ _ _ _ _ _ _ _ _ _ => absurd hg z) (fun z _ _ _ _ _ _ _ _ _ _ _ => absurd hg z) (fun z _ _ _ _ _ _ _ _ _ _ _ _ => absurd hg z) (fun z _ _ _ _ _ _ _ _ _ _ _ _ _ => absurd hg z) (fun z _ _ _ _ _ _ _ _ _ _ _ _ _ _ => absurd hg z) (fun z _ _ _ _ _ _ _ _ _ _ _ _ _ _ _ => absurd hg z) (fun z _ _ _ _ _ _ _ _ _ _ _ _ _ _ _ _ => absurd hg z) (fun z _ _ _ _ _ _ _ _ _ _ _ _ _ _ _ _ _ => absurd hg z) (fun z _ _ _ _ _ _ _ _ _ _ _ _ _ _ _ _ _ _ => absurd hg z) (fun z _ _ _ _ _ _ _ _ _ _ _ _ _ _ _ _ _ _ _ => absurd hg z) (fun z _ _ _ _ _ _ _ _ _ _ _ _ _ _ _ _ _ _ _ _ => absurd hg z) (fun z _ _ _ _ _ _ _ _ _ _ _ _ _ _ _ _ _ _ _ _ _ => absurd hg z) (fun z _ _ _ _ _ _ _ _ _ _ _ _ _ _ _ _ _ _ _ _ _ _ => absurd hg z) (fun z _ _ _ _ _ _ _ _ _ _ _ _ _ _ _ _ _ _ _ _ _ _ _ => absurd hg z) (fun z _ _ _ _ _ _ _ _ _ _ _ _ _ _ _ _ _ _ _ _ _ _ _ _ => absurd hg z) (fun z _ _ _ _ _ _ _ _ _ _ _ _ _ _ _ _ _ _ _ _ _ _ _ _ _ => absurd hg z) (fun z _ _ _ _ _ _ _ _ _ _ _ _ _ _ _ _ _ _ _ _ _ _ _ _ _ _ => absurd hg z) (fun z _ _ _ _ _ _ _ _ _ _ _ _ _ _ _ _ _ _ _ _ _ _ _ _ _ _ _ => absurd hg z) (fun z _ _ _ _ _ _ _ _ _ _ _ _ _ _ _ _ _ _ _ _ _ _ _ _ _ _ _ _ => absurd hg z) (fun z _ _ _ _ _ _ _ _ _ _ _ _ _ _ _ _ _ _ _ _ _ _ _ _ _ _ _ _ _ => absurd hg z) (fun z _ _ _ _ _ _ _ _ _ _ _ _ _ _ _ _ _ _ _ _ _ _ _ _ _ _ _ _ _ _ => absurd hg z) (fun z _ _ _ _ _ _ _ _ _ _ _ _ _ _ _ _ _ _ _ _ _ _ _ _ _ _ _ _ _ _ _ => absurd hg z) (fun z _ _ _ _ _ _ _ _ _ _ _ _ _ _ _ _ _ _ _ _ _ _ _ _ _ _ _ _ _ _ _ _ => absurd hg z) (fun z _ _ _ _ _ _ _ _ _ _ _ _ _ _ _ _ _ _ _ _ _ _ _ _ _ _ _ _ _ _ _ _ _ => absurd hg z) (fun z _ _ _ _ _ _ _ _ _ _ _ _ _ _ _ _ _ _ _ _ _ _ _ _ _ _ _ _ _ _ _ _ _ => absurd hg z)⟩
  | succ q ih =>
    intro i n I J R h1 h2 h3 hS
    by_cases hx : gN γ < i + 6
    · have hA := hA n _ _ _ hS
      have hg : (nI (gN γ) - (6 : Int32)) < nI i := (gdS hN (by omega)).mpr (by omega)
      exact ⟨(SH, I, J, R), b_L_law_18 hA.1 hA.2 (fun _ => ⟨rfl, rfl⟩) (fun z => absurd hg z) (fun z _ => absurd hg z) (fun z _ _ => absurd hg z) (fun z _ _ _ => absurd hg z) (fun z _ _ _ _ => absurd hg z) (fun z _ _ _ _ _ => absurd hg z) (fun z _ _ _ _ _ _ => absurd hg z) (fun z _ _ _ _ _ _ _ => absurd hg z) (fun z _ _ _ _ _ _ _ _ => absurd hg z) (fun z _ _ _ _ _ _ _ _ _ => absurd hg z) (fun z _ _ _ _ _ _ _ _ _ _ => absurd hg z) (fun z _ _ _ _ _ _ _ _ _ _ _ => absurd hg z) (fun z _ _ _ _ _ _ _ _ _ _ _ _ => absurd hg z) (fun z _ _ _ _ _ _ _ _ _ _ _ _ _ => absurd hg z) (fun z _ _ _ _ _ _ _ _ _ _ _ _ _ _ => absurd hg z) (fun z _ _ _ _ _ _ _ _ _ _ _ _ _ _ _ => absurd hg z) (fun z _ _ _ _ _ _ _ _ _ _ _ _ _ _ _ _ => absurd hg z) (fun z _ _ _ _ _ _ _ _ _ _ _ _ _ _ _ _ _ => absurd hg z) (fun z _ _ _ _ _ _ _ _ _ _ _ _ _ _ _ _ _ _ => absurd hg z) (fun z _ _ _ _ _ _ _ _ _ _ _ _ _ _ _ _ _ _ _ => absurd hg z) (fun z _ _ _ _ _ _ _ _ _ _ _ _ _ _ _ _ _ _ _ _ => absurd hg z) (fun z _ _ _ _ _ _ _ _ _ _ _ _ _ _ _ _ _ _ _ _ _ => absurd hg z) (fun z _ _ _ _ _ _ _ _ _ _ _ _ _ _ _ _ _ _ _ _ _ _ => absurd hg z) (fun z _ _ _ _ _ _ _ _ _ _ _ _ _ _ _ _ _ _ _ _ _ _ _ => absurd hg z) (fun z _ _ _ _ _ _ _ _ _ _ _ _ _ _ _ _ _ _ _ _ _ _ _ _ => absurd hg z) (fun z _ _ _ _ _ _ _ _ _ _ _ _ _ _ _ _ _ _ _ _ _ _ _ _ _ => absurd hg z) (fun z _ _ _ _ _ _ _ _ _ _ _ _ _ _ _ _ _ _ _ _ _ _ _ _ _ _ => absurd hg z) (fun z _ _ _ _ _ _ _ _ _ _ _ _ _ _ _ _ _ _ _ _ _ _ _ _ _ _ _ => absurd hg z) (fun z _ _ _ _ _ _ _ _ _ _ _ _ _ _ _ _ _ _ _ _ _ _ _ _ _ _ _ _ => absurd hg z) (fun z _ _ _ _ _ _ _ _ _ _ _ _ _ _ _ _ _ _ _ _ _ _ _ _ _ _ _ _ _ => absurd hg z) (fun z _ _ _ _ _ _ _ _ _ _ _ _ _ _ _ _ _ _ _ _ _ _ _ _ _ _ _ _ _ _ => absurd hg z) (fun z _ _ _ _ _ _ _ _ _ _ _ _ _ _ _ _ _ _ _ _ _ _ _ _ _ _ _ _ _ _ _ => absurd hg z) (fun z _ _ _ _ _ _ _ _ _ _ _ _ _ _ _ _ _ _ _ _ _ _ _ _ _ _ _ _ _ _ _ _ => absurd hg z) (fun z _ _ _ _ _ _ _ _ _ _ _ _ _ _ _ _ _ _ _ _ _ _ _ _ _ _ _ _ _ _ _ _ _ => absurd hg z) (fun z _ _ _ _ _ _ _ _ _ _ _ _ _ _ _ _ _ _ _ _ _ _ _ _ _ _ _ _ _ _ _ _ _ => absurd hg z)⟩
    have hi : i + 6 ≤ gN γ := by omega
    have ih2 : ∀ I J R, S (n + 1) I J R → atL18 γ l 18 (i + 6) I J R := fun I J R h => ih (i + 6) (n + 1) I J R (by omega) (by omega) (by omega) h
    have hn5 : n < 512 := by omega
    have hAS := hA n _ _ _ hS
    by_cases c0 : (gX γ (nI i).toNatClampNeg &&& (63 : Int32)) = (0 : Int32)
    · exact lawc_0 hN hi hAS c0 (lax_feed hN hi (hA n) (hA (n + 1)) (o_feed n hn5) hS ih2)
    by_cases c1 : (gX γ (nI i).toNatClampNeg &&& (63 : Int32)) = (1 : Int32)
    · exact lawc_1 hN hi hAS c1 (lax_back hN hi (hA n) (hA (n + 1)) (o_back n hn5) hS ih2)
    by_cases c2 : (gX γ (nI i).toNatClampNeg &&& (63 : Int32)) = (2 : Int32)
    · exact lawc_2 hN hi hAS c2 (lax_read hN hi (hA n) (hA (n + 1)) (o_read n hn5) hS ih2)
    by_cases c3 : (gX γ (nI i).toNatClampNeg &&& (63 : Int32)) = (3 : Int32)
    · exact lawc_3 hN hi hAS c3 (lax_place hN hi (hA n) (hA (n + 1)) (o_place n hn5) hS ih2)
    by_cases c4 : (gX γ (nI i).toNatClampNeg &&& (63 : Int32)) = (4 : Int32)
    · exact lawc_4 hN hi hAS c4 (lax_sheet hN hi (hA n) (hA (n + 1)) (o_sheet n hn5) hS ih2)
    by_cases c5 : (gX γ (nI i).toNatClampNeg &&& (63 : Int32)) = (5 : Int32)
    · exact lawc_5 hN hi hAS c5 (lax_fold hN hi (hA n) (hA (n + 1)) (o_fold n hn5) hS ih2)
    by_cases c6 : (gX γ (nI i).toNatClampNeg &&& (63 : Int32)) = (6 : Int32)
    · exact lawc_6 hN hi hAS c6 (lax_tuck hN hi (hA n) (hA (n + 1)) (o_tuck n hn5) hS ih2)
    by_cases c7 : (gX γ (nI i).toNatClampNeg &&& (63 : Int32)) = (7 : Int32)
    · exact lawc_7 hN hi hAS c7 (lax_slit hN hi (hA n) (hA (n + 1)) (o_slit n hn5) hS ih2)
    by_cases c8 : (gX γ (nI i).toNatClampNeg &&& (63 : Int32)) = (8 : Int32)
    · exact lawc_8 hN hi hAS c8 (lax_lock hN hi (hA n) (hA (n + 1)) (o_lock n hn5) hS ih2)
    by_cases c9 : (gX γ (nI i).toNatClampNeg &&& (63 : Int32)) = (9 : Int32)
    · exact lawc_9 hN hi hAS c9 (lax_seal hN hi (hA n) (hA (n + 1)) (o_seal n hn5) hS ih2)
    by_cases c10 : (gX γ (nI i).toNatClampNeg &&& (63 : Int32)) = (10 : Int32)
    · exact lawc_10 hN hi hAS c10 (lax_soil hN hi (hA n) (hA (n + 1)) (o_soil n hn5) hS ih2)
    by_cases c11 : (gX γ (nI i).toNatClampNeg &&& (63 : Int32)) = (11 : Int32)
    · exact lawc_11 hN hi hAS c11 (lax_undo hN hi (hA n) (hA (n + 1)) (o_undo n hn5) hS ih2)
    by_cases c12 : (gX γ (nI i).toNatClampNeg &&& (63 : Int32)) = (12 : Int32)
    · exact lawc_12 hN hi hAS c12 (lax_part hN hi (hA n) (hA (n + 1)) (o_part n hn5) hS ih2)
    by_cases c13 : (gX γ (nI i).toNatClampNeg &&& (63 : Int32)) = (13 : Int32)
    · exact lawc_13 hN hi hAS c13 (lax_mark hN hi (hA n) (hA (n + 1)) (o_mark n hn5) hS ih2)
    by_cases c14 : (gX γ (nI i).toNatClampNeg &&& (63 : Int32)) = (14 : Int32)
    · exact lawc_14 hN hi hAS c14 (lax_layers hN hi (hA n) (hA (n + 1)) (o_layers n hn5) hS ih2)
    by_cases c15 : (gX γ (nI i).toNatClampNeg &&& (63 : Int32)) = (15 : Int32)
    · exact lawc_15 hN hi hAS c15 (lax_at hN hi (hA n) (hA (n + 1)) (o_at n hn5) hS ih2)
    by_cases c16 : (gX γ (nI i).toNatClampNeg &&& (63 : Int32)) = (16 : Int32)
    · exact lawc_16 hN hi hAS c16 (lax_harm hN hi (hA n) (hA (n + 1)) (o_harm n hn5) hS ih2)
    by_cases c17 : (gX γ (nI i).toNatClampNeg &&& (63 : Int32)) = (17 : Int32)
    · exact lawc_17 hN hi hAS c17 (lax_by hN hi (hA n) (hA (n + 1)) (o_by n hn5) hS ih2)
    by_cases c18 : (gX γ (nI i).toNatClampNeg &&& (63 : Int32)) = (18 : Int32)
    · exact lawc_18 hN hi hAS c18 (lax_ease hN hi (hA n) (hA (n + 1)) (o_ease n hn5) hS ih2)
    by_cases c19 : (gX γ (nI i).toNatClampNeg &&& (63 : Int32)) = (19 : Int32)
    · exact lawc_19 hN hi hAS c19 (lax_undone hN hi (hA n) (hA (n + 1)) (o_undone n hn5) hS ih2)
    by_cases c20 : (gX γ (nI i).toNatClampNeg &&& (63 : Int32)) = (20 : Int32)
    · exact lawc_20 hN hi hAS c20 (lax_find hN hi (hA n) (hA (n + 1)) (o_find n hn5) hS ih2)
    by_cases c21 : (gX γ (nI i).toNatClampNeg &&& (63 : Int32)) = (21 : Int32)
    · exact lawc_21 hN hi hAS c21 (lax_finds hN hi (hA n) (hA (n + 1)) (o_finds n hn5) hS ih2)
    by_cases c22 : (gX γ (nI i).toNatClampNeg &&& (63 : Int32)) = (22 : Int32)
    · exact lawc_22 hN hi hAS c22 (lax_rows hN hi (hA n) (hA (n + 1)) (o_rows n hn5) hS ih2)
    by_cases c23 : (gX γ (nI i).toNatClampNeg &&& (63 : Int32)) = (23 : Int32)
    · exact lawc_23 hN hi hAS c23 (lax_row hN hi (hA n) (hA (n + 1)) (o_row n hn5) hS ih2)
    by_cases c24 : (gX γ (nI i).toNatClampNeg &&& (63 : Int32)) = (24 : Int32)
    · exact lawc_24 hN hi hAS c24 (lax_shut hN hi (hA n) (hA (n + 1)) (o_shut n hn5) hS ih2)
    by_cases c25 : (gX γ (nI i).toNatClampNeg &&& (63 : Int32)) = (25 : Int32)
    · exact lawc_25 hN hi hAS c25 (lax_hand hN hi (hA n) (hA (n + 1)) (o_hand n hn5) hS ih2)
    by_cases c26 : (gX γ (nI i).toNatClampNeg &&& (63 : Int32)) = (26 : Int32)
    · exact lawc_26 hN hi hAS c26 (lax_look hN hi (hA n) (hA (n + 1)) (o_look n hn5) hS ih2)
    by_cases c27 : (gX γ (nI i).toNatClampNeg &&& (63 : Int32)) = (27 : Int32)
    · exact lawc_27 hN hi hAS c27 (lax_tale hN hi (hA n) (hA (n + 1)) (o_tale n hn5) hS ih2)
    by_cases c28 : (gX γ (nI i).toNatClampNeg &&& (63 : Int32)) = (28 : Int32)
    · exact lawc_28 hN hi hAS c28 (lax_tales hN hi (hA n) (hA (n + 1)) (o_tales n hn5) hS ih2)
    by_cases c29 : (gX γ (nI i).toNatClampNeg &&& (63 : Int32)) = (29 : Int32)
    · exact lawc_29 hN hi hAS c29 (lax_told hN hi (hA n) (hA (n + 1)) (o_told n hn5) hS ih2)
    by_cases c30 : (gX γ (nI i).toNatClampNeg &&& (63 : Int32)) = (30 : Int32)
    · exact lawc_30 hN hi hAS c30 (lax_opened hN hi (hA n) (hA (n + 1)) (o_opened n hn5) hS ih2)
    by_cases c31 : (gX γ (nI i).toNatClampNeg &&& (63 : Int32)) = (31 : Int32)
    · exact lawc_31 hN hi hAS c31 (lax_turned hN hi (hA n) (hA (n + 1)) (o_turned n hn5) hS ih2)
    by_cases c32 : (gX γ (nI i).toNatClampNeg &&& (63 : Int32)) = (32 : Int32)
    · exact lawc_32 hN hi hAS c32 (lax_count hN hi (hA n) (hA (n + 1)) (o_count n hn5) hS ih2)
    refine lawc_d hN hi hAS (fun j hj => ?_) (law_next hAS (ih2 _ _ _ (hM n _ _ _ hS)))
    match j, hj with
    | 0, _ => exact c0
    | 1, _ => exact c1
    | 2, _ => exact c2
    | 3, _ => exact c3
    | 4, _ => exact c4
    | 5, _ => exact c5
    | 6, _ => exact c6
    | 7, _ => exact c7
    | 8, _ => exact c8
    | 9, _ => exact c9
    | 10, _ => exact c10
    | 11, _ => exact c11
    | 12, _ => exact c12
    | 13, _ => exact c13
    | 14, _ => exact c14
    | 15, _ => exact c15
    | 16, _ => exact c16
    | 17, _ => exact c17
    | 18, _ => exact c18
    | 19, _ => exact c19
    | 20, _ => exact c20
    | 21, _ => exact c21
    | 22, _ => exact c22
    | 23, _ => exact c23
    | 24, _ => exact c24
    | 25, _ => exact c25
    | 26, _ => exact c26
    | 27, _ => exact c27
    | 28, _ => exact c28
    | 29, _ => exact c29
    | 30, _ => exact c30
    | 31, _ => exact c31
    | 32, _ => exact c32
    | j + 33, h => exact absurd h (by omega)
