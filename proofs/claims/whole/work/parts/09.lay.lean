/-! ===== where an object and what it holds lie: fixed distances, as the constructors make them (by program) ===== -/
def rA (sh : Nat × (Nat → Nat) × (Nat → Nat)) (R : Nat → Nat → Option Nat) (a q off kd len : Nat) : Prop := R a q = some (a + off) ∧ rK sh (a + off) kd ∧ sh.2.2 (a + off) = len
def At2 (sh : Nat × (Nat → Nat) × (Nat → Nat)) (R : Nat → Nat → Option Nat) (a : Nat) : Prop := rK sh a 2 ∧ rA sh R a 2 1 11 8 ∧ rA sh R a 3 2 11 8 ∧ rA sh R a 4 3 13 8 ∧ rA sh R a 5 4 11 8 ∧ rA sh R a 6 5 11 64
theorem At2_k {sh : Nat × (Nat → Nat) × (Nat → Nat)} {R : Nat → Nat → Option Nat} {a : Nat} (h : At2 sh R a) : rK sh a 2 := h.1
theorem At2_2 {sh : Nat × (Nat → Nat) × (Nat → Nat)} {R : Nat → Nat → Option Nat} {a : Nat} (h : At2 sh R a) : rA sh R a 2 1 11 8 := h.2.1
theorem At2_3 {sh : Nat × (Nat → Nat) × (Nat → Nat)} {R : Nat → Nat → Option Nat} {a : Nat} (h : At2 sh R a) : rA sh R a 3 2 11 8 := h.2.2.1
theorem At2_4 {sh : Nat × (Nat → Nat) × (Nat → Nat)} {R : Nat → Nat → Option Nat} {a : Nat} (h : At2 sh R a) : rA sh R a 4 3 13 8 := h.2.2.2.1
theorem At2_5 {sh : Nat × (Nat → Nat) × (Nat → Nat)} {R : Nat → Nat → Option Nat} {a : Nat} (h : At2 sh R a) : rA sh R a 5 4 11 8 := h.2.2.2.2.1
theorem At2_6 {sh : Nat × (Nat → Nat) × (Nat → Nat)} {R : Nat → Nat → Option Nat} {a : Nat} (h : At2 sh R a) : rA sh R a 6 5 11 64 := h.2.2.2.2.2
def At3 (sh : Nat × (Nat → Nat) × (Nat → Nat)) (R : Nat → Nat → Option Nat) (a : Nat) : Prop := rK sh a 3 ∧ rA sh R a 2 1 11 16 ∧ rA sh R a 3 2 11 16 ∧ rA sh R a 4 3 11 16 ∧ rA sh R a 5 4 11 16 ∧ rA sh R a 6 5 11 400 ∧ rA sh R a 7 6 11 5 ∧ rA sh R a 8 7 11 32
theorem At3_k {sh : Nat × (Nat → Nat) × (Nat → Nat)} {R : Nat → Nat → Option Nat} {a : Nat} (h : At3 sh R a) : rK sh a 3 := h.1
theorem At3_2 {sh : Nat × (Nat → Nat) × (Nat → Nat)} {R : Nat → Nat → Option Nat} {a : Nat} (h : At3 sh R a) : rA sh R a 2 1 11 16 := h.2.1
theorem At3_3 {sh : Nat × (Nat → Nat) × (Nat → Nat)} {R : Nat → Nat → Option Nat} {a : Nat} (h : At3 sh R a) : rA sh R a 3 2 11 16 := h.2.2.1
theorem At3_4 {sh : Nat × (Nat → Nat) × (Nat → Nat)} {R : Nat → Nat → Option Nat} {a : Nat} (h : At3 sh R a) : rA sh R a 4 3 11 16 := h.2.2.2.1
theorem At3_5 {sh : Nat × (Nat → Nat) × (Nat → Nat)} {R : Nat → Nat → Option Nat} {a : Nat} (h : At3 sh R a) : rA sh R a 5 4 11 16 := h.2.2.2.2.1
theorem At3_6 {sh : Nat × (Nat → Nat) × (Nat → Nat)} {R : Nat → Nat → Option Nat} {a : Nat} (h : At3 sh R a) : rA sh R a 6 5 11 400 := h.2.2.2.2.2.1
theorem At3_7 {sh : Nat × (Nat → Nat) × (Nat → Nat)} {R : Nat → Nat → Option Nat} {a : Nat} (h : At3 sh R a) : rA sh R a 7 6 11 5 := h.2.2.2.2.2.2.1
theorem At3_8 {sh : Nat × (Nat → Nat) × (Nat → Nat)} {R : Nat → Nat → Option Nat} {a : Nat} (h : At3 sh R a) : rA sh R a 8 7 11 32 := h.2.2.2.2.2.2.2
def At4 (sh : Nat × (Nat → Nat) × (Nat → Nat)) (R : Nat → Nat → Option Nat) (a : Nat) : Prop := rK sh a 4 ∧ rA sh R a 0 1 11 32
theorem At4_k {sh : Nat × (Nat → Nat) × (Nat → Nat)} {R : Nat → Nat → Option Nat} {a : Nat} (h : At4 sh R a) : rK sh a 4 := h.1
theorem At4_0 {sh : Nat × (Nat → Nat) × (Nat → Nat)} {R : Nat → Nat → Option Nat} {a : Nat} (h : At4 sh R a) : rA sh R a 0 1 11 32 := h.2
def At6 (sh : Nat × (Nat → Nat) × (Nat → Nat)) (R : Nat → Nat → Option Nat) (a : Nat) : Prop := rK sh a 6 ∧ rA sh R a 0 1 10 2000
theorem At6_k {sh : Nat × (Nat → Nat) × (Nat → Nat)} {R : Nat → Nat → Option Nat} {a : Nat} (h : At6 sh R a) : rK sh a 6 := h.1
theorem At6_0 {sh : Nat × (Nat → Nat) × (Nat → Nat)} {R : Nat → Nat → Option Nat} {a : Nat} (h : At6 sh R a) : rA sh R a 0 1 10 2000 := h.2
def At7 (sh : Nat × (Nat → Nat) × (Nat → Nat)) (R : Nat → Nat → Option Nat) (a : Nat) : Prop := rK sh a 7 ∧ rA sh R a 4 1 11 36 ∧ rA sh R a 5 2 11 40 ∧ rA sh R a 6 3 11 40 ∧ rA sh R a 7 4 11 36 ∧ rA sh R a 8 5 11 36 ∧ rA sh R a 9 6 11 40 ∧ rA sh R a 10 7 11 108 ∧ rA sh R a 11 8 11 111 ∧ rA sh R a 12 9 12 111 ∧ rA sh R a 13 10 11 36
theorem At7_k {sh : Nat × (Nat → Nat) × (Nat → Nat)} {R : Nat → Nat → Option Nat} {a : Nat} (h : At7 sh R a) : rK sh a 7 := h.1
theorem At7_4 {sh : Nat × (Nat → Nat) × (Nat → Nat)} {R : Nat → Nat → Option Nat} {a : Nat} (h : At7 sh R a) : rA sh R a 4 1 11 36 := h.2.1
theorem At7_5 {sh : Nat × (Nat → Nat) × (Nat → Nat)} {R : Nat → Nat → Option Nat} {a : Nat} (h : At7 sh R a) : rA sh R a 5 2 11 40 := h.2.2.1
theorem At7_6 {sh : Nat × (Nat → Nat) × (Nat → Nat)} {R : Nat → Nat → Option Nat} {a : Nat} (h : At7 sh R a) : rA sh R a 6 3 11 40 := h.2.2.2.1
theorem At7_7 {sh : Nat × (Nat → Nat) × (Nat → Nat)} {R : Nat → Nat → Option Nat} {a : Nat} (h : At7 sh R a) : rA sh R a 7 4 11 36 := h.2.2.2.2.1
theorem At7_8 {sh : Nat × (Nat → Nat) × (Nat → Nat)} {R : Nat → Nat → Option Nat} {a : Nat} (h : At7 sh R a) : rA sh R a 8 5 11 36 := h.2.2.2.2.2.1
theorem At7_9 {sh : Nat × (Nat → Nat) × (Nat → Nat)} {R : Nat → Nat → Option Nat} {a : Nat} (h : At7 sh R a) : rA sh R a 9 6 11 40 := h.2.2.2.2.2.2.1
theorem At7_10 {sh : Nat × (Nat → Nat) × (Nat → Nat)} {R : Nat → Nat → Option Nat} {a : Nat} (h : At7 sh R a) : rA sh R a 10 7 11 108 := h.2.2.2.2.2.2.2.1
theorem At7_11 {sh : Nat × (Nat → Nat) × (Nat → Nat)} {R : Nat → Nat → Option Nat} {a : Nat} (h : At7 sh R a) : rA sh R a 11 8 11 111 := h.2.2.2.2.2.2.2.2.1
theorem At7_12 {sh : Nat × (Nat → Nat) × (Nat → Nat)} {R : Nat → Nat → Option Nat} {a : Nat} (h : At7 sh R a) : rA sh R a 12 9 12 111 := h.2.2.2.2.2.2.2.2.2.1
theorem At7_13 {sh : Nat × (Nat → Nat) × (Nat → Nat)} {R : Nat → Nat → Option Nat} {a : Nat} (h : At7 sh R a) : rA sh R a 13 10 11 36 := h.2.2.2.2.2.2.2.2.2.2
def At5 (sh : Nat × (Nat → Nat) × (Nat → Nat)) (R : Nat → Nat → Option Nat) (a : Nat) : Prop := rK sh a 5 ∧ rA sh R a 4 1 11 8 ∧ rA sh R a 5 2 11 8 ∧ rA sh R a 6 3 14 17 ∧ rA sh R a 7 4 11 16 ∧ rA sh R a 8 5 11 16 ∧ rA sh R a 9 6 11 16 ∧ rA sh R a 10 7 11 16 ∧ rA sh R a 11 8 11 16 ∧ (∀ i, i < 17 → R (a + 3) i = some (a + 9 + 6 * i) ∧ At2 sh R (a + 9 + 6 * i))
theorem At5_k {sh : Nat × (Nat → Nat) × (Nat → Nat)} {R : Nat → Nat → Option Nat} {a : Nat} (h : At5 sh R a) : rK sh a 5 := h.1
theorem At5_4 {sh : Nat × (Nat → Nat) × (Nat → Nat)} {R : Nat → Nat → Option Nat} {a : Nat} (h : At5 sh R a) : rA sh R a 4 1 11 8 := h.2.1
theorem At5_5 {sh : Nat × (Nat → Nat) × (Nat → Nat)} {R : Nat → Nat → Option Nat} {a : Nat} (h : At5 sh R a) : rA sh R a 5 2 11 8 := h.2.2.1
theorem At5_6 {sh : Nat × (Nat → Nat) × (Nat → Nat)} {R : Nat → Nat → Option Nat} {a : Nat} (h : At5 sh R a) : rA sh R a 6 3 14 17 := h.2.2.2.1
theorem At5_7 {sh : Nat × (Nat → Nat) × (Nat → Nat)} {R : Nat → Nat → Option Nat} {a : Nat} (h : At5 sh R a) : rA sh R a 7 4 11 16 := h.2.2.2.2.1
theorem At5_8 {sh : Nat × (Nat → Nat) × (Nat → Nat)} {R : Nat → Nat → Option Nat} {a : Nat} (h : At5 sh R a) : rA sh R a 8 5 11 16 := h.2.2.2.2.2.1
theorem At5_9 {sh : Nat × (Nat → Nat) × (Nat → Nat)} {R : Nat → Nat → Option Nat} {a : Nat} (h : At5 sh R a) : rA sh R a 9 6 11 16 := h.2.2.2.2.2.2.1
theorem At5_10 {sh : Nat × (Nat → Nat) × (Nat → Nat)} {R : Nat → Nat → Option Nat} {a : Nat} (h : At5 sh R a) : rA sh R a 10 7 11 16 := h.2.2.2.2.2.2.2.1
theorem At5_11 {sh : Nat × (Nat → Nat) × (Nat → Nat)} {R : Nat → Nat → Option Nat} {a : Nat} (h : At5 sh R a) : rA sh R a 11 8 11 16 := h.2.2.2.2.2.2.2.2.1
theorem At5_p {sh : Nat × (Nat → Nat) × (Nat → Nat)} {R : Nat → Nat → Option Nat} {a : Nat} (h : At5 sh R a) : (∀ i, i < 17 → R (a + 3) i = some (a + 9 + 6 * i) ∧ At2 sh R (a + 9 + 6 * i)) := h.2.2.2.2.2.2.2.2.2
def At1 (sh : Nat × (Nat → Nat) × (Nat → Nat)) (R : Nat → Nat → Option Nat) (a : Nat) : Prop := rK sh a 1 ∧ rA sh R a 2 1 12 1300 ∧ rA sh R a 3 2 11 1300 ∧ rA sh R a 4 3 11 1300 ∧ rA sh R a 5 4 11 4 ∧ rA sh R a 6 5 11 2048 ∧ (R a 7 = some (a + 6) ∧ At2 sh R (a + 6)) ∧ (R a 8 = some (a + 12) ∧ At2 sh R (a + 12))
theorem At1_k {sh : Nat × (Nat → Nat) × (Nat → Nat)} {R : Nat → Nat → Option Nat} {a : Nat} (h : At1 sh R a) : rK sh a 1 := h.1
theorem At1_2 {sh : Nat × (Nat → Nat) × (Nat → Nat)} {R : Nat → Nat → Option Nat} {a : Nat} (h : At1 sh R a) : rA sh R a 2 1 12 1300 := h.2.1
theorem At1_3 {sh : Nat × (Nat → Nat) × (Nat → Nat)} {R : Nat → Nat → Option Nat} {a : Nat} (h : At1 sh R a) : rA sh R a 3 2 11 1300 := h.2.2.1
theorem At1_4 {sh : Nat × (Nat → Nat) × (Nat → Nat)} {R : Nat → Nat → Option Nat} {a : Nat} (h : At1 sh R a) : rA sh R a 4 3 11 1300 := h.2.2.2.1
theorem At1_5 {sh : Nat × (Nat → Nat) × (Nat → Nat)} {R : Nat → Nat → Option Nat} {a : Nat} (h : At1 sh R a) : rA sh R a 5 4 11 4 := h.2.2.2.2.1
theorem At1_6 {sh : Nat × (Nat → Nat) × (Nat → Nat)} {R : Nat → Nat → Option Nat} {a : Nat} (h : At1 sh R a) : rA sh R a 6 5 11 2048 := h.2.2.2.2.2.1
theorem At1_7 {sh : Nat × (Nat → Nat) × (Nat → Nat)} {R : Nat → Nat → Option Nat} {a : Nat} (h : At1 sh R a) : (R a 7 = some (a + 6) ∧ At2 sh R (a + 6)) := h.2.2.2.2.2.2.1
theorem At1_8 {sh : Nat × (Nat → Nat) × (Nat → Nat)} {R : Nat → Nat → Option Nat} {a : Nat} (h : At1 sh R a) : (R a 8 = some (a + 12) ∧ At2 sh R (a + 12)) := h.2.2.2.2.2.2.2
def At0 (sh : Nat × (Nat → Nat) × (Nat → Nat)) (R : Nat → Nat → Option Nat) (a : Nat) : Prop := rK sh a 0 ∧ (R a 13 = some (a + 1) ∧ At1 sh R (a + 1)) ∧ (R a 14 = some (a + 19) ∧ At2 sh R (a + 19)) ∧ rA sh R a 15 25 11 512
theorem At0_k {sh : Nat × (Nat → Nat) × (Nat → Nat)} {R : Nat → Nat → Option Nat} {a : Nat} (h : At0 sh R a) : rK sh a 0 := h.1
theorem At0_13 {sh : Nat × (Nat → Nat) × (Nat → Nat)} {R : Nat → Nat → Option Nat} {a : Nat} (h : At0 sh R a) : (R a 13 = some (a + 1) ∧ At1 sh R (a + 1)) := h.2.1
theorem At0_14 {sh : Nat × (Nat → Nat) × (Nat → Nat)} {R : Nat → Nat → Option Nat} {a : Nat} (h : At0 sh R a) : (R a 14 = some (a + 19) ∧ At2 sh R (a + 19)) := h.2.2.1
theorem At0_15 {sh : Nat × (Nat → Nat) × (Nat → Nat)} {R : Nat → Nat → Option Nat} {a : Nat} (h : At0 sh R a) : rA sh R a 15 25 11 512 := h.2.2.2
def At8 (sh : Nat × (Nat → Nat) × (Nat → Nat)) (R : Nat → Nat → Option Nat) (a : Nat) : Prop := rK sh a 8 ∧ (R a 0 = some (a + 1) ∧ At6 sh R (a + 1)) ∧ (R a 1 = some (a + 3) ∧ At4 sh R (a + 3)) ∧ (R a 2 = some (a + 5) ∧ At5 sh R (a + 5)) ∧ (R a 3 = some (a + 116) ∧ At0 sh R (a + 116)) ∧ (R a 4 = some (a + 142) ∧ At7 sh R (a + 142))
theorem At8_k {sh : Nat × (Nat → Nat) × (Nat → Nat)} {R : Nat → Nat → Option Nat} {a : Nat} (h : At8 sh R a) : rK sh a 8 := h.1
theorem At8_0 {sh : Nat × (Nat → Nat) × (Nat → Nat)} {R : Nat → Nat → Option Nat} {a : Nat} (h : At8 sh R a) : (R a 0 = some (a + 1) ∧ At6 sh R (a + 1)) := h.2.1
theorem At8_1 {sh : Nat × (Nat → Nat) × (Nat → Nat)} {R : Nat → Nat → Option Nat} {a : Nat} (h : At8 sh R a) : (R a 1 = some (a + 3) ∧ At4 sh R (a + 3)) := h.2.2.1
theorem At8_2 {sh : Nat × (Nat → Nat) × (Nat → Nat)} {R : Nat → Nat → Option Nat} {a : Nat} (h : At8 sh R a) : (R a 2 = some (a + 5) ∧ At5 sh R (a + 5)) := h.2.2.2.1
theorem At8_3 {sh : Nat × (Nat → Nat) × (Nat → Nat)} {R : Nat → Nat → Option Nat} {a : Nat} (h : At8 sh R a) : (R a 3 = some (a + 116) ∧ At0 sh R (a + 116)) := h.2.2.2.2.1
theorem At8_4 {sh : Nat × (Nat → Nat) × (Nat → Nat)} {R : Nat → Nat → Option Nat} {a : Nat} (h : At8 sh R a) : (R a 4 = some (a + 142) ∧ At7 sh R (a + 142)) := h.2.2.2.2.2
def At9 (sh : Nat × (Nat → Nat) × (Nat → Nat)) (R : Nat → Nat → Option Nat) (a : Nat) : Prop := rK sh a 9 ∧ rA sh R a 1 1 10 2000 ∧ rA sh R a 3 2 10 2000 ∧ rA sh R a 5 3 11 403 ∧ rA sh R a 6 4 11 403 ∧ rA sh R a 7 5 11 403 ∧ rA sh R a 8 6 12 403 ∧ rA sh R a 9 7 12 14 ∧ rA sh R a 20 8 11 2 ∧ rA sh R a 21 9 11 32 ∧ rA sh R a 22 10 11 32 ∧ rA sh R a 23 11 11 32 ∧ rA sh R a 24 12 11 32 ∧ rA sh R a 25 13 11 32 ∧ rA sh R a 26 14 11 2 ∧ rA sh R a 27 15 11 400 ∧ rA sh R a 28 16 11 400 ∧ rA sh R a 29 17 11 400 ∧ rA sh R a 30 18 11 400 ∧ rA sh R a 31 19 13 400 ∧ rA sh R a 33 20 11 1000 ∧ rA sh R a 34 21 11 1000 ∧ rA sh R a 35 22 11 48 ∧ rA sh R a 37 23 11 5 ∧ rA sh R a 38 24 11 500 ∧ rA sh R a 40 25 11 22 ∧ rA sh R a 41 26 11 176 ∧ rA sh R a 42 27 11 176 ∧ rA sh R a 43 28 13 176 ∧ rA sh R a 44 29 11 8 ∧ rA sh R a 45 30 11 8 ∧ rA sh R a 46 31 11 8 ∧ rA sh R a 47 32 13 16 ∧ rA sh R a 49 33 11 16 ∧ rA sh R a 50 34 11 16 ∧ rA sh R a 51 35 11 16 ∧ rA sh R a 52 36 11 16 ∧ rA sh R a 53 37 11 16 ∧ rA sh R a 56 38 11 8 ∧ rA sh R a 57 39 11 8 ∧ rA sh R a 58 40 11 16 ∧ rA sh R a 62 41 11 5 ∧ rA sh R a 63 42 13 16384 ∧ rA sh R a 66 43 11 4 ∧ rA sh R a 67 44 11 4 ∧ rA sh R a 70 45 11 6 ∧ rA sh R a 72 46 11 36 ∧ rA sh R a 74 47 11 40 ∧ rA sh R a 75 48 11 40 ∧ rA sh R a 76 49 11 108 ∧ rA sh R a 77 50 11 108 ∧ rA sh R a 78 51 12 108 ∧ rA sh R a 79 52 11 36 ∧ rA sh R a 80 53 11 36 ∧ rA sh R a 81 54 11 36 ∧ rA sh R a 82 55 11 36
theorem At9_k {sh : Nat × (Nat → Nat) × (Nat → Nat)} {R : Nat → Nat → Option Nat} {a : Nat} (h : At9 sh R a) : rK sh a 9 := h.1
theorem At9_1 {sh : Nat × (Nat → Nat) × (Nat → Nat)} {R : Nat → Nat → Option Nat} {a : Nat} (h : At9 sh R a) : rA sh R a 1 1 10 2000 := h.2.1
theorem At9_3 {sh : Nat × (Nat → Nat) × (Nat → Nat)} {R : Nat → Nat → Option Nat} {a : Nat} (h : At9 sh R a) : rA sh R a 3 2 10 2000 := h.2.2.1
theorem At9_5 {sh : Nat × (Nat → Nat) × (Nat → Nat)} {R : Nat → Nat → Option Nat} {a : Nat} (h : At9 sh R a) : rA sh R a 5 3 11 403 := h.2.2.2.1
theorem At9_6 {sh : Nat × (Nat → Nat) × (Nat → Nat)} {R : Nat → Nat → Option Nat} {a : Nat} (h : At9 sh R a) : rA sh R a 6 4 11 403 := h.2.2.2.2.1
theorem At9_7 {sh : Nat × (Nat → Nat) × (Nat → Nat)} {R : Nat → Nat → Option Nat} {a : Nat} (h : At9 sh R a) : rA sh R a 7 5 11 403 := h.2.2.2.2.2.1
theorem At9_8 {sh : Nat × (Nat → Nat) × (Nat → Nat)} {R : Nat → Nat → Option Nat} {a : Nat} (h : At9 sh R a) : rA sh R a 8 6 12 403 := h.2.2.2.2.2.2.1
theorem At9_9 {sh : Nat × (Nat → Nat) × (Nat → Nat)} {R : Nat → Nat → Option Nat} {a : Nat} (h : At9 sh R a) : rA sh R a 9 7 12 14 := h.2.2.2.2.2.2.2.1
theorem At9_20 {sh : Nat × (Nat → Nat) × (Nat → Nat)} {R : Nat → Nat → Option Nat} {a : Nat} (h : At9 sh R a) : rA sh R a 20 8 11 2 := h.2.2.2.2.2.2.2.2.1
theorem At9_21 {sh : Nat × (Nat → Nat) × (Nat → Nat)} {R : Nat → Nat → Option Nat} {a : Nat} (h : At9 sh R a) : rA sh R a 21 9 11 32 := h.2.2.2.2.2.2.2.2.2.1
theorem At9_22 {sh : Nat × (Nat → Nat) × (Nat → Nat)} {R : Nat → Nat → Option Nat} {a : Nat} (h : At9 sh R a) : rA sh R a 22 10 11 32 := h.2.2.2.2.2.2.2.2.2.2.1
theorem At9_23 {sh : Nat × (Nat → Nat) × (Nat → Nat)} {R : Nat → Nat → Option Nat} {a : Nat} (h : At9 sh R a) : rA sh R a 23 11 11 32 := h.2.2.2.2.2.2.2.2.2.2.2.1
theorem At9_24 {sh : Nat × (Nat → Nat) × (Nat → Nat)} {R : Nat → Nat → Option Nat} {a : Nat} (h : At9 sh R a) : rA sh R a 24 12 11 32 := h.2.2.2.2.2.2.2.2.2.2.2.2.1
theorem At9_25 {sh : Nat × (Nat → Nat) × (Nat → Nat)} {R : Nat → Nat → Option Nat} {a : Nat} (h : At9 sh R a) : rA sh R a 25 13 11 32 := h.2.2.2.2.2.2.2.2.2.2.2.2.2.1
theorem At9_26 {sh : Nat × (Nat → Nat) × (Nat → Nat)} {R : Nat → Nat → Option Nat} {a : Nat} (h : At9 sh R a) : rA sh R a 26 14 11 2 := h.2.2.2.2.2.2.2.2.2.2.2.2.2.2.1
theorem At9_27 {sh : Nat × (Nat → Nat) × (Nat → Nat)} {R : Nat → Nat → Option Nat} {a : Nat} (h : At9 sh R a) : rA sh R a 27 15 11 400 := h.2.2.2.2.2.2.2.2.2.2.2.2.2.2.2.1
theorem At9_28 {sh : Nat × (Nat → Nat) × (Nat → Nat)} {R : Nat → Nat → Option Nat} {a : Nat} (h : At9 sh R a) : rA sh R a 28 16 11 400 := h.2.2.2.2.2.2.2.2.2.2.2.2.2.2.2.2.1
theorem At9_29 {sh : Nat × (Nat → Nat) × (Nat → Nat)} {R : Nat → Nat → Option Nat} {a : Nat} (h : At9 sh R a) : rA sh R a 29 17 11 400 := h.2.2.2.2.2.2.2.2.2.2.2.2.2.2.2.2.2.1
theorem At9_30 {sh : Nat × (Nat → Nat) × (Nat → Nat)} {R : Nat → Nat → Option Nat} {a : Nat} (h : At9 sh R a) : rA sh R a 30 18 11 400 := h.2.2.2.2.2.2.2.2.2.2.2.2.2.2.2.2.2.2.1
theorem At9_31 {sh : Nat × (Nat → Nat) × (Nat → Nat)} {R : Nat → Nat → Option Nat} {a : Nat} (h : At9 sh R a) : rA sh R a 31 19 13 400 := h.2.2.2.2.2.2.2.2.2.2.2.2.2.2.2.2.2.2.2.1
theorem At9_33 {sh : Nat × (Nat → Nat) × (Nat → Nat)} {R : Nat → Nat → Option Nat} {a : Nat} (h : At9 sh R a) : rA sh R a 33 20 11 1000 := h.2.2.2.2.2.2.2.2.2.2.2.2.2.2.2.2.2.2.2.2.1
theorem At9_34 {sh : Nat × (Nat → Nat) × (Nat → Nat)} {R : Nat → Nat → Option Nat} {a : Nat} (h : At9 sh R a) : rA sh R a 34 21 11 1000 := h.2.2.2.2.2.2.2.2.2.2.2.2.2.2.2.2.2.2.2.2.2.1
theorem At9_35 {sh : Nat × (Nat → Nat) × (Nat → Nat)} {R : Nat → Nat → Option Nat} {a : Nat} (h : At9 sh R a) : rA sh R a 35 22 11 48 := h.2.2.2.2.2.2.2.2.2.2.2.2.2.2.2.2.2.2.2.2.2.2.1
theorem At9_37 {sh : Nat × (Nat → Nat) × (Nat → Nat)} {R : Nat → Nat → Option Nat} {a : Nat} (h : At9 sh R a) : rA sh R a 37 23 11 5 := h.2.2.2.2.2.2.2.2.2.2.2.2.2.2.2.2.2.2.2.2.2.2.2.1
theorem At9_38 {sh : Nat × (Nat → Nat) × (Nat → Nat)} {R : Nat → Nat → Option Nat} {a : Nat} (h : At9 sh R a) : rA sh R a 38 24 11 500 := h.2.2.2.2.2.2.2.2.2.2.2.2.2.2.2.2.2.2.2.2.2.2.2.2.1
theorem At9_40 {sh : Nat × (Nat → Nat) × (Nat → Nat)} {R : Nat → Nat → Option Nat} {a : Nat} (h : At9 sh R a) : rA sh R a 40 25 11 22 := h.2.2.2.2.2.2.2.2.2.2.2.2.2.2.2.2.2.2.2.2.2.2.2.2.2.1
theorem At9_41 {sh : Nat × (Nat → Nat) × (Nat → Nat)} {R : Nat → Nat → Option Nat} {a : Nat} (h : At9 sh R a) : rA sh R a 41 26 11 176 := h.2.2.2.2.2.2.2.2.2.2.2.2.2.2.2.2.2.2.2.2.2.2.2.2.2.2.1
theorem At9_42 {sh : Nat × (Nat → Nat) × (Nat → Nat)} {R : Nat → Nat → Option Nat} {a : Nat} (h : At9 sh R a) : rA sh R a 42 27 11 176 := h.2.2.2.2.2.2.2.2.2.2.2.2.2.2.2.2.2.2.2.2.2.2.2.2.2.2.2.1
theorem At9_43 {sh : Nat × (Nat → Nat) × (Nat → Nat)} {R : Nat → Nat → Option Nat} {a : Nat} (h : At9 sh R a) : rA sh R a 43 28 13 176 := h.2.2.2.2.2.2.2.2.2.2.2.2.2.2.2.2.2.2.2.2.2.2.2.2.2.2.2.2.1
theorem At9_44 {sh : Nat × (Nat → Nat) × (Nat → Nat)} {R : Nat → Nat → Option Nat} {a : Nat} (h : At9 sh R a) : rA sh R a 44 29 11 8 := h.2.2.2.2.2.2.2.2.2.2.2.2.2.2.2.2.2.2.2.2.2.2.2.2.2.2.2.2.2.1
theorem At9_45 {sh : Nat × (Nat → Nat) × (Nat → Nat)} {R : Nat → Nat → Option Nat} {a : Nat} (h : At9 sh R a) : rA sh R a 45 30 11 8 := h.2.2.2.2.2.2.2.2.2.2.2.2.2.2.2.2.2.2.2.2.2.2.2.2.2.2.2.2.2.2.1
theorem At9_46 {sh : Nat × (Nat → Nat) × (Nat → Nat)} {R : Nat → Nat → Option Nat} {a : Nat} (h : At9 sh R a) : rA sh R a 46 31 11 8 := h.2.2.2.2.2.2.2.2.2.2.2.2.2.2.2.2.2.2.2.2.2.2.2.2.2.2.2.2.2.2.2.1
theorem At9_47 {sh : Nat × (Nat → Nat) × (Nat → Nat)} {R : Nat → Nat → Option Nat} {a : Nat} (h : At9 sh R a) : rA sh R a 47 32 13 16 := h.2.2.2.2.2.2.2.2.2.2.2.2.2.2.2.2.2.2.2.2.2.2.2.2.2.2.2.2.2.2.2.2.1
theorem At9_49 {sh : Nat × (Nat → Nat) × (Nat → Nat)} {R : Nat → Nat → Option Nat} {a : Nat} (h : At9 sh R a) : rA sh R a 49 33 11 16 := h.2.2.2.2.2.2.2.2.2.2.2.2.2.2.2.2.2.2.2.2.2.2.2.2.2.2.2.2.2.2.2.2.2.1
theorem At9_50 {sh : Nat × (Nat → Nat) × (Nat → Nat)} {R : Nat → Nat → Option Nat} {a : Nat} (h : At9 sh R a) : rA sh R a 50 34 11 16 := h.2.2.2.2.2.2.2.2.2.2.2.2.2.2.2.2.2.2.2.2.2.2.2.2.2.2.2.2.2.2.2.2.2.2.1
theorem At9_51 {sh : Nat × (Nat → Nat) × (Nat → Nat)} {R : Nat → Nat → Option Nat} {a : Nat} (h : At9 sh R a) : rA sh R a 51 35 11 16 := h.2.2.2.2.2.2.2.2.2.2.2.2.2.2.2.2.2.2.2.2.2.2.2.2.2.2.2.2.2.2.2.2.2.2.2.1
theorem At9_52 {sh : Nat × (Nat → Nat) × (Nat → Nat)} {R : Nat → Nat → Option Nat} {a : Nat} (h : At9 sh R a) : rA sh R a 52 36 11 16 := h.2.2.2.2.2.2.2.2.2.2.2.2.2.2.2.2.2.2.2.2.2.2.2.2.2.2.2.2.2.2.2.2.2.2.2.2.1
theorem At9_53 {sh : Nat × (Nat → Nat) × (Nat → Nat)} {R : Nat → Nat → Option Nat} {a : Nat} (h : At9 sh R a) : rA sh R a 53 37 11 16 := h.2.2.2.2.2.2.2.2.2.2.2.2.2.2.2.2.2.2.2.2.2.2.2.2.2.2.2.2.2.2.2.2.2.2.2.2.2.1
theorem At9_56 {sh : Nat × (Nat → Nat) × (Nat → Nat)} {R : Nat → Nat → Option Nat} {a : Nat} (h : At9 sh R a) : rA sh R a 56 38 11 8 := h.2.2.2.2.2.2.2.2.2.2.2.2.2.2.2.2.2.2.2.2.2.2.2.2.2.2.2.2.2.2.2.2.2.2.2.2.2.2.1
theorem At9_57 {sh : Nat × (Nat → Nat) × (Nat → Nat)} {R : Nat → Nat → Option Nat} {a : Nat} (h : At9 sh R a) : rA sh R a 57 39 11 8 := h.2.2.2.2.2.2.2.2.2.2.2.2.2.2.2.2.2.2.2.2.2.2.2.2.2.2.2.2.2.2.2.2.2.2.2.2.2.2.2.1
theorem At9_58 {sh : Nat × (Nat → Nat) × (Nat → Nat)} {R : Nat → Nat → Option Nat} {a : Nat} (h : At9 sh R a) : rA sh R a 58 40 11 16 := h.2.2.2.2.2.2.2.2.2.2.2.2.2.2.2.2.2.2.2.2.2.2.2.2.2.2.2.2.2.2.2.2.2.2.2.2.2.2.2.2.1
theorem At9_62 {sh : Nat × (Nat → Nat) × (Nat → Nat)} {R : Nat → Nat → Option Nat} {a : Nat} (h : At9 sh R a) : rA sh R a 62 41 11 5 := h.2.2.2.2.2.2.2.2.2.2.2.2.2.2.2.2.2.2.2.2.2.2.2.2.2.2.2.2.2.2.2.2.2.2.2.2.2.2.2.2.2.1
theorem At9_63 {sh : Nat × (Nat → Nat) × (Nat → Nat)} {R : Nat → Nat → Option Nat} {a : Nat} (h : At9 sh R a) : rA sh R a 63 42 13 16384 := h.2.2.2.2.2.2.2.2.2.2.2.2.2.2.2.2.2.2.2.2.2.2.2.2.2.2.2.2.2.2.2.2.2.2.2.2.2.2.2.2.2.2.1
theorem At9_66 {sh : Nat × (Nat → Nat) × (Nat → Nat)} {R : Nat → Nat → Option Nat} {a : Nat} (h : At9 sh R a) : rA sh R a 66 43 11 4 := h.2.2.2.2.2.2.2.2.2.2.2.2.2.2.2.2.2.2.2.2.2.2.2.2.2.2.2.2.2.2.2.2.2.2.2.2.2.2.2.2.2.2.2.1
theorem At9_67 {sh : Nat × (Nat → Nat) × (Nat → Nat)} {R : Nat → Nat → Option Nat} {a : Nat} (h : At9 sh R a) : rA sh R a 67 44 11 4 := h.2.2.2.2.2.2.2.2.2.2.2.2.2.2.2.2.2.2.2.2.2.2.2.2.2.2.2.2.2.2.2.2.2.2.2.2.2.2.2.2.2.2.2.2.1
theorem At9_70 {sh : Nat × (Nat → Nat) × (Nat → Nat)} {R : Nat → Nat → Option Nat} {a : Nat} (h : At9 sh R a) : rA sh R a 70 45 11 6 := h.2.2.2.2.2.2.2.2.2.2.2.2.2.2.2.2.2.2.2.2.2.2.2.2.2.2.2.2.2.2.2.2.2.2.2.2.2.2.2.2.2.2.2.2.2.1
theorem At9_72 {sh : Nat × (Nat → Nat) × (Nat → Nat)} {R : Nat → Nat → Option Nat} {a : Nat} (h : At9 sh R a) : rA sh R a 72 46 11 36 := h.2.2.2.2.2.2.2.2.2.2.2.2.2.2.2.2.2.2.2.2.2.2.2.2.2.2.2.2.2.2.2.2.2.2.2.2.2.2.2.2.2.2.2.2.2.2.1
theorem At9_74 {sh : Nat × (Nat → Nat) × (Nat → Nat)} {R : Nat → Nat → Option Nat} {a : Nat} (h : At9 sh R a) : rA sh R a 74 47 11 40 := h.2.2.2.2.2.2.2.2.2.2.2.2.2.2.2.2.2.2.2.2.2.2.2.2.2.2.2.2.2.2.2.2.2.2.2.2.2.2.2.2.2.2.2.2.2.2.2.1
theorem At9_75 {sh : Nat × (Nat → Nat) × (Nat → Nat)} {R : Nat → Nat → Option Nat} {a : Nat} (h : At9 sh R a) : rA sh R a 75 48 11 40 := h.2.2.2.2.2.2.2.2.2.2.2.2.2.2.2.2.2.2.2.2.2.2.2.2.2.2.2.2.2.2.2.2.2.2.2.2.2.2.2.2.2.2.2.2.2.2.2.2.1
theorem At9_76 {sh : Nat × (Nat → Nat) × (Nat → Nat)} {R : Nat → Nat → Option Nat} {a : Nat} (h : At9 sh R a) : rA sh R a 76 49 11 108 := h.2.2.2.2.2.2.2.2.2.2.2.2.2.2.2.2.2.2.2.2.2.2.2.2.2.2.2.2.2.2.2.2.2.2.2.2.2.2.2.2.2.2.2.2.2.2.2.2.2.1
theorem At9_77 {sh : Nat × (Nat → Nat) × (Nat → Nat)} {R : Nat → Nat → Option Nat} {a : Nat} (h : At9 sh R a) : rA sh R a 77 50 11 108 := h.2.2.2.2.2.2.2.2.2.2.2.2.2.2.2.2.2.2.2.2.2.2.2.2.2.2.2.2.2.2.2.2.2.2.2.2.2.2.2.2.2.2.2.2.2.2.2.2.2.2.1
theorem At9_78 {sh : Nat × (Nat → Nat) × (Nat → Nat)} {R : Nat → Nat → Option Nat} {a : Nat} (h : At9 sh R a) : rA sh R a 78 51 12 108 := h.2.2.2.2.2.2.2.2.2.2.2.2.2.2.2.2.2.2.2.2.2.2.2.2.2.2.2.2.2.2.2.2.2.2.2.2.2.2.2.2.2.2.2.2.2.2.2.2.2.2.2.1
theorem At9_79 {sh : Nat × (Nat → Nat) × (Nat → Nat)} {R : Nat → Nat → Option Nat} {a : Nat} (h : At9 sh R a) : rA sh R a 79 52 11 36 := h.2.2.2.2.2.2.2.2.2.2.2.2.2.2.2.2.2.2.2.2.2.2.2.2.2.2.2.2.2.2.2.2.2.2.2.2.2.2.2.2.2.2.2.2.2.2.2.2.2.2.2.2.1
theorem At9_80 {sh : Nat × (Nat → Nat) × (Nat → Nat)} {R : Nat → Nat → Option Nat} {a : Nat} (h : At9 sh R a) : rA sh R a 80 53 11 36 := h.2.2.2.2.2.2.2.2.2.2.2.2.2.2.2.2.2.2.2.2.2.2.2.2.2.2.2.2.2.2.2.2.2.2.2.2.2.2.2.2.2.2.2.2.2.2.2.2.2.2.2.2.2.1
theorem At9_81 {sh : Nat × (Nat → Nat) × (Nat → Nat)} {R : Nat → Nat → Option Nat} {a : Nat} (h : At9 sh R a) : rA sh R a 81 54 11 36 := h.2.2.2.2.2.2.2.2.2.2.2.2.2.2.2.2.2.2.2.2.2.2.2.2.2.2.2.2.2.2.2.2.2.2.2.2.2.2.2.2.2.2.2.2.2.2.2.2.2.2.2.2.2.2.1
theorem At9_82 {sh : Nat × (Nat → Nat) × (Nat → Nat)} {R : Nat → Nat → Option Nat} {a : Nat} (h : At9 sh R a) : rA sh R a 82 55 11 36 := h.2.2.2.2.2.2.2.2.2.2.2.2.2.2.2.2.2.2.2.2.2.2.2.2.2.2.2.2.2.2.2.2.2.2.2.2.2.2.2.2.2.2.2.2.2.2.2.2.2.2.2.2.2.2.2
def rSub : List (Option Value) → List (Option Value) → Prop
  | [], _ => True
  | none :: t, _ :: u => rSub t u
  | some v :: t, o :: u => o = some v ∧ rSub t u
  | none :: t, [] => rSub t []
  | some _ :: _, [] => False
theorem rSub_at : ∀ {L' L : List (Option Value)}, rSub L' L → ∀ (i : Nat) (v : Value), L'[i]? = some (some v) → L[i]? = some (some v) := by
  intro L'
  induction L' with
  | nil => intro L _ i v h; simp at h
  | cons o t ih =>
    intro L hs i v h
    cases L with
    | nil =>
      cases o with
      | none =>
        cases i with
        | zero => simp at h
        | succ i => simpa using ih (L := []) hs i v (by simpa using h)
      | some w => exact hs.elim
    | cons p u =>
      cases o with
      | none =>
        cases i with
        | zero => simp at h
        | succ i => simpa using ih (L := u) hs i v (by simpa using h)
      | some w =>
        obtain ⟨h1, h2⟩ := hs
        cases i with
        | zero => simp at h; subst h; simpa using h1
        | succ i => simpa using ih (L := u) h2 i v (by simpa using h)
