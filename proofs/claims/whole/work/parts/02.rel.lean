/-! numbers, and the relation -/
theorem li_let0 {a : Nat} (h : 0 ≤ a) (ha : a < 2147483648) : (((0 : Int32) ≤ nI a)) = True := eq_true (nI_le (a := 0) h ha)
theorem li_lef0 {a : Nat} (h : a < 0) : (((0 : Int32) ≤ nI a)) = False := eq_false (nI_ge (b := 0) h (by decide))
theorem li_get0 {a : Nat} (h : a ≤ 0) : ((nI a ≤ (0 : Int32))) = True := eq_true (nI_le (b := 0) h (by decide))
theorem li_gef0 {a : Nat} (h : 0 < a) (ha : a < 2147483648) : ((nI a ≤ (0 : Int32))) = False := eq_false (nI_ge (a := 0) h ha)
theorem li_ltt0 {a : Nat} (h : a < 0) : ((nI a < (0 : Int32))) = True := eq_true (nI_lt (b := 0) h (by decide))
theorem li_ltf0 {a : Nat} (h : 0 ≤ a) (ha : a < 2147483648) : ((nI a < (0 : Int32))) = False := eq_false (nI_nlt (b := 0) h ha)
theorem li_gtt0 {a : Nat} (h : 0 < a) (ha : a < 2147483648) : (((0 : Int32) < nI a)) = True := eq_true (nI_lt (a := 0) h ha)
theorem li_gtf0 {a : Nat} (h : a ≤ 0) : (((0 : Int32) < nI a)) = False := eq_false (nI_nlt (a := 0) h (by decide))
theorem li_eqt0 {a : Nat} (h : a = 0) : ((nI a = (0 : Int32))) = True := eq_true (h ▸ rfl)
theorem li_eqf0 {a : Nat} (h : ¬ a = 0) (ha : a < 2147483648) : ((nI a = (0 : Int32))) = False := eq_false (fun e => h ((nI_eq (b := 0) ha (by decide)).mp e))
theorem li_let1 {a : Nat} (h : 1 ≤ a) (ha : a < 2147483648) : (((1 : Int32) ≤ nI a)) = True := eq_true (nI_le (a := 1) h ha)
theorem li_lef1 {a : Nat} (h : a < 1) : (((1 : Int32) ≤ nI a)) = False := eq_false (nI_ge (b := 1) h (by decide))
theorem li_get1 {a : Nat} (h : a ≤ 1) : ((nI a ≤ (1 : Int32))) = True := eq_true (nI_le (b := 1) h (by decide))
theorem li_gef1 {a : Nat} (h : 1 < a) (ha : a < 2147483648) : ((nI a ≤ (1 : Int32))) = False := eq_false (nI_ge (a := 1) h ha)
theorem li_ltt1 {a : Nat} (h : a < 1) : ((nI a < (1 : Int32))) = True := eq_true (nI_lt (b := 1) h (by decide))
theorem li_ltf1 {a : Nat} (h : 1 ≤ a) (ha : a < 2147483648) : ((nI a < (1 : Int32))) = False := eq_false (nI_nlt (b := 1) h ha)
theorem li_gtt1 {a : Nat} (h : 1 < a) (ha : a < 2147483648) : (((1 : Int32) < nI a)) = True := eq_true (nI_lt (a := 1) h ha)
theorem li_gtf1 {a : Nat} (h : a ≤ 1) : (((1 : Int32) < nI a)) = False := eq_false (nI_nlt (a := 1) h (by decide))
theorem li_eqt1 {a : Nat} (h : a = 1) : ((nI a = (1 : Int32))) = True := eq_true (h ▸ rfl)
theorem li_eqf1 {a : Nat} (h : ¬ a = 1) (ha : a < 2147483648) : ((nI a = (1 : Int32))) = False := eq_false (fun e => h ((nI_eq (b := 1) ha (by decide)).mp e))
theorem li_let2 {a : Nat} (h : 2 ≤ a) (ha : a < 2147483648) : (((2 : Int32) ≤ nI a)) = True := eq_true (nI_le (a := 2) h ha)
theorem li_lef2 {a : Nat} (h : a < 2) : (((2 : Int32) ≤ nI a)) = False := eq_false (nI_ge (b := 2) h (by decide))
theorem li_get2 {a : Nat} (h : a ≤ 2) : ((nI a ≤ (2 : Int32))) = True := eq_true (nI_le (b := 2) h (by decide))
theorem li_gef2 {a : Nat} (h : 2 < a) (ha : a < 2147483648) : ((nI a ≤ (2 : Int32))) = False := eq_false (nI_ge (a := 2) h ha)
theorem li_ltt2 {a : Nat} (h : a < 2) : ((nI a < (2 : Int32))) = True := eq_true (nI_lt (b := 2) h (by decide))
theorem li_ltf2 {a : Nat} (h : 2 ≤ a) (ha : a < 2147483648) : ((nI a < (2 : Int32))) = False := eq_false (nI_nlt (b := 2) h ha)
theorem li_gtt2 {a : Nat} (h : 2 < a) (ha : a < 2147483648) : (((2 : Int32) < nI a)) = True := eq_true (nI_lt (a := 2) h ha)
theorem li_gtf2 {a : Nat} (h : a ≤ 2) : (((2 : Int32) < nI a)) = False := eq_false (nI_nlt (a := 2) h (by decide))
theorem li_eqt2 {a : Nat} (h : a = 2) : ((nI a = (2 : Int32))) = True := eq_true (h ▸ rfl)
theorem li_eqf2 {a : Nat} (h : ¬ a = 2) (ha : a < 2147483648) : ((nI a = (2 : Int32))) = False := eq_false (fun e => h ((nI_eq (b := 2) ha (by decide)).mp e))
theorem li_let3 {a : Nat} (h : 3 ≤ a) (ha : a < 2147483648) : (((3 : Int32) ≤ nI a)) = True := eq_true (nI_le (a := 3) h ha)
theorem li_lef3 {a : Nat} (h : a < 3) : (((3 : Int32) ≤ nI a)) = False := eq_false (nI_ge (b := 3) h (by decide))
theorem li_get3 {a : Nat} (h : a ≤ 3) : ((nI a ≤ (3 : Int32))) = True := eq_true (nI_le (b := 3) h (by decide))
theorem li_gef3 {a : Nat} (h : 3 < a) (ha : a < 2147483648) : ((nI a ≤ (3 : Int32))) = False := eq_false (nI_ge (a := 3) h ha)
theorem li_ltt3 {a : Nat} (h : a < 3) : ((nI a < (3 : Int32))) = True := eq_true (nI_lt (b := 3) h (by decide))
theorem li_ltf3 {a : Nat} (h : 3 ≤ a) (ha : a < 2147483648) : ((nI a < (3 : Int32))) = False := eq_false (nI_nlt (b := 3) h ha)
theorem li_gtt3 {a : Nat} (h : 3 < a) (ha : a < 2147483648) : (((3 : Int32) < nI a)) = True := eq_true (nI_lt (a := 3) h ha)
theorem li_gtf3 {a : Nat} (h : a ≤ 3) : (((3 : Int32) < nI a)) = False := eq_false (nI_nlt (a := 3) h (by decide))
theorem li_eqt3 {a : Nat} (h : a = 3) : ((nI a = (3 : Int32))) = True := eq_true (h ▸ rfl)
theorem li_eqf3 {a : Nat} (h : ¬ a = 3) (ha : a < 2147483648) : ((nI a = (3 : Int32))) = False := eq_false (fun e => h ((nI_eq (b := 3) ha (by decide)).mp e))
theorem li_let4 {a : Nat} (h : 4 ≤ a) (ha : a < 2147483648) : (((4 : Int32) ≤ nI a)) = True := eq_true (nI_le (a := 4) h ha)
theorem li_lef4 {a : Nat} (h : a < 4) : (((4 : Int32) ≤ nI a)) = False := eq_false (nI_ge (b := 4) h (by decide))
theorem li_get4 {a : Nat} (h : a ≤ 4) : ((nI a ≤ (4 : Int32))) = True := eq_true (nI_le (b := 4) h (by decide))
theorem li_gef4 {a : Nat} (h : 4 < a) (ha : a < 2147483648) : ((nI a ≤ (4 : Int32))) = False := eq_false (nI_ge (a := 4) h ha)
theorem li_ltt4 {a : Nat} (h : a < 4) : ((nI a < (4 : Int32))) = True := eq_true (nI_lt (b := 4) h (by decide))
theorem li_ltf4 {a : Nat} (h : 4 ≤ a) (ha : a < 2147483648) : ((nI a < (4 : Int32))) = False := eq_false (nI_nlt (b := 4) h ha)
theorem li_gtt4 {a : Nat} (h : 4 < a) (ha : a < 2147483648) : (((4 : Int32) < nI a)) = True := eq_true (nI_lt (a := 4) h ha)
theorem li_gtf4 {a : Nat} (h : a ≤ 4) : (((4 : Int32) < nI a)) = False := eq_false (nI_nlt (a := 4) h (by decide))
theorem li_eqt4 {a : Nat} (h : a = 4) : ((nI a = (4 : Int32))) = True := eq_true (h ▸ rfl)
theorem li_eqf4 {a : Nat} (h : ¬ a = 4) (ha : a < 2147483648) : ((nI a = (4 : Int32))) = False := eq_false (fun e => h ((nI_eq (b := 4) ha (by decide)).mp e))
theorem li_let5 {a : Nat} (h : 5 ≤ a) (ha : a < 2147483648) : (((5 : Int32) ≤ nI a)) = True := eq_true (nI_le (a := 5) h ha)
theorem li_lef5 {a : Nat} (h : a < 5) : (((5 : Int32) ≤ nI a)) = False := eq_false (nI_ge (b := 5) h (by decide))
theorem li_get5 {a : Nat} (h : a ≤ 5) : ((nI a ≤ (5 : Int32))) = True := eq_true (nI_le (b := 5) h (by decide))
theorem li_gef5 {a : Nat} (h : 5 < a) (ha : a < 2147483648) : ((nI a ≤ (5 : Int32))) = False := eq_false (nI_ge (a := 5) h ha)
theorem li_ltt5 {a : Nat} (h : a < 5) : ((nI a < (5 : Int32))) = True := eq_true (nI_lt (b := 5) h (by decide))
theorem li_ltf5 {a : Nat} (h : 5 ≤ a) (ha : a < 2147483648) : ((nI a < (5 : Int32))) = False := eq_false (nI_nlt (b := 5) h ha)
theorem li_gtt5 {a : Nat} (h : 5 < a) (ha : a < 2147483648) : (((5 : Int32) < nI a)) = True := eq_true (nI_lt (a := 5) h ha)
theorem li_gtf5 {a : Nat} (h : a ≤ 5) : (((5 : Int32) < nI a)) = False := eq_false (nI_nlt (a := 5) h (by decide))
theorem li_eqt5 {a : Nat} (h : a = 5) : ((nI a = (5 : Int32))) = True := eq_true (h ▸ rfl)
theorem li_eqf5 {a : Nat} (h : ¬ a = 5) (ha : a < 2147483648) : ((nI a = (5 : Int32))) = False := eq_false (fun e => h ((nI_eq (b := 5) ha (by decide)).mp e))
theorem li_let6 {a : Nat} (h : 6 ≤ a) (ha : a < 2147483648) : (((6 : Int32) ≤ nI a)) = True := eq_true (nI_le (a := 6) h ha)
theorem li_lef6 {a : Nat} (h : a < 6) : (((6 : Int32) ≤ nI a)) = False := eq_false (nI_ge (b := 6) h (by decide))
theorem li_get6 {a : Nat} (h : a ≤ 6) : ((nI a ≤ (6 : Int32))) = True := eq_true (nI_le (b := 6) h (by decide))
theorem li_gef6 {a : Nat} (h : 6 < a) (ha : a < 2147483648) : ((nI a ≤ (6 : Int32))) = False := eq_false (nI_ge (a := 6) h ha)
theorem li_ltt6 {a : Nat} (h : a < 6) : ((nI a < (6 : Int32))) = True := eq_true (nI_lt (b := 6) h (by decide))
theorem li_ltf6 {a : Nat} (h : 6 ≤ a) (ha : a < 2147483648) : ((nI a < (6 : Int32))) = False := eq_false (nI_nlt (b := 6) h ha)
theorem li_gtt6 {a : Nat} (h : 6 < a) (ha : a < 2147483648) : (((6 : Int32) < nI a)) = True := eq_true (nI_lt (a := 6) h ha)
theorem li_gtf6 {a : Nat} (h : a ≤ 6) : (((6 : Int32) < nI a)) = False := eq_false (nI_nlt (a := 6) h (by decide))
theorem li_eqt6 {a : Nat} (h : a = 6) : ((nI a = (6 : Int32))) = True := eq_true (h ▸ rfl)
theorem li_eqf6 {a : Nat} (h : ¬ a = 6) (ha : a < 2147483648) : ((nI a = (6 : Int32))) = False := eq_false (fun e => h ((nI_eq (b := 6) ha (by decide)).mp e))
theorem li_let7 {a : Nat} (h : 7 ≤ a) (ha : a < 2147483648) : (((7 : Int32) ≤ nI a)) = True := eq_true (nI_le (a := 7) h ha)
theorem li_lef7 {a : Nat} (h : a < 7) : (((7 : Int32) ≤ nI a)) = False := eq_false (nI_ge (b := 7) h (by decide))
theorem li_get7 {a : Nat} (h : a ≤ 7) : ((nI a ≤ (7 : Int32))) = True := eq_true (nI_le (b := 7) h (by decide))
theorem li_gef7 {a : Nat} (h : 7 < a) (ha : a < 2147483648) : ((nI a ≤ (7 : Int32))) = False := eq_false (nI_ge (a := 7) h ha)
theorem li_ltt7 {a : Nat} (h : a < 7) : ((nI a < (7 : Int32))) = True := eq_true (nI_lt (b := 7) h (by decide))
theorem li_ltf7 {a : Nat} (h : 7 ≤ a) (ha : a < 2147483648) : ((nI a < (7 : Int32))) = False := eq_false (nI_nlt (b := 7) h ha)
theorem li_gtt7 {a : Nat} (h : 7 < a) (ha : a < 2147483648) : (((7 : Int32) < nI a)) = True := eq_true (nI_lt (a := 7) h ha)
theorem li_gtf7 {a : Nat} (h : a ≤ 7) : (((7 : Int32) < nI a)) = False := eq_false (nI_nlt (a := 7) h (by decide))
theorem li_eqt7 {a : Nat} (h : a = 7) : ((nI a = (7 : Int32))) = True := eq_true (h ▸ rfl)
theorem li_eqf7 {a : Nat} (h : ¬ a = 7) (ha : a < 2147483648) : ((nI a = (7 : Int32))) = False := eq_false (fun e => h ((nI_eq (b := 7) ha (by decide)).mp e))
theorem li_let8 {a : Nat} (h : 8 ≤ a) (ha : a < 2147483648) : (((8 : Int32) ≤ nI a)) = True := eq_true (nI_le (a := 8) h ha)
theorem li_lef8 {a : Nat} (h : a < 8) : (((8 : Int32) ≤ nI a)) = False := eq_false (nI_ge (b := 8) h (by decide))
theorem li_get8 {a : Nat} (h : a ≤ 8) : ((nI a ≤ (8 : Int32))) = True := eq_true (nI_le (b := 8) h (by decide))
theorem li_gef8 {a : Nat} (h : 8 < a) (ha : a < 2147483648) : ((nI a ≤ (8 : Int32))) = False := eq_false (nI_ge (a := 8) h ha)
theorem li_ltt8 {a : Nat} (h : a < 8) : ((nI a < (8 : Int32))) = True := eq_true (nI_lt (b := 8) h (by decide))
theorem li_ltf8 {a : Nat} (h : 8 ≤ a) (ha : a < 2147483648) : ((nI a < (8 : Int32))) = False := eq_false (nI_nlt (b := 8) h ha)
theorem li_gtt8 {a : Nat} (h : 8 < a) (ha : a < 2147483648) : (((8 : Int32) < nI a)) = True := eq_true (nI_lt (a := 8) h ha)
theorem li_gtf8 {a : Nat} (h : a ≤ 8) : (((8 : Int32) < nI a)) = False := eq_false (nI_nlt (a := 8) h (by decide))
theorem li_eqt8 {a : Nat} (h : a = 8) : ((nI a = (8 : Int32))) = True := eq_true (h ▸ rfl)
theorem li_eqf8 {a : Nat} (h : ¬ a = 8) (ha : a < 2147483648) : ((nI a = (8 : Int32))) = False := eq_false (fun e => h ((nI_eq (b := 8) ha (by decide)).mp e))
theorem li_let9 {a : Nat} (h : 9 ≤ a) (ha : a < 2147483648) : (((9 : Int32) ≤ nI a)) = True := eq_true (nI_le (a := 9) h ha)
theorem li_lef9 {a : Nat} (h : a < 9) : (((9 : Int32) ≤ nI a)) = False := eq_false (nI_ge (b := 9) h (by decide))
theorem li_get9 {a : Nat} (h : a ≤ 9) : ((nI a ≤ (9 : Int32))) = True := eq_true (nI_le (b := 9) h (by decide))
theorem li_gef9 {a : Nat} (h : 9 < a) (ha : a < 2147483648) : ((nI a ≤ (9 : Int32))) = False := eq_false (nI_ge (a := 9) h ha)
theorem li_ltt9 {a : Nat} (h : a < 9) : ((nI a < (9 : Int32))) = True := eq_true (nI_lt (b := 9) h (by decide))
theorem li_ltf9 {a : Nat} (h : 9 ≤ a) (ha : a < 2147483648) : ((nI a < (9 : Int32))) = False := eq_false (nI_nlt (b := 9) h ha)
theorem li_gtt9 {a : Nat} (h : 9 < a) (ha : a < 2147483648) : (((9 : Int32) < nI a)) = True := eq_true (nI_lt (a := 9) h ha)
theorem li_gtf9 {a : Nat} (h : a ≤ 9) : (((9 : Int32) < nI a)) = False := eq_false (nI_nlt (a := 9) h (by decide))
theorem li_eqt9 {a : Nat} (h : a = 9) : ((nI a = (9 : Int32))) = True := eq_true (h ▸ rfl)
theorem li_eqf9 {a : Nat} (h : ¬ a = 9) (ha : a < 2147483648) : ((nI a = (9 : Int32))) = False := eq_false (fun e => h ((nI_eq (b := 9) ha (by decide)).mp e))
theorem li_let10 {a : Nat} (h : 10 ≤ a) (ha : a < 2147483648) : (((10 : Int32) ≤ nI a)) = True := eq_true (nI_le (a := 10) h ha)
theorem li_lef10 {a : Nat} (h : a < 10) : (((10 : Int32) ≤ nI a)) = False := eq_false (nI_ge (b := 10) h (by decide))
theorem li_get10 {a : Nat} (h : a ≤ 10) : ((nI a ≤ (10 : Int32))) = True := eq_true (nI_le (b := 10) h (by decide))
theorem li_gef10 {a : Nat} (h : 10 < a) (ha : a < 2147483648) : ((nI a ≤ (10 : Int32))) = False := eq_false (nI_ge (a := 10) h ha)
theorem li_ltt10 {a : Nat} (h : a < 10) : ((nI a < (10 : Int32))) = True := eq_true (nI_lt (b := 10) h (by decide))
theorem li_ltf10 {a : Nat} (h : 10 ≤ a) (ha : a < 2147483648) : ((nI a < (10 : Int32))) = False := eq_false (nI_nlt (b := 10) h ha)
theorem li_gtt10 {a : Nat} (h : 10 < a) (ha : a < 2147483648) : (((10 : Int32) < nI a)) = True := eq_true (nI_lt (a := 10) h ha)
theorem li_gtf10 {a : Nat} (h : a ≤ 10) : (((10 : Int32) < nI a)) = False := eq_false (nI_nlt (a := 10) h (by decide))
theorem li_eqt10 {a : Nat} (h : a = 10) : ((nI a = (10 : Int32))) = True := eq_true (h ▸ rfl)
theorem li_eqf10 {a : Nat} (h : ¬ a = 10) (ha : a < 2147483648) : ((nI a = (10 : Int32))) = False := eq_false (fun e => h ((nI_eq (b := 10) ha (by decide)).mp e))
theorem li_let11 {a : Nat} (h : 11 ≤ a) (ha : a < 2147483648) : (((11 : Int32) ≤ nI a)) = True := eq_true (nI_le (a := 11) h ha)
theorem li_lef11 {a : Nat} (h : a < 11) : (((11 : Int32) ≤ nI a)) = False := eq_false (nI_ge (b := 11) h (by decide))
theorem li_get11 {a : Nat} (h : a ≤ 11) : ((nI a ≤ (11 : Int32))) = True := eq_true (nI_le (b := 11) h (by decide))
theorem li_gef11 {a : Nat} (h : 11 < a) (ha : a < 2147483648) : ((nI a ≤ (11 : Int32))) = False := eq_false (nI_ge (a := 11) h ha)
theorem li_ltt11 {a : Nat} (h : a < 11) : ((nI a < (11 : Int32))) = True := eq_true (nI_lt (b := 11) h (by decide))
theorem li_ltf11 {a : Nat} (h : 11 ≤ a) (ha : a < 2147483648) : ((nI a < (11 : Int32))) = False := eq_false (nI_nlt (b := 11) h ha)
theorem li_gtt11 {a : Nat} (h : 11 < a) (ha : a < 2147483648) : (((11 : Int32) < nI a)) = True := eq_true (nI_lt (a := 11) h ha)
theorem li_gtf11 {a : Nat} (h : a ≤ 11) : (((11 : Int32) < nI a)) = False := eq_false (nI_nlt (a := 11) h (by decide))
theorem li_eqt11 {a : Nat} (h : a = 11) : ((nI a = (11 : Int32))) = True := eq_true (h ▸ rfl)
theorem li_eqf11 {a : Nat} (h : ¬ a = 11) (ha : a < 2147483648) : ((nI a = (11 : Int32))) = False := eq_false (fun e => h ((nI_eq (b := 11) ha (by decide)).mp e))
theorem li_let12 {a : Nat} (h : 12 ≤ a) (ha : a < 2147483648) : (((12 : Int32) ≤ nI a)) = True := eq_true (nI_le (a := 12) h ha)
theorem li_lef12 {a : Nat} (h : a < 12) : (((12 : Int32) ≤ nI a)) = False := eq_false (nI_ge (b := 12) h (by decide))
theorem li_get12 {a : Nat} (h : a ≤ 12) : ((nI a ≤ (12 : Int32))) = True := eq_true (nI_le (b := 12) h (by decide))
theorem li_gef12 {a : Nat} (h : 12 < a) (ha : a < 2147483648) : ((nI a ≤ (12 : Int32))) = False := eq_false (nI_ge (a := 12) h ha)
theorem li_ltt12 {a : Nat} (h : a < 12) : ((nI a < (12 : Int32))) = True := eq_true (nI_lt (b := 12) h (by decide))
theorem li_ltf12 {a : Nat} (h : 12 ≤ a) (ha : a < 2147483648) : ((nI a < (12 : Int32))) = False := eq_false (nI_nlt (b := 12) h ha)
theorem li_gtt12 {a : Nat} (h : 12 < a) (ha : a < 2147483648) : (((12 : Int32) < nI a)) = True := eq_true (nI_lt (a := 12) h ha)
theorem li_gtf12 {a : Nat} (h : a ≤ 12) : (((12 : Int32) < nI a)) = False := eq_false (nI_nlt (a := 12) h (by decide))
theorem li_eqt12 {a : Nat} (h : a = 12) : ((nI a = (12 : Int32))) = True := eq_true (h ▸ rfl)
theorem li_eqf12 {a : Nat} (h : ¬ a = 12) (ha : a < 2147483648) : ((nI a = (12 : Int32))) = False := eq_false (fun e => h ((nI_eq (b := 12) ha (by decide)).mp e))
theorem li_let13 {a : Nat} (h : 13 ≤ a) (ha : a < 2147483648) : (((13 : Int32) ≤ nI a)) = True := eq_true (nI_le (a := 13) h ha)
theorem li_lef13 {a : Nat} (h : a < 13) : (((13 : Int32) ≤ nI a)) = False := eq_false (nI_ge (b := 13) h (by decide))
theorem li_get13 {a : Nat} (h : a ≤ 13) : ((nI a ≤ (13 : Int32))) = True := eq_true (nI_le (b := 13) h (by decide))
theorem li_gef13 {a : Nat} (h : 13 < a) (ha : a < 2147483648) : ((nI a ≤ (13 : Int32))) = False := eq_false (nI_ge (a := 13) h ha)
theorem li_ltt13 {a : Nat} (h : a < 13) : ((nI a < (13 : Int32))) = True := eq_true (nI_lt (b := 13) h (by decide))
theorem li_ltf13 {a : Nat} (h : 13 ≤ a) (ha : a < 2147483648) : ((nI a < (13 : Int32))) = False := eq_false (nI_nlt (b := 13) h ha)
theorem li_gtt13 {a : Nat} (h : 13 < a) (ha : a < 2147483648) : (((13 : Int32) < nI a)) = True := eq_true (nI_lt (a := 13) h ha)
theorem li_gtf13 {a : Nat} (h : a ≤ 13) : (((13 : Int32) < nI a)) = False := eq_false (nI_nlt (a := 13) h (by decide))
theorem li_eqt13 {a : Nat} (h : a = 13) : ((nI a = (13 : Int32))) = True := eq_true (h ▸ rfl)
theorem li_eqf13 {a : Nat} (h : ¬ a = 13) (ha : a < 2147483648) : ((nI a = (13 : Int32))) = False := eq_false (fun e => h ((nI_eq (b := 13) ha (by decide)).mp e))
theorem li_let14 {a : Nat} (h : 14 ≤ a) (ha : a < 2147483648) : (((14 : Int32) ≤ nI a)) = True := eq_true (nI_le (a := 14) h ha)
theorem li_lef14 {a : Nat} (h : a < 14) : (((14 : Int32) ≤ nI a)) = False := eq_false (nI_ge (b := 14) h (by decide))
theorem li_get14 {a : Nat} (h : a ≤ 14) : ((nI a ≤ (14 : Int32))) = True := eq_true (nI_le (b := 14) h (by decide))
theorem li_gef14 {a : Nat} (h : 14 < a) (ha : a < 2147483648) : ((nI a ≤ (14 : Int32))) = False := eq_false (nI_ge (a := 14) h ha)
theorem li_ltt14 {a : Nat} (h : a < 14) : ((nI a < (14 : Int32))) = True := eq_true (nI_lt (b := 14) h (by decide))
theorem li_ltf14 {a : Nat} (h : 14 ≤ a) (ha : a < 2147483648) : ((nI a < (14 : Int32))) = False := eq_false (nI_nlt (b := 14) h ha)
theorem li_gtt14 {a : Nat} (h : 14 < a) (ha : a < 2147483648) : (((14 : Int32) < nI a)) = True := eq_true (nI_lt (a := 14) h ha)
theorem li_gtf14 {a : Nat} (h : a ≤ 14) : (((14 : Int32) < nI a)) = False := eq_false (nI_nlt (a := 14) h (by decide))
theorem li_eqt14 {a : Nat} (h : a = 14) : ((nI a = (14 : Int32))) = True := eq_true (h ▸ rfl)
theorem li_eqf14 {a : Nat} (h : ¬ a = 14) (ha : a < 2147483648) : ((nI a = (14 : Int32))) = False := eq_false (fun e => h ((nI_eq (b := 14) ha (by decide)).mp e))
theorem li_let24 {a : Nat} (h : 24 ≤ a) (ha : a < 2147483648) : (((24 : Int32) ≤ nI a)) = True := eq_true (nI_le (a := 24) h ha)
theorem li_lef24 {a : Nat} (h : a < 24) : (((24 : Int32) ≤ nI a)) = False := eq_false (nI_ge (b := 24) h (by decide))
theorem li_get24 {a : Nat} (h : a ≤ 24) : ((nI a ≤ (24 : Int32))) = True := eq_true (nI_le (b := 24) h (by decide))
theorem li_gef24 {a : Nat} (h : 24 < a) (ha : a < 2147483648) : ((nI a ≤ (24 : Int32))) = False := eq_false (nI_ge (a := 24) h ha)
theorem li_ltt24 {a : Nat} (h : a < 24) : ((nI a < (24 : Int32))) = True := eq_true (nI_lt (b := 24) h (by decide))
theorem li_ltf24 {a : Nat} (h : 24 ≤ a) (ha : a < 2147483648) : ((nI a < (24 : Int32))) = False := eq_false (nI_nlt (b := 24) h ha)
theorem li_gtt24 {a : Nat} (h : 24 < a) (ha : a < 2147483648) : (((24 : Int32) < nI a)) = True := eq_true (nI_lt (a := 24) h ha)
theorem li_gtf24 {a : Nat} (h : a ≤ 24) : (((24 : Int32) < nI a)) = False := eq_false (nI_nlt (a := 24) h (by decide))
theorem li_eqt24 {a : Nat} (h : a = 24) : ((nI a = (24 : Int32))) = True := eq_true (h ▸ rfl)
theorem li_eqf24 {a : Nat} (h : ¬ a = 24) (ha : a < 2147483648) : ((nI a = (24 : Int32))) = False := eq_false (fun e => h ((nI_eq (b := 24) ha (by decide)).mp e))
theorem li_let25 {a : Nat} (h : 25 ≤ a) (ha : a < 2147483648) : (((25 : Int32) ≤ nI a)) = True := eq_true (nI_le (a := 25) h ha)
theorem li_lef25 {a : Nat} (h : a < 25) : (((25 : Int32) ≤ nI a)) = False := eq_false (nI_ge (b := 25) h (by decide))
theorem li_get25 {a : Nat} (h : a ≤ 25) : ((nI a ≤ (25 : Int32))) = True := eq_true (nI_le (b := 25) h (by decide))
theorem li_gef25 {a : Nat} (h : 25 < a) (ha : a < 2147483648) : ((nI a ≤ (25 : Int32))) = False := eq_false (nI_ge (a := 25) h ha)
theorem li_ltt25 {a : Nat} (h : a < 25) : ((nI a < (25 : Int32))) = True := eq_true (nI_lt (b := 25) h (by decide))
theorem li_ltf25 {a : Nat} (h : 25 ≤ a) (ha : a < 2147483648) : ((nI a < (25 : Int32))) = False := eq_false (nI_nlt (b := 25) h ha)
theorem li_gtt25 {a : Nat} (h : 25 < a) (ha : a < 2147483648) : (((25 : Int32) < nI a)) = True := eq_true (nI_lt (a := 25) h ha)
theorem li_gtf25 {a : Nat} (h : a ≤ 25) : (((25 : Int32) < nI a)) = False := eq_false (nI_nlt (a := 25) h (by decide))
theorem li_eqt25 {a : Nat} (h : a = 25) : ((nI a = (25 : Int32))) = True := eq_true (h ▸ rfl)
theorem li_eqf25 {a : Nat} (h : ¬ a = 25) (ha : a < 2147483648) : ((nI a = (25 : Int32))) = False := eq_false (fun e => h ((nI_eq (b := 25) ha (by decide)).mp e))
theorem li_let30 {a : Nat} (h : 30 ≤ a) (ha : a < 2147483648) : (((30 : Int32) ≤ nI a)) = True := eq_true (nI_le (a := 30) h ha)
theorem li_lef30 {a : Nat} (h : a < 30) : (((30 : Int32) ≤ nI a)) = False := eq_false (nI_ge (b := 30) h (by decide))
theorem li_get30 {a : Nat} (h : a ≤ 30) : ((nI a ≤ (30 : Int32))) = True := eq_true (nI_le (b := 30) h (by decide))
theorem li_gef30 {a : Nat} (h : 30 < a) (ha : a < 2147483648) : ((nI a ≤ (30 : Int32))) = False := eq_false (nI_ge (a := 30) h ha)
theorem li_ltt30 {a : Nat} (h : a < 30) : ((nI a < (30 : Int32))) = True := eq_true (nI_lt (b := 30) h (by decide))
theorem li_ltf30 {a : Nat} (h : 30 ≤ a) (ha : a < 2147483648) : ((nI a < (30 : Int32))) = False := eq_false (nI_nlt (b := 30) h ha)
theorem li_gtt30 {a : Nat} (h : 30 < a) (ha : a < 2147483648) : (((30 : Int32) < nI a)) = True := eq_true (nI_lt (a := 30) h ha)
theorem li_gtf30 {a : Nat} (h : a ≤ 30) : (((30 : Int32) < nI a)) = False := eq_false (nI_nlt (a := 30) h (by decide))
theorem li_eqt30 {a : Nat} (h : a = 30) : ((nI a = (30 : Int32))) = True := eq_true (h ▸ rfl)
theorem li_eqf30 {a : Nat} (h : ¬ a = 30) (ha : a < 2147483648) : ((nI a = (30 : Int32))) = False := eq_false (fun e => h ((nI_eq (b := 30) ha (by decide)).mp e))
theorem li_let36 {a : Nat} (h : 36 ≤ a) (ha : a < 2147483648) : (((36 : Int32) ≤ nI a)) = True := eq_true (nI_le (a := 36) h ha)
theorem li_lef36 {a : Nat} (h : a < 36) : (((36 : Int32) ≤ nI a)) = False := eq_false (nI_ge (b := 36) h (by decide))
theorem li_get36 {a : Nat} (h : a ≤ 36) : ((nI a ≤ (36 : Int32))) = True := eq_true (nI_le (b := 36) h (by decide))
theorem li_gef36 {a : Nat} (h : 36 < a) (ha : a < 2147483648) : ((nI a ≤ (36 : Int32))) = False := eq_false (nI_ge (a := 36) h ha)
theorem li_ltt36 {a : Nat} (h : a < 36) : ((nI a < (36 : Int32))) = True := eq_true (nI_lt (b := 36) h (by decide))
theorem li_ltf36 {a : Nat} (h : 36 ≤ a) (ha : a < 2147483648) : ((nI a < (36 : Int32))) = False := eq_false (nI_nlt (b := 36) h ha)
theorem li_gtt36 {a : Nat} (h : 36 < a) (ha : a < 2147483648) : (((36 : Int32) < nI a)) = True := eq_true (nI_lt (a := 36) h ha)
theorem li_gtf36 {a : Nat} (h : a ≤ 36) : (((36 : Int32) < nI a)) = False := eq_false (nI_nlt (a := 36) h (by decide))
theorem li_eqt36 {a : Nat} (h : a = 36) : ((nI a = (36 : Int32))) = True := eq_true (h ▸ rfl)
theorem li_eqf36 {a : Nat} (h : ¬ a = 36) (ha : a < 2147483648) : ((nI a = (36 : Int32))) = False := eq_false (fun e => h ((nI_eq (b := 36) ha (by decide)).mp e))
theorem li_let40 {a : Nat} (h : 40 ≤ a) (ha : a < 2147483648) : (((40 : Int32) ≤ nI a)) = True := eq_true (nI_le (a := 40) h ha)
theorem li_lef40 {a : Nat} (h : a < 40) : (((40 : Int32) ≤ nI a)) = False := eq_false (nI_ge (b := 40) h (by decide))
theorem li_get40 {a : Nat} (h : a ≤ 40) : ((nI a ≤ (40 : Int32))) = True := eq_true (nI_le (b := 40) h (by decide))
theorem li_gef40 {a : Nat} (h : 40 < a) (ha : a < 2147483648) : ((nI a ≤ (40 : Int32))) = False := eq_false (nI_ge (a := 40) h ha)
theorem li_ltt40 {a : Nat} (h : a < 40) : ((nI a < (40 : Int32))) = True := eq_true (nI_lt (b := 40) h (by decide))
theorem li_ltf40 {a : Nat} (h : 40 ≤ a) (ha : a < 2147483648) : ((nI a < (40 : Int32))) = False := eq_false (nI_nlt (b := 40) h ha)
theorem li_gtt40 {a : Nat} (h : 40 < a) (ha : a < 2147483648) : (((40 : Int32) < nI a)) = True := eq_true (nI_lt (a := 40) h ha)
theorem li_gtf40 {a : Nat} (h : a ≤ 40) : (((40 : Int32) < nI a)) = False := eq_false (nI_nlt (a := 40) h (by decide))
theorem li_eqt40 {a : Nat} (h : a = 40) : ((nI a = (40 : Int32))) = True := eq_true (h ▸ rfl)
theorem li_eqf40 {a : Nat} (h : ¬ a = 40) (ha : a < 2147483648) : ((nI a = (40 : Int32))) = False := eq_false (fun e => h ((nI_eq (b := 40) ha (by decide)).mp e))
theorem li_let60 {a : Nat} (h : 60 ≤ a) (ha : a < 2147483648) : (((60 : Int32) ≤ nI a)) = True := eq_true (nI_le (a := 60) h ha)
theorem li_lef60 {a : Nat} (h : a < 60) : (((60 : Int32) ≤ nI a)) = False := eq_false (nI_ge (b := 60) h (by decide))
theorem li_get60 {a : Nat} (h : a ≤ 60) : ((nI a ≤ (60 : Int32))) = True := eq_true (nI_le (b := 60) h (by decide))
theorem li_gef60 {a : Nat} (h : 60 < a) (ha : a < 2147483648) : ((nI a ≤ (60 : Int32))) = False := eq_false (nI_ge (a := 60) h ha)
theorem li_ltt60 {a : Nat} (h : a < 60) : ((nI a < (60 : Int32))) = True := eq_true (nI_lt (b := 60) h (by decide))
theorem li_ltf60 {a : Nat} (h : 60 ≤ a) (ha : a < 2147483648) : ((nI a < (60 : Int32))) = False := eq_false (nI_nlt (b := 60) h ha)
theorem li_gtt60 {a : Nat} (h : 60 < a) (ha : a < 2147483648) : (((60 : Int32) < nI a)) = True := eq_true (nI_lt (a := 60) h ha)
theorem li_gtf60 {a : Nat} (h : a ≤ 60) : (((60 : Int32) < nI a)) = False := eq_false (nI_nlt (a := 60) h (by decide))
theorem li_eqt60 {a : Nat} (h : a = 60) : ((nI a = (60 : Int32))) = True := eq_true (h ▸ rfl)
theorem li_eqf60 {a : Nat} (h : ¬ a = 60) (ha : a < 2147483648) : ((nI a = (60 : Int32))) = False := eq_false (fun e => h ((nI_eq (b := 60) ha (by decide)).mp e))
theorem li_let84 {a : Nat} (h : 84 ≤ a) (ha : a < 2147483648) : (((84 : Int32) ≤ nI a)) = True := eq_true (nI_le (a := 84) h ha)
theorem li_lef84 {a : Nat} (h : a < 84) : (((84 : Int32) ≤ nI a)) = False := eq_false (nI_ge (b := 84) h (by decide))
theorem li_get84 {a : Nat} (h : a ≤ 84) : ((nI a ≤ (84 : Int32))) = True := eq_true (nI_le (b := 84) h (by decide))
theorem li_gef84 {a : Nat} (h : 84 < a) (ha : a < 2147483648) : ((nI a ≤ (84 : Int32))) = False := eq_false (nI_ge (a := 84) h ha)
theorem li_ltt84 {a : Nat} (h : a < 84) : ((nI a < (84 : Int32))) = True := eq_true (nI_lt (b := 84) h (by decide))
theorem li_ltf84 {a : Nat} (h : 84 ≤ a) (ha : a < 2147483648) : ((nI a < (84 : Int32))) = False := eq_false (nI_nlt (b := 84) h ha)
theorem li_gtt84 {a : Nat} (h : 84 < a) (ha : a < 2147483648) : (((84 : Int32) < nI a)) = True := eq_true (nI_lt (a := 84) h ha)
theorem li_gtf84 {a : Nat} (h : a ≤ 84) : (((84 : Int32) < nI a)) = False := eq_false (nI_nlt (a := 84) h (by decide))
theorem li_eqt84 {a : Nat} (h : a = 84) : ((nI a = (84 : Int32))) = True := eq_true (h ▸ rfl)
theorem li_eqf84 {a : Nat} (h : ¬ a = 84) (ha : a < 2147483648) : ((nI a = (84 : Int32))) = False := eq_false (fun e => h ((nI_eq (b := 84) ha (by decide)).mp e))
theorem li_let108 {a : Nat} (h : 108 ≤ a) (ha : a < 2147483648) : (((108 : Int32) ≤ nI a)) = True := eq_true (nI_le (a := 108) h ha)
theorem li_lef108 {a : Nat} (h : a < 108) : (((108 : Int32) ≤ nI a)) = False := eq_false (nI_ge (b := 108) h (by decide))
theorem li_get108 {a : Nat} (h : a ≤ 108) : ((nI a ≤ (108 : Int32))) = True := eq_true (nI_le (b := 108) h (by decide))
theorem li_gef108 {a : Nat} (h : 108 < a) (ha : a < 2147483648) : ((nI a ≤ (108 : Int32))) = False := eq_false (nI_ge (a := 108) h ha)
theorem li_ltt108 {a : Nat} (h : a < 108) : ((nI a < (108 : Int32))) = True := eq_true (nI_lt (b := 108) h (by decide))
theorem li_ltf108 {a : Nat} (h : 108 ≤ a) (ha : a < 2147483648) : ((nI a < (108 : Int32))) = False := eq_false (nI_nlt (b := 108) h ha)
theorem li_gtt108 {a : Nat} (h : 108 < a) (ha : a < 2147483648) : (((108 : Int32) < nI a)) = True := eq_true (nI_lt (a := 108) h ha)
theorem li_gtf108 {a : Nat} (h : a ≤ 108) : (((108 : Int32) < nI a)) = False := eq_false (nI_nlt (a := 108) h (by decide))
theorem li_eqt108 {a : Nat} (h : a = 108) : ((nI a = (108 : Int32))) = True := eq_true (h ▸ rfl)
theorem li_eqf108 {a : Nat} (h : ¬ a = 108) (ha : a < 2147483648) : ((nI a = (108 : Int32))) = False := eq_false (fun e => h ((nI_eq (b := 108) ha (by decide)).mp e))
theorem li_let180 {a : Nat} (h : 180 ≤ a) (ha : a < 2147483648) : (((180 : Int32) ≤ nI a)) = True := eq_true (nI_le (a := 180) h ha)
theorem li_lef180 {a : Nat} (h : a < 180) : (((180 : Int32) ≤ nI a)) = False := eq_false (nI_ge (b := 180) h (by decide))
theorem li_get180 {a : Nat} (h : a ≤ 180) : ((nI a ≤ (180 : Int32))) = True := eq_true (nI_le (b := 180) h (by decide))
theorem li_gef180 {a : Nat} (h : 180 < a) (ha : a < 2147483648) : ((nI a ≤ (180 : Int32))) = False := eq_false (nI_ge (a := 180) h ha)
theorem li_ltt180 {a : Nat} (h : a < 180) : ((nI a < (180 : Int32))) = True := eq_true (nI_lt (b := 180) h (by decide))
theorem li_ltf180 {a : Nat} (h : 180 ≤ a) (ha : a < 2147483648) : ((nI a < (180 : Int32))) = False := eq_false (nI_nlt (b := 180) h ha)
theorem li_gtt180 {a : Nat} (h : 180 < a) (ha : a < 2147483648) : (((180 : Int32) < nI a)) = True := eq_true (nI_lt (a := 180) h ha)
theorem li_gtf180 {a : Nat} (h : a ≤ 180) : (((180 : Int32) < nI a)) = False := eq_false (nI_nlt (a := 180) h (by decide))
theorem li_eqt180 {a : Nat} (h : a = 180) : ((nI a = (180 : Int32))) = True := eq_true (h ▸ rfl)
theorem li_eqf180 {a : Nat} (h : ¬ a = 180) (ha : a < 2147483648) : ((nI a = (180 : Int32))) = False := eq_false (fun e => h ((nI_eq (b := 180) ha (by decide)).mp e))
theorem li_let400 {a : Nat} (h : 400 ≤ a) (ha : a < 2147483648) : (((400 : Int32) ≤ nI a)) = True := eq_true (nI_le (a := 400) h ha)
theorem li_lef400 {a : Nat} (h : a < 400) : (((400 : Int32) ≤ nI a)) = False := eq_false (nI_ge (b := 400) h (by decide))
theorem li_get400 {a : Nat} (h : a ≤ 400) : ((nI a ≤ (400 : Int32))) = True := eq_true (nI_le (b := 400) h (by decide))
theorem li_gef400 {a : Nat} (h : 400 < a) (ha : a < 2147483648) : ((nI a ≤ (400 : Int32))) = False := eq_false (nI_ge (a := 400) h ha)
theorem li_ltt400 {a : Nat} (h : a < 400) : ((nI a < (400 : Int32))) = True := eq_true (nI_lt (b := 400) h (by decide))
theorem li_ltf400 {a : Nat} (h : 400 ≤ a) (ha : a < 2147483648) : ((nI a < (400 : Int32))) = False := eq_false (nI_nlt (b := 400) h ha)
theorem li_gtt400 {a : Nat} (h : 400 < a) (ha : a < 2147483648) : (((400 : Int32) < nI a)) = True := eq_true (nI_lt (a := 400) h ha)
theorem li_gtf400 {a : Nat} (h : a ≤ 400) : (((400 : Int32) < nI a)) = False := eq_false (nI_nlt (a := 400) h (by decide))
theorem li_eqt400 {a : Nat} (h : a = 400) : ((nI a = (400 : Int32))) = True := eq_true (h ▸ rfl)
theorem li_eqf400 {a : Nat} (h : ¬ a = 400) (ha : a < 2147483648) : ((nI a = (400 : Int32))) = False := eq_false (fun e => h ((nI_eq (b := 400) ha (by decide)).mp e))
theorem li_let401 {a : Nat} (h : 401 ≤ a) (ha : a < 2147483648) : (((401 : Int32) ≤ nI a)) = True := eq_true (nI_le (a := 401) h ha)
theorem li_lef401 {a : Nat} (h : a < 401) : (((401 : Int32) ≤ nI a)) = False := eq_false (nI_ge (b := 401) h (by decide))
theorem li_get401 {a : Nat} (h : a ≤ 401) : ((nI a ≤ (401 : Int32))) = True := eq_true (nI_le (b := 401) h (by decide))
theorem li_gef401 {a : Nat} (h : 401 < a) (ha : a < 2147483648) : ((nI a ≤ (401 : Int32))) = False := eq_false (nI_ge (a := 401) h ha)
theorem li_ltt401 {a : Nat} (h : a < 401) : ((nI a < (401 : Int32))) = True := eq_true (nI_lt (b := 401) h (by decide))
theorem li_ltf401 {a : Nat} (h : 401 ≤ a) (ha : a < 2147483648) : ((nI a < (401 : Int32))) = False := eq_false (nI_nlt (b := 401) h ha)
theorem li_gtt401 {a : Nat} (h : 401 < a) (ha : a < 2147483648) : (((401 : Int32) < nI a)) = True := eq_true (nI_lt (a := 401) h ha)
theorem li_gtf401 {a : Nat} (h : a ≤ 401) : (((401 : Int32) < nI a)) = False := eq_false (nI_nlt (a := 401) h (by decide))
theorem li_eqt401 {a : Nat} (h : a = 401) : ((nI a = (401 : Int32))) = True := eq_true (h ▸ rfl)
theorem li_eqf401 {a : Nat} (h : ¬ a = 401) (ha : a < 2147483648) : ((nI a = (401 : Int32))) = False := eq_false (fun e => h ((nI_eq (b := 401) ha (by decide)).mp e))
theorem im_r2 (a : Nat) : nI a * (2 : Int32) = nI (2 * a) := by rw [show (2 : Int32) = nI 2 from rfl, pk_mul, Nat.mul_comm]
theorem im_l2 (a : Nat) : (2 : Int32) * nI a = nI (2 * a) := by rw [show (2 : Int32) = nI 2 from rfl, pk_mul]
theorem im_r3 (a : Nat) : nI a * (3 : Int32) = nI (3 * a) := by rw [show (3 : Int32) = nI 3 from rfl, pk_mul, Nat.mul_comm]
theorem im_l3 (a : Nat) : (3 : Int32) * nI a = nI (3 * a) := by rw [show (3 : Int32) = nI 3 from rfl, pk_mul]
theorem im_r4 (a : Nat) : nI a * (4 : Int32) = nI (4 * a) := by rw [show (4 : Int32) = nI 4 from rfl, pk_mul, Nat.mul_comm]
theorem im_l4 (a : Nat) : (4 : Int32) * nI a = nI (4 * a) := by rw [show (4 : Int32) = nI 4 from rfl, pk_mul]
theorem im_r5 (a : Nat) : nI a * (5 : Int32) = nI (5 * a) := by rw [show (5 : Int32) = nI 5 from rfl, pk_mul, Nat.mul_comm]
theorem im_l5 (a : Nat) : (5 : Int32) * nI a = nI (5 * a) := by rw [show (5 : Int32) = nI 5 from rfl, pk_mul]
theorem im_r12 (a : Nat) : nI a * (12 : Int32) = nI (12 * a) := by rw [show (12 : Int32) = nI 12 from rfl, pk_mul, Nat.mul_comm]
theorem im_l12 (a : Nat) : (12 : Int32) * nI a = nI (12 * a) := by rw [show (12 : Int32) = nI 12 from rfl, pk_mul]
theorem im_r48 (a : Nat) : nI a * (48 : Int32) = nI (48 * a) := by rw [show (48 : Int32) = nI 48 from rfl, pk_mul, Nat.mul_comm]
theorem im_l48 (a : Nat) : (48 : Int32) * nI a = nI (48 * a) := by rw [show (48 : Int32) = nI 48 from rfl, pk_mul]
theorem im_r60 (a : Nat) : nI a * (60 : Int32) = nI (60 * a) := by rw [show (60 : Int32) = nI 60 from rfl, pk_mul, Nat.mul_comm]
theorem im_l60 (a : Nat) : (60 : Int32) * nI a = nI (60 * a) := by rw [show (60 : Int32) = nI 60 from rfl, pk_mul]
theorem ia_r1 (a : Nat) : nI a + (1 : Int32) = nI (a + 1) := by rw [show (1 : Int32) = nI 1 from rfl, nI_add]
theorem ia_l1 (a : Nat) : (1 : Int32) + nI a = nI (1 + a) := by rw [show (1 : Int32) = nI 1 from rfl, nI_add]
theorem ia_r2 (a : Nat) : nI a + (2 : Int32) = nI (a + 2) := by rw [show (2 : Int32) = nI 2 from rfl, nI_add]
theorem ia_l2 (a : Nat) : (2 : Int32) + nI a = nI (2 + a) := by rw [show (2 : Int32) = nI 2 from rfl, nI_add]
theorem ia_r3 (a : Nat) : nI a + (3 : Int32) = nI (a + 3) := by rw [show (3 : Int32) = nI 3 from rfl, nI_add]
theorem ia_l3 (a : Nat) : (3 : Int32) + nI a = nI (3 + a) := by rw [show (3 : Int32) = nI 3 from rfl, nI_add]
theorem ia_r4 (a : Nat) : nI a + (4 : Int32) = nI (a + 4) := by rw [show (4 : Int32) = nI 4 from rfl, nI_add]
theorem ia_l4 (a : Nat) : (4 : Int32) + nI a = nI (4 + a) := by rw [show (4 : Int32) = nI 4 from rfl, nI_add]
theorem ia_r5 (a : Nat) : nI a + (5 : Int32) = nI (a + 5) := by rw [show (5 : Int32) = nI 5 from rfl, nI_add]
theorem ia_l5 (a : Nat) : (5 : Int32) + nI a = nI (5 + a) := by rw [show (5 : Int32) = nI 5 from rfl, nI_add]
theorem ia_r10 (a : Nat) : nI a + (10 : Int32) = nI (a + 10) := by rw [show (10 : Int32) = nI 10 from rfl, nI_add]
theorem ia_l10 (a : Nat) : (10 : Int32) + nI a = nI (10 + a) := by rw [show (10 : Int32) = nI 10 from rfl, nI_add]
theorem ia_r12 (a : Nat) : nI a + (12 : Int32) = nI (a + 12) := by rw [show (12 : Int32) = nI 12 from rfl, nI_add]
theorem ia_l12 (a : Nat) : (12 : Int32) + nI a = nI (12 + a) := by rw [show (12 : Int32) = nI 12 from rfl, nI_add]
theorem ia_r48 (a : Nat) : nI a + (48 : Int32) = nI (a + 48) := by rw [show (48 : Int32) = nI 48 from rfl, nI_add]
theorem ia_l48 (a : Nat) : (48 : Int32) + nI a = nI (48 + a) := by rw [show (48 : Int32) = nI 48 from rfl, nI_add]
theorem id_2 {a : Nat} (h : a < 2147483648) : nI a / (2 : Int32) = nI (a / 2) := pk_div (d := 2) h (by decide) (by decide)
theorem ir_2 (a : Nat) : a - 2 * (a / 2) = a % 2 := by omega
theorem iz_2 : (¬ (2 : Int32) = 0) = True := by decide
theorem id_4 {a : Nat} (h : a < 2147483648) : nI a / (4 : Int32) = nI (a / 4) := pk_div (d := 4) h (by decide) (by decide)
theorem ir_4 (a : Nat) : a - 4 * (a / 4) = a % 4 := by omega
theorem iz_4 : (¬ (4 : Int32) = 0) = True := by decide
theorem id_5 {a : Nat} (h : a < 2147483648) : nI a / (5 : Int32) = nI (a / 5) := pk_div (d := 5) h (by decide) (by decide)
theorem ir_5 (a : Nat) : a - 5 * (a / 5) = a % 5 := by omega
theorem iz_5 : (¬ (5 : Int32) = 0) = True := by decide
theorem id_12 {a : Nat} (h : a < 2147483648) : nI a / (12 : Int32) = nI (a / 12) := pk_div (d := 12) h (by decide) (by decide)
theorem ir_12 (a : Nat) : a - 12 * (a / 12) = a % 12 := by omega
theorem iz_12 : (¬ (12 : Int32) = 0) = True := by decide
theorem in_0_1 : ((0 : Int32) = 1) = False := by decide
theorem in_0_2 : ((0 : Int32) = 2) = False := by decide
theorem in_0_3 : ((0 : Int32) = 3) = False := by decide
theorem in_0_4 : ((0 : Int32) = 4) = False := by decide
theorem in_0_5 : ((0 : Int32) = 5) = False := by decide
theorem in_0_6 : ((0 : Int32) = (-1)) = False := by decide
theorem in_0_7 : ((0 : Int32) = (-2)) = False := by decide
theorem in_1_0 : ((1 : Int32) = 0) = False := by decide
theorem in_1_2 : ((1 : Int32) = 2) = False := by decide
theorem in_1_3 : ((1 : Int32) = 3) = False := by decide
theorem in_1_4 : ((1 : Int32) = 4) = False := by decide
theorem in_1_5 : ((1 : Int32) = 5) = False := by decide
theorem in_1_6 : ((1 : Int32) = (-1)) = False := by decide
theorem in_1_7 : ((1 : Int32) = (-2)) = False := by decide
theorem in_2_0 : ((2 : Int32) = 0) = False := by decide
theorem in_2_1 : ((2 : Int32) = 1) = False := by decide
theorem in_2_3 : ((2 : Int32) = 3) = False := by decide
theorem in_2_4 : ((2 : Int32) = 4) = False := by decide
theorem in_2_5 : ((2 : Int32) = 5) = False := by decide
theorem in_2_6 : ((2 : Int32) = (-1)) = False := by decide
theorem in_2_7 : ((2 : Int32) = (-2)) = False := by decide
theorem in_3_0 : ((3 : Int32) = 0) = False := by decide
theorem in_3_1 : ((3 : Int32) = 1) = False := by decide
theorem in_3_2 : ((3 : Int32) = 2) = False := by decide
theorem in_3_4 : ((3 : Int32) = 4) = False := by decide
theorem in_3_5 : ((3 : Int32) = 5) = False := by decide
theorem in_3_6 : ((3 : Int32) = (-1)) = False := by decide
theorem in_3_7 : ((3 : Int32) = (-2)) = False := by decide
theorem in_4_0 : ((4 : Int32) = 0) = False := by decide
theorem in_4_1 : ((4 : Int32) = 1) = False := by decide
theorem in_4_2 : ((4 : Int32) = 2) = False := by decide
theorem in_4_3 : ((4 : Int32) = 3) = False := by decide
theorem in_4_5 : ((4 : Int32) = 5) = False := by decide
theorem in_4_6 : ((4 : Int32) = (-1)) = False := by decide
theorem in_4_7 : ((4 : Int32) = (-2)) = False := by decide
theorem in_5_0 : ((5 : Int32) = 0) = False := by decide
theorem in_5_1 : ((5 : Int32) = 1) = False := by decide
theorem in_5_2 : ((5 : Int32) = 2) = False := by decide
theorem in_5_3 : ((5 : Int32) = 3) = False := by decide
theorem in_5_4 : ((5 : Int32) = 4) = False := by decide
theorem in_5_6 : ((5 : Int32) = (-1)) = False := by decide
theorem in_5_7 : ((5 : Int32) = (-2)) = False := by decide
theorem in_6_0 : (((-1) : Int32) = 0) = False := by decide
theorem in_6_1 : (((-1) : Int32) = 1) = False := by decide
theorem in_6_2 : (((-1) : Int32) = 2) = False := by decide
theorem in_6_3 : (((-1) : Int32) = 3) = False := by decide
theorem in_6_4 : (((-1) : Int32) = 4) = False := by decide
theorem in_6_5 : (((-1) : Int32) = 5) = False := by decide
theorem in_6_7 : (((-1) : Int32) = (-2)) = False := by decide
theorem in_7_0 : (((-2) : Int32) = 0) = False := by decide
theorem in_7_1 : (((-2) : Int32) = 1) = False := by decide
theorem in_7_2 : (((-2) : Int32) = 2) = False := by decide
theorem in_7_3 : (((-2) : Int32) = 3) = False := by decide
theorem in_7_4 : (((-2) : Int32) = 4) = False := by decide
theorem in_7_5 : (((-2) : Int32) = 5) = False := by decide
theorem in_7_6 : (((-2) : Int32) = (-1)) = False := by decide
theorem na_m1 {a : Nat} (h : 0 < a) : nI a + (-1) = nI (a - 1) := by
  obtain ⟨b, rfl⟩ : ∃ b, a = b + 1 := ⟨a - 1, by omega⟩
  rw [pk_m1]; rfl
theorem na_sub {a b : Nat} (h : b ≤ a) : nI a - nI b = nI (a - b) := pk_sub h
theorem nl_t {a b : Nat} (h : a ≤ b) (hb : b < 2147483648) : (nI a ≤ nI b) = True := eq_true (nI_le h hb)
theorem nl_f {a b : Nat} (h : b < a) (ha : a < 2147483648) : (nI a ≤ nI b) = False := eq_false (nI_ge h ha)
theorem nt_t {a b : Nat} (h : a < b) (hb : b < 2147483648) : (nI a < nI b) = True := eq_true (nI_lt h hb)
theorem nt_f {a b : Nat} (h : b ≤ a) (ha : a < 2147483648) : (nI a < nI b) = False := eq_false (nI_nlt h ha)
theorem ne_f {a b : Nat} (h : ¬ a = b) (ha : a < 2147483648) (hb : b < 2147483648) : (nI a = nI b) = False := eq_false (fun e => h ((nI_eq ha hb).mp e))
theorem vn_0 : vp_nar .boolean 0 = 0 := by decide
theorem vn_1 : vp_nar .boolean 1 = 1 := by decide
theorem up_s {f : Nat → Int32} {k : Nat} {x : Int32} : upd f k x k = x := if_pos rfl
theorem up_n {f : Nat → Int32} {k j : Nat} {x : Int32} (h : ¬ j = k) : upd f k x j = f j := if_neg h
theorem up_id {f : Nat → Int32} {k : Nat} {x : Int32} (h : f k = x) : upd f k x = f := by
  funext j
  by_cases e : j = k
  · rw [e, up_s, h]
  · rw [up_n e]
def rd_o (A : Nat) : Int32 := nI A - 1
theorem rd_o0 : rd_o 0 = -1 := by decide
theorem rd_oS (B : Nat) : rd_o (B + 1) = nI B := nI_pred B
theorem rd_nm {a : Nat} (h : a < 2147483648) : ¬ nI a = -1 := by
  intro e
  have := nI_pos h
  rw [e] at this
  exact this (by decide)
/-- a number in range or out of it -/
theorem rd_ix (x : Int32) {n : Nat} (hn : n < 2147483648) : (x < 0 ∨ nI n ≤ x) ∨ ∃ j : Nat, j < n ∧ x = nI j := by
  rcases pk_ix x hn with h | h | h
  · exact Or.inl (Or.inl h)
  · exact Or.inl (Or.inr h)
  · exact Or.inr h
theorem rd_mx : nI 2147483647 + 1 < 0 := by decide
theorem rd_ox (x : Int32) {n : Nat} (hn : n < 1000) : ((x < -1 ∨ nI n ≤ x) ∧ (x + 1 < 0 ∨ nI (n + 1) ≤ x + 1)) ∨ ∃ A : Nat, A < n + 1 ∧ x = rd_o A ∧ x + 1 = nI A := by
  by_cases h : x < 0
  · by_cases h1 : x = -1
    · exact Or.inr ⟨0, by omega, by rw [h1, rd_o0], by rw [h1]; decide⟩
    · refine Or.inl ⟨Or.inl ?_, Or.inl ?_⟩
      · rw [Int32.lt_iff_toInt_lt] at h ⊢
        have h2 : ¬ x.toInt = (-1 : Int32).toInt := fun e => h1 (Int32.toInt_inj.mp e)
        have e1 : (-1 : Int32).toInt = -1 := by decide
        have e0 : (0 : Int32).toInt = 0 := by decide
        omega
      · have h2 : ¬ x.toInt = (-1 : Int32).toInt := fun e => h1 (Int32.toInt_inj.mp e)
        rw [Int32.lt_iff_toInt_lt] at h ⊢
        have e1 : (-1 : Int32).toInt = -1 := by decide
        have e0 : (0 : Int32).toInt = 0 := by decide
        have e3 : (1 : Int32).toInt = 1 := by decide
        have h4 : -2147483648 ≤ x.toInt := Int32.le_toInt x
        rw [Int32.toInt_add, e3, Int.bmod_eq_of_le (by omega) (by omega)]
        omega
  · obtain ⟨j, hj, rfl⟩ := nI_of h
    by_cases h2 : j < n
    · exact Or.inr ⟨j + 1, by omega, by rw [rd_oS], by rw [nI_1]⟩
    · refine Or.inl ⟨Or.inr (nI_le (by omega) hj), ?_⟩
      by_cases h3 : j = 2147483647
      · exact Or.inl (h3 ▸ rd_mx)
      · rw [nI_1]; exact Or.inr (nI_le (by omega) (by omega))
/-- a definition, packed -/
def rd_pk (A S F G : Nat) : Int32 := ((((1 ||| (nI A <<< ((1 : Int32) &&& 31))) ||| (nI S <<< ((5 : Int32) &&& 31))) ||| (nI F <<< ((7 : Int32) &&& 31))) ||| (nI G <<< ((10 : Int32) &&& 31)))
def rd_pkb (A S F G : Nat) : Bool := !(rd_pk A S F G == 0) && ((rd_pk A S F G >>> ((5 : Int32) &&& 31)) &&& 3 == nI S) && ((rd_pk A S F G >>> ((7 : Int32) &&& 31)) &&& 7 == nI F) && (rd_pk A S F G >>> ((10 : Int32) &&& 31) == nI G) && (((rd_pk A S F G >>> ((1 : Int32) &&& 31)) &&& 15) - 1 == rd_o A)
theorem rd_pkB : ∀ m, m < 1664 → rd_pkb (m / 128) (m / 32 % 4) (m / 4 % 8) (m % 4) = true := by decide +kernel
theorem rd_pkT (A : Nat) (hA : A < 13) (S : Nat) (hS : S < 4) (F : Nat) (hF : F < 8) (G : Nat) (hG : G < 4) : ¬ rd_pk A S F G = 0 ∧ (rd_pk A S F G >>> ((5 : Int32) &&& 31)) &&& 3 = nI S ∧ (rd_pk A S F G >>> ((7 : Int32) &&& 31)) &&& 7 = nI F ∧ rd_pk A S F G >>> ((10 : Int32) &&& 31) = nI G ∧ ((rd_pk A S F G >>> ((1 : Int32) &&& 31)) &&& 15) - 1 = rd_o A := by
  have h := rd_pkB (128 * A + 32 * S + 4 * F + G) (by omega)
  rw [show (128 * A + 32 * S + 4 * F + G) / 128 = A from by omega, show (128 * A + 32 * S + 4 * F + G) / 32 % 4 = S from by omega, show (128 * A + 32 * S + 4 * F + G) / 4 % 8 = F from by omega, show (128 * A + 32 * S + 4 * F + G) % 4 = G from by omega] at h
  unfold rd_pkb at h
  simp only [Bool.and_eq_true, Bool.not_eq_true', beq_iff_eq, beq_eq_false_iff_ne, ne_eq] at h
  obtain ⟨⟨⟨⟨a, b⟩, c⟩, d⟩, e⟩ := h
  exact ⟨a, b, c, d, e⟩
/-- bit j of a shape -/
def rd_bi (s : Int32) (j : Nat) : Int32 := if ((s >>> (nI j &&& 31)) &&& 1) = 1 then 1 else 0
theorem rd_bi2 (s : Int32) (j : Nat) : rd_bi s j = 1 ∨ rd_bi s j = 0 := by
  unfold rd_bi; split
  · exact Or.inl rfl
  · exact Or.inr rfl
/-- how many below m -/
def rd_ct (f : Nat → Bool) : Nat → Nat
  | 0 => 0
  | m + 1 => rd_ct f m + (if f m = true then 1 else 0)
def rd_s (cL cN : Nat → Int32) (c : Nat) : Nat := 12 * (cL c).toNatClampNeg + (cN c).toNatClampNeg
def rd_ref (kd : Nat → Int32) (p : Nat) (x y : Int32) : Prop := (x = -1 ∧ y = -1) ∨ ∃ o, o < 12 ∧ x = nI (12 * p + o) ∧ y = nI o ∧ ¬ kd (12 * p + o) = 0
def rd_D (xdef yoff ypa ysh yfl ysg : Nat → Int32) : Prop := ∀ d, d < 84 → (yoff d = 0 ∧ xdef d = 0) ∨ (yoff d = 1 ∧ ∃ A S F G, A < 13 ∧ S < 4 ∧ F < 8 ∧ G < 4 ∧ ypa d = rd_o A ∧ ysh d = nI S ∧ yfl d = nI F ∧ ysg d = nI G ∧ xdef d = rd_pk A S F G)
def rd_P (pref : Nat → Int32) : Prop := ∀ l, l < 4 → ∃ w, w < 4096 ∧ pref l = nI w
def rd_A (anno : Nat → Int32) : Prop := ∀ p, p < 3 → ∃ A, A < 5 ∧ anno p = rd_o A
def rd_N (xnot ybg ynt : Nat → Int32) : Prop := ∀ a, a < 15 → (ybg a = 0 ∧ xnot a = -1) ∨ (ybg a = 1 ∧ ∃ w, w < 4096 ∧ xnot a = nI w ∧ ynt a = nI w)
def rd_B (ykn ybg : Nat → Int32) : Prop := ∀ s, s < 180 → ¬ s / 12 % 5 = 4 → ¬ ykn s = -1 → ybg (s / 12) = 1
def rd_C (n : Nat) (ykn cL cN cS cF cG cP xcd xcp : Nat → Int32) : Prop := ∀ c, c < n → ∃ L N A S F G, L < 15 ∧ N < 12 ∧ A < 13 ∧ S < 4 ∧ F < 8 ∧ G < 4 ∧ cL c = nI L ∧ cN c = nI N ∧ cS c = nI S ∧ cF c = nI F ∧ cG c = nI G ∧ ykn (12 * L + N) = nI c ∧ xcd (12 * L + N) = rd_pk A S F G ∧ ((A = 0 ∧ cP c = -1 ∧ xcp (12 * L + N) = -1) ∨ ∃ c', c' < c ∧ cP c = nI c' ∧ 0 < A ∧ cN c' = nI (A - 1) ∧ xcp (12 * L + N) = nI (rd_s cL cN c') ∧ (cL c' = nI L ∨ cL c' = nI (5 * (L / 5) + 4)))
def rd_T (n : Nat) (cL cN cT xcs : Nat → Int32) : Prop := ∀ c, c < n → xcs (rd_s cL cN c) = cT c ∧ (cT c = 0 ∨ cT c = 1 ∨ cT c = 2)
def rd_K (n : Nat) (xkn ykn cL cN : Nat → Int32) : Prop := ∀ s, s < 180 → (ykn s = -1 ∧ xkn s = -1) ∨ ∃ c, c < n ∧ ykn s = nI c ∧ xkn s = nI (rd_s cL cN c) ∧ cN c = nI (s % 12) ∧ (cL c = nI (s / 12) ∨ cL c = nI (5 * (s / 12 / 5) + 4))
def rd_E (n : Nat) (xcd cL cN : Nat → Int32) : Prop := ∀ s, s < 180 → xcd s = 0 ∨ ∃ c, c < n ∧ rd_s cL cN c = s
def rd_Z (n : Nat) (xcd cL : Nat → Int32) : Prop := n = rd_ct (fun s => decide (¬ xcd s = 0)) 180 ∧ ∀ p, p < 3 → rd_ct (fun c => decide (cL c / 5 = nI p)) n = rd_ct (fun i => decide (¬ xcd (60 * p + i) = 0)) 60
def rd_O (kd : Nat → Int32) : Prop := ∀ i, i < 36 → kd i = 0 ∨ kd i = 1 ∨ kd i = 2
def rd_G (k : Nat) (gv : Nat → Int32) : Prop := ∀ p, p < 3 → ∃ g, g ≤ k ∧ gv p = nI g
def rd_I (k : Nat) (kd xtk ytk : Nat → Int32) : Prop := ∀ i, i < 36 → ¬ kd i = 0 → xtk i = ytk i ∧ ∃ g, g ≤ k ∧ ytk i = nI g ∧ (kd i = 2 → 0 < g)
def rd_H (kd xhm yfa : Nat → Int32) : Prop := ∀ i, i < 36 → ¬ kd i = 0 → ∃ q, q < 3 ∧ xhm i = nI q ∧ (kd i = 1 → q = i / 12) ∧ (kd i = 2 → yfa i = nI q)
def rd_F (n : Nat) (kd yof xof cL cN : Nat → Int32) : Prop := ∀ i, i < 36 → kd i = 1 → ∃ c, c < n ∧ yof i = nI c ∧ xof i = nI (rd_s cL cN c)
def rd_X (kd yof cS xce yce : Nat → Int32) : Prop := ∀ i, i < 36 → kd i = 1 → ∀ j, j < 2 → (rd_bi (cS (yof i).toNatClampNeg) j = 1 → rd_ref kd (i / 12) (xce (2 * i + j)) (yce (2 * i + j))) ∧ (rd_bi (cS (yof i).toNatClampNeg) j = 0 → xce (2 * i + j) = yce (2 * i + j))
def rd_L (t : Nat) (kd xle yle : Nat → Int32) : Prop := ∀ i, i < 36 → ∀ j, j < 3 → (kd i = 0 → xle (3 * i + j) = 0) ∧ (kd i = 1 → xle (3 * i + j) = yle (3 * i + j) ∧ ∃ l, l ≤ t + 10 ∧ xle (3 * i + j) = nI l)
def rd_V (kd xva yva : Nat → Int32) : Prop := ∀ p, p < 3 → ∀ v, v < 4 → rd_ref kd p (xva (4 * p + v)) (yva (4 * p + v))
def rd_RF (k t n : Nat) (xdef pref anno xnot xkn xcd xcp xcs kd xof xce xtk xhm xva xla gv xle yoff ypa ysh yfl ysg ybg ynt ykn cL cN cS cF cG cP cT yof ytk yfa yce yle yva yla : Nat → Int32) : Prop :=
  t ≤ 400 * k ∧ rd_D xdef yoff ypa ysh yfl ysg ∧ rd_P pref ∧ rd_A anno ∧ rd_N xnot ybg ynt ∧ rd_B ykn ybg ∧ rd_C n ykn cL cN cS cF cG cP xcd xcp ∧ rd_T n cL cN cT xcs ∧ rd_K n xkn ykn cL cN ∧ rd_E n xcd cL cN ∧ rd_Z n xcd cL ∧ rd_O kd ∧ rd_G k gv ∧ rd_I k kd xtk ytk ∧ rd_H kd xhm yfa ∧ rd_F n kd yof xof cL cN ∧ rd_X kd yof cS xce yce ∧ rd_L t kd xle yle ∧ rd_V kd xva yva ∧ rd_V kd xla yla
def rd_fault (xfp ypt xfn ybl : Int32) : Prop := (xfp = -1 ∧ ypt = -1) ∨ ∃ a, a < 8 ∧ xfp = nI a ∧ ypt = nI a ∧ xfn = ybl
def i_Rel (k : Nat) (u : SX) (v : SY) : Prop := match u, v with
  | (atm, xic, xfp, xfn, xdef, apref, aanno, xnot, xkn, xcd, xcp, xcs, akd, xof, xce, xtk, xhm, xva, xla, agv, xle, acut, xch, xst, xsy, xio, xor, xin, xis, xso, xip, xit, xcl, xro), (ycl, ylk, btm, yit, ypt, ybl, yoff, ypa, ysh, yfl, ysg, bpref, banno, ybg, ynt, ykn, cL, cN, cS, cF, cG, cP, cT, yby, ych, yln, yps, bkd, yof, ytk, yfa, yce, yle, yva, yla, bgv, bcut, ysy, yli, yop, yin, yis, yso, yti, yic, yrd) => ∃ t n : Nat, atm = nI t ∧ btm = nI t ∧ ycl = nI n ∧ bpref = apref ∧ banno = aanno ∧ bkd = akd ∧ bgv = agv ∧ bcut = acut ∧ rd_fault xfp ypt xfn ybl ∧ rd_RF k t n xdef apref aanno xnot xkn xcd xcp xcs akd xof xce xtk xhm xva xla agv xle yoff ypa ysh yfl ysg ybg ynt ykn cL cN cS cF cG cP cT yof ytk yfa yce yle yva yla
theorem rd_upI {k d : Nat} {kd xtk ytk : Nat → Int32} (h : rd_I k kd xtk ytk) : rd_I (k + d) kd xtk ytk := by
  intro i hi hk
  obtain ⟨a, g, b, c⟩ := h i hi hk
  exact ⟨a, g, by omega, c⟩
theorem rd_upG {k d : Nat} {gv : Nat → Int32} (h : rd_G k gv) : rd_G (k + d) gv := by
  intro p hp
  obtain ⟨g, b, c⟩ := h p hp
  exact ⟨g, by omega, c⟩
theorem rd_up {k t n : Nat} {xdef pref anno xnot xkn xcd xcp xcs kd xof xce xtk xhm xva xla gv xle yoff ypa ysh yfl ysg ybg ynt ykn cL cN cS cF cG cP cT yof ytk yfa yce yle yva yla : Nat → Int32} (h : rd_RF k t n xdef pref anno xnot xkn xcd xcp xcs kd xof xce xtk xhm xva xla gv xle yoff ypa ysh yfl ysg ybg ynt ykn cL cN cS cF cG cP cT yof ytk yfa yce yle yva yla) : rd_RF (k+7) t n xdef pref anno xnot xkn xcd xcp xcs kd xof xce xtk xhm xva xla gv xle yoff ypa ysh yfl ysg ybg ynt ykn cL cN cS cF cG cP cT yof ytk yfa yce yle yva yla := by
  obtain ⟨hU, hD, hP, hA, hN, hB, hC, hT, hK, hE, hZ, hO, hG, hI, hH, hF, hX, hL, hV, hW⟩ := h
  exact ⟨by omega, hD, hP, hA, hN, hB, hC, hT, hK, hE, hZ, hO, rd_upG hG, rd_upI hI, hH, hF, hX, hL, hV, hW⟩
theorem i_up {k : Nat} {u : SX} {v : SY} (h : i_Rel k u v) : i_Rel (k + 7) u v := by
  have I := h
  obtain ⟨atm, xic, xfp, xfn, xdef, apref, aanno, xnot, xkn, xcd, xcp, xcs, akd, xof, xce, xtk, xhm, xva, xla, agv, xle, acut, xch, xst, xsy, xio, xor, xin, xis, xso, xip, xit, xcl, xro⟩ := u
  obtain ⟨ycl, ylk, tm, yit, ypt, ybl, yoff, ypa, ysh, yfl, ysg, pref, anno, ybg, ynt, ykn, cL, cN, cS, cF, cG, cP, cT, yby, ych, yln, yps, kd, yof, ytk, yfa, yce, yle, yva, yla, gv, cut, ysy, yli, yop, yin, yis, yso, yti, yic, yrd⟩ := v
  obtain ⟨t, n, rfl, rfl, rfl, rfl, rfl, rfl, rfl, rfl, hf, hR⟩ := I
  exact ⟨t, n, rfl, rfl, rfl, rfl, rfl, rfl, rfl, rfl, hf, rd_up hR⟩
