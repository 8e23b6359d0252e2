theorem x_sw15 {x : Int32} (h0 : ¬ x = (0 : Int32)) (h1 : ¬ x = (1 : Int32)) (h2 : ¬ x = (2 : Int32)) (h3 : ¬ x = (3 : Int32)) (h4 : ¬ x = (4 : Int32)) (h5 : ¬ x = (5 : Int32)) (h6 : ¬ x = (6 : Int32)) (h7 : ¬ x = (7 : Int32)) (h8 : ¬ x = (8 : Int32)) (h9 : ¬ x = (9 : Int32)) (h10 : ¬ x = (10 : Int32)) (h11 : ¬ x = (11 : Int32)) (h12 : ¬ x = (12 : Int32)) (h13 : ¬ x = (13 : Int32)) (h14 : ¬ x = (14 : Int32)) : x.toInt < 0 ∨ 14 < x.toInt := by
  have e0 : x.toInt ≠ 0 := x_toInt_ne h0
  have e1 : x.toInt ≠ 1 := x_toInt_ne h1
  have e2 : x.toInt ≠ 2 := x_toInt_ne h2
  have e3 : x.toInt ≠ 3 := x_toInt_ne h3
  have e4 : x.toInt ≠ 4 := x_toInt_ne h4
  have e5 : x.toInt ≠ 5 := x_toInt_ne h5
  have e6 : x.toInt ≠ 6 := x_toInt_ne h6
  have e7 : x.toInt ≠ 7 := x_toInt_ne h7
  have e8 : x.toInt ≠ 8 := x_toInt_ne h8
  have e9 : x.toInt ≠ 9 := x_toInt_ne h9
  have e10 : x.toInt ≠ 10 := x_toInt_ne h10
  have e11 : x.toInt ≠ 11 := x_toInt_ne h11
  have e12 : x.toInt ≠ 12 := x_toInt_ne h12
  have e13 : x.toInt ≠ 13 := x_toInt_ne h13
  have e14 : x.toInt ≠ 14 := x_toInt_ne h14
  omega
