def gz_nst : List (String × Nat × MethodName) := [(RX7, 18, yX1_init), (RX7, 61, yX5_init), (RX6, 49, yX7_within), (RX1, 25, yX7_within), (RX2, 106, yX7_shelfNumber)]
