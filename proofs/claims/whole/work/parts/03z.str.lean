abbrev nS : Nat := 12
abbrev sIdx : List Nat := [97, 106, 111, 113, 115, 117, 122, 127, 132, 168, 172, 177]
abbrev sTxt : List String := ["thing", "first", "second", "feast", "any", "again", "shop", "out", "guest", "leaves", "like", "wont"]
abbrev sLen : List Nat := [5, 5, 6, 5, 3, 5, 4, 3, 5, 6, 4, 4]
abbrev sByt : List (List Int32) := [[116, 104, 105, 110, 103], [102, 105, 114, 115, 116], [115, 101, 99, 111, 110, 100], [102, 101, 97, 115, 116], [97, 110, 121], [97, 103, 97, 105, 110], [115, 104, 111, 112], [111, 117, 116], [103, 117, 101, 115, 116], [108, 101, 97, 118, 101, 115], [108, 105, 107, 101], [119, 111, 110, 116]]
abbrev sNst : List (String × Nat × MethodName × String) := [(RX6, 21, yX1_init, RX6), (RX6, 54, yX5_init, RX6), (RX6, 61, yX3_init, RX6), (RX3, 24, yX5_init, RX6)]
