def nx_0 : List nn_C := []
def nx_1 : List nn_C := nx_0 ++ [.inl (11, [.null, .null, .null, .null, .null, .int 0, .null, .null, .null, .null, .null, .null, .null])]
def nx_2 : List nn_C := nx_1 ++ [.inl (9, [.null, .int 0])]
def nx_3 : List nn_C := nx_2 ++ [.inr (0, 200, .inl (fun _ => 0))]
def nx_4 : List nn_C := nx_3.set 1 (.inl (9, [.ref 2, .int 0]))
def nx_5 : List nn_C := nx_4.set 0 (.inl (11, [.ref 1, .null, .null, .null, .null, .int 0, .null, .null, .null, .null, .null, .null, .null]))
def nx_6 : List nn_C := nx_5 ++ [.inl (10, [.null, .int 0, .int 0, .int 0, .int 0])]
def nx_7 : List nn_C := nx_6.set 3 (.inl (10, [.ref 1, .int 0, .int 0, .int 0, .int 0]))
def nx_8 : List nn_C := [.inl (11, [.ref 1, .null, .null, .null, .null, .int 0, .null, .null, .null, .null, .null, .null, .null]), .inl (9, [.ref 2, .int 0]), .inr (0, 200, .inl (fun _ => 0)), .inl (10, [.ref 1, .int 0, .int 0, .int 0, .int 0]), .inl (1, [.null, .null, .null, .int 0, .null, .null, .null, .int 0, .int 0])]
def nx_9 : List nn_C := [.inl (11, [.ref 1, .null, .null, .null, .null, .int 0, .null, .null, .null, .null, .null, .null, .null]), .inl (9, [.ref 2, .int 0]), .inr (0, 200, .inl (fun _ => 0)), .inl (10, [.ref 1, .int 0, .int 0, .int 0, .int 0]), .inl (1, [.null, .null, .null, .int 0, .null, .null, .null, .int 0, .int 0]), .inr (2, 12, .inr 6), .inr (0, 72, .inl (fun _ => 0)), .inr (0, 72, .inl (fun _ => 0)), .inr (0, 72, .inl (fun _ => 0)), .inr (0, 72, .inl (fun _ => 0)), .inr (0, 72, .inl (fun _ => 0)), .inr (0, 72, .inl (fun _ => 0)), .inr (0, 72, .inl (fun _ => 0)), .inr (0, 72, .inl (fun _ => 0)), .inr (0, 72, .inl (fun _ => 0)), .inr (0, 72, .inl (fun _ => 0)), .inr (0, 72, .inl (fun _ => 0)), .inr (0, 72, .inl (fun _ => 0))]
def nx_10 : List nn_C := nx_9.set 4 (.inl (1, [.null, .ref 5, .null, .int 0, .null, .null, .null, .int 0, .int 0]))
def nx_11 : List nn_C := nx_10 ++ [.inr (0, 72, .inl (fun _ => 0))]
def nx_12 : List nn_C := nx_11.set 4 (.inl (1, [.null, .ref 5, .ref 18, .int 0, .null, .null, .null, .int 0, .int 0]))
def nx_13 : List nn_C := nx_12 ++ [.inr (0, 24, .inl (fun _ => 0))]
def nx_14 : List nn_C := nx_13.set 4 (.inl (1, [.null, .ref 5, .ref 18, .int 0, .ref 19, .null, .null, .int 0, .int 0]))
def nx_15 : List nn_C := nx_14 ++ [.inr (0, 3, .inl (fun _ => 0))]
def nx_16 : List nn_C := nx_15.set 4 (.inl (1, [.null, .ref 5, .ref 18, .int 0, .ref 19, .ref 20, .null, .int 0, .int 0]))
def nx_17 : List nn_C := [.inl (11, [.ref 1, .null, .null, .null, .null, .int 0, .null, .null, .null, .null, .null, .null, .null]), .inl (9, [.ref 2, .int 0]), .inr (0, 200, .inl (fun _ => 0)), .inl (10, [.ref 1, .int 0, .int 0, .int 0, .int 0]), .inl (1, [.null, .ref 5, .ref 18, .int 0, .ref 19, .ref 20, .null, .int 0, .int 0]), .inr (2, 12, .inr 6), .inr (0, 72, .inl (fun _ => 0)), .inr (0, 72, .inl (fun _ => 0)), .inr (0, 72, .inl (fun _ => 0)), .inr (0, 72, .inl (fun _ => 0)), .inr (0, 72, .inl (fun _ => 0)), .inr (0, 72, .inl (fun _ => 0)), .inr (0, 72, .inl (fun _ => 0)), .inr (0, 72, .inl (fun _ => 0)), .inr (0, 72, .inl (fun _ => 0)), .inr (0, 72, .inl (fun _ => 0)), .inr (0, 72, .inl (fun _ => 0)), .inr (0, 72, .inl (fun _ => 0)), .inr (0, 72, .inl (fun _ => 0)), .inr (0, 24, .inl (fun _ => 0)), .inr (0, 3, .inl (fun _ => 0)), .inr (0, 3, .inl (fun _ => 0))]
def nx_18 : List nn_C := nx_17.set 4 (.inl (1, [.null, .ref 5, .ref 18, .int 0, .ref 19, .ref 20, .ref 21, .int 0, .int 0]))
def nx_19 : List nn_C := nx_18.set 4 (.inl (1, [.ref 3, .ref 5, .ref 18, .int 0, .ref 19, .ref 20, .ref 21, .int 0, .int 0]))
def nx_20 : List nn_C := nx_19.set 0 (.inl (11, [.ref 1, .ref 4, .null, .null, .null, .int 0, .null, .null, .null, .null, .null, .null, .null]))
def nx_21 : List nn_C := nx_20 ++ [.inl (2, [.null, .int 0, .null, .null, .null, .int 0, .int 0])]
def nx_22 : List nn_C := nx_21 ++ [.inr (0, 10, .inl (fun _ => 0))]
def nx_23 : List nn_C := nx_22.set 22 (.inl (2, [.ref 23, .int 0, .null, .null, .null, .int 0, .int 0]))
def nx_24 : List nn_C := nx_23 ++ [.inr (0, 3, .inl (fun _ => 0))]
def nx_25 : List nn_C := [.inl (11, [.ref 1, .ref 4, .null, .null, .null, .int 0, .null, .null, .null, .null, .null, .null, .null]), .inl (9, [.ref 2, .int 0]), .inr (0, 200, .inl (fun _ => 0)), .inl (10, [.ref 1, .int 0, .int 0, .int 0, .int 0]), .inl (1, [.ref 3, .ref 5, .ref 18, .int 0, .ref 19, .ref 20, .ref 21, .int 0, .int 0]), .inr (2, 12, .inr 6), .inr (0, 72, .inl (fun _ => 0)), .inr (0, 72, .inl (fun _ => 0)), .inr (0, 72, .inl (fun _ => 0)), .inr (0, 72, .inl (fun _ => 0)), .inr (0, 72, .inl (fun _ => 0)), .inr (0, 72, .inl (fun _ => 0)), .inr (0, 72, .inl (fun _ => 0)), .inr (0, 72, .inl (fun _ => 0)), .inr (0, 72, .inl (fun _ => 0)), .inr (0, 72, .inl (fun _ => 0)), .inr (0, 72, .inl (fun _ => 0)), .inr (0, 72, .inl (fun _ => 0)), .inr (0, 72, .inl (fun _ => 0)), .inr (0, 24, .inl (fun _ => 0)), .inr (0, 3, .inl (fun _ => 0)), .inr (0, 3, .inl (fun _ => 0)), .inl (2, [.ref 23, .int 0, .ref 24, .null, .null, .int 0, .int 0]), .inr (0, 10, .inl (fun _ => 0)), .inr (0, 3, .inl (fun _ => 0))]
def nx_26 : List nn_C := nx_25 ++ [.inr (0, 3, .inl (fun _ => 0))]
def nx_27 : List nn_C := nx_26.set 22 (.inl (2, [.ref 23, .int 0, .ref 24, .ref 25, .null, .int 0, .int 0]))
def nx_28 : List nn_C := nx_27 ++ [.inr (0, 4, .inl (fun _ => 0))]
def nx_29 : List nn_C := nx_28.set 22 (.inl (2, [.ref 23, .int 0, .ref 24, .ref 25, .ref 26, .int 0, .int 0]))
def nx_30 : List nn_C := nx_29.set 22 (.inl (2, [.ref 23, .int 0, .ref 24, .ref 25, .ref 26, .int 9999, .int 0]))
def nx_31 : List nn_C := nx_30.set 26 (.inr (0, 4, .inl (upd (fun _ => 0) (0 : Int32).toNatClampNeg 999)))
def nx_32 : List nn_C := nx_31.set 26 (.inr (0, 4, .inl (upd (upd (fun _ => 0) (0 : Int32).toNatClampNeg 999) (1 : Int32).toNatClampNeg 999)))
def nx_33 : List nn_C := [.inl (11, [.ref 1, .ref 4, .null, .null, .null, .int 0, .null, .null, .null, .null, .null, .null, .null]), .inl (9, [.ref 2, .int 0]), .inr (0, 200, .inl (fun _ => 0)), .inl (10, [.ref 1, .int 0, .int 0, .int 0, .int 0]), .inl (1, [.ref 3, .ref 5, .ref 18, .int 0, .ref 19, .ref 20, .ref 21, .int 0, .int 0]), .inr (2, 12, .inr 6), .inr (0, 72, .inl (fun _ => 0)), .inr (0, 72, .inl (fun _ => 0)), .inr (0, 72, .inl (fun _ => 0)), .inr (0, 72, .inl (fun _ => 0)), .inr (0, 72, .inl (fun _ => 0)), .inr (0, 72, .inl (fun _ => 0)), .inr (0, 72, .inl (fun _ => 0)), .inr (0, 72, .inl (fun _ => 0)), .inr (0, 72, .inl (fun _ => 0)), .inr (0, 72, .inl (fun _ => 0)), .inr (0, 72, .inl (fun _ => 0)), .inr (0, 72, .inl (fun _ => 0)), .inr (0, 72, .inl (fun _ => 0)), .inr (0, 24, .inl (fun _ => 0)), .inr (0, 3, .inl (fun _ => 0)), .inr (0, 3, .inl (fun _ => 0)), .inl (2, [.ref 23, .int 0, .ref 24, .ref 25, .ref 26, .int 9999, .int 0]), .inr (0, 10, .inl (fun _ => 0)), .inr (0, 3, .inl (fun _ => 0)), .inr (0, 3, .inl (fun _ => 0)), .inr (0, 4, .inl (upd (upd (upd (fun _ => 0) (0 : Int32).toNatClampNeg 999) (1 : Int32).toNatClampNeg 999) (2 : Int32).toNatClampNeg 999))]
def nx_34 : List nn_C := nx_33.set 26 (.inr (0, 4, .inl (upd (upd (upd (upd (fun _ => 0) (0 : Int32).toNatClampNeg 999) (1 : Int32).toNatClampNeg 999) (2 : Int32).toNatClampNeg 999) (3 : Int32).toNatClampNeg 999)))
def nx_35 : List nn_C := nx_34.set 0 (.inl (11, [.ref 1, .ref 4, .ref 22, .null, .null, .int 0, .null, .null, .null, .null, .null, .null, .null]))
def nx_36 : List nn_C := nx_35 ++ [.inl (7, [.int 0, .null, .null, .null, .null, .int 0])]
def nx_37 : List nn_C := nx_36 ++ [.inr (0, 10, .inl (fun _ => 0))]
def nx_38 : List nn_C := nx_37.set 27 (.inl (7, [.int 0, .ref 28, .null, .null, .null, .int 0]))
def nx_39 : List nn_C := nx_38 ++ [.inr (0, 10, .inl (fun _ => 0))]
def nx_40 : List nn_C := nx_39.set 27 (.inl (7, [.int 0, .ref 28, .ref 29, .null, .null, .int 0]))
def nx_41 : List nn_C := [.inl (11, [.ref 1, .ref 4, .ref 22, .null, .null, .int 0, .null, .null, .null, .null, .null, .null, .null]), .inl (9, [.ref 2, .int 0]), .inr (0, 200, .inl (fun _ => 0)), .inl (10, [.ref 1, .int 0, .int 0, .int 0, .int 0]), .inl (1, [.ref 3, .ref 5, .ref 18, .int 0, .ref 19, .ref 20, .ref 21, .int 0, .int 0]), .inr (2, 12, .inr 6), .inr (0, 72, .inl (fun _ => 0)), .inr (0, 72, .inl (fun _ => 0)), .inr (0, 72, .inl (fun _ => 0)), .inr (0, 72, .inl (fun _ => 0)), .inr (0, 72, .inl (fun _ => 0)), .inr (0, 72, .inl (fun _ => 0)), .inr (0, 72, .inl (fun _ => 0)), .inr (0, 72, .inl (fun _ => 0)), .inr (0, 72, .inl (fun _ => 0)), .inr (0, 72, .inl (fun _ => 0)), .inr (0, 72, .inl (fun _ => 0)), .inr (0, 72, .inl (fun _ => 0)), .inr (0, 72, .inl (fun _ => 0)), .inr (0, 24, .inl (fun _ => 0)), .inr (0, 3, .inl (fun _ => 0)), .inr (0, 3, .inl (fun _ => 0)), .inl (2, [.ref 23, .int 0, .ref 24, .ref 25, .ref 26, .int 9999, .int 0]), .inr (0, 10, .inl (fun _ => 0)), .inr (0, 3, .inl (fun _ => 0)), .inr (0, 3, .inl (fun _ => 0)), .inr (0, 4, .inl (upd (upd (upd (upd (fun _ => 0) (0 : Int32).toNatClampNeg 999) (1 : Int32).toNatClampNeg 999) (2 : Int32).toNatClampNeg 999) (3 : Int32).toNatClampNeg 999)), .inl (7, [.int 0, .ref 28, .ref 29, .null, .null, .int 0]), .inr (0, 10, .inl (fun _ => 0)), .inr (0, 10, .inl (fun _ => 0)), .inr (0, 10, .inl (fun _ => 0))]
def nx_42 : List nn_C := nx_41.set 27 (.inl (7, [.int 0, .ref 28, .ref 29, .ref 30, .null, .int 0]))
def nx_43 : List nn_C := nx_42 ++ [.inr (0, 10, .inl (fun _ => 0))]
def nx_44 : List nn_C := nx_43.set 27 (.inl (7, [.int 0, .ref 28, .ref 29, .ref 30, .ref 31, .int 0]))
def nx_45 : List nn_C := nx_44.set 27 (.inl (7, [.int 0, .ref 28, .ref 29, .ref 30, .ref 31, .int 1]))
def nx_46 : List nn_C := nx_45.set 0 (.inl (11, [.ref 1, .ref 4, .ref 22, .ref 27, .null, .int 0, .null, .null, .null, .null, .null, .null, .null]))
def nx_47 : List nn_C := nx_46 ++ [.inl (7, [.int 0, .null, .null, .null, .null, .int 0])]
def nx_48 : List nn_C := nx_47 ++ [.inr (0, 10, .inl (fun _ => 0))]
def nx_49 : List nn_C := [.inl (11, [.ref 1, .ref 4, .ref 22, .ref 27, .null, .int 0, .null, .null, .null, .null, .null, .null, .null]), .inl (9, [.ref 2, .int 0]), .inr (0, 200, .inl (fun _ => 0)), .inl (10, [.ref 1, .int 0, .int 0, .int 0, .int 0]), .inl (1, [.ref 3, .ref 5, .ref 18, .int 0, .ref 19, .ref 20, .ref 21, .int 0, .int 0]), .inr (2, 12, .inr 6), .inr (0, 72, .inl (fun _ => 0)), .inr (0, 72, .inl (fun _ => 0)), .inr (0, 72, .inl (fun _ => 0)), .inr (0, 72, .inl (fun _ => 0)), .inr (0, 72, .inl (fun _ => 0)), .inr (0, 72, .inl (fun _ => 0)), .inr (0, 72, .inl (fun _ => 0)), .inr (0, 72, .inl (fun _ => 0)), .inr (0, 72, .inl (fun _ => 0)), .inr (0, 72, .inl (fun _ => 0)), .inr (0, 72, .inl (fun _ => 0)), .inr (0, 72, .inl (fun _ => 0)), .inr (0, 72, .inl (fun _ => 0)), .inr (0, 24, .inl (fun _ => 0)), .inr (0, 3, .inl (fun _ => 0)), .inr (0, 3, .inl (fun _ => 0)), .inl (2, [.ref 23, .int 0, .ref 24, .ref 25, .ref 26, .int 9999, .int 0]), .inr (0, 10, .inl (fun _ => 0)), .inr (0, 3, .inl (fun _ => 0)), .inr (0, 3, .inl (fun _ => 0)), .inr (0, 4, .inl (upd (upd (upd (upd (fun _ => 0) (0 : Int32).toNatClampNeg 999) (1 : Int32).toNatClampNeg 999) (2 : Int32).toNatClampNeg 999) (3 : Int32).toNatClampNeg 999)), .inl (7, [.int 0, .ref 28, .ref 29, .ref 30, .ref 31, .int 1]), .inr (0, 10, .inl (fun _ => 0)), .inr (0, 10, .inl (fun _ => 0)), .inr (0, 10, .inl (fun _ => 0)), .inr (0, 10, .inl (fun _ => 0)), .inl (7, [.int 0, .ref 33, .null, .null, .null, .int 0]), .inr (0, 10, .inl (fun _ => 0))]
def nx_50 : List nn_C := nx_49 ++ [.inr (0, 10, .inl (fun _ => 0))]
def nx_51 : List nn_C := nx_50.set 32 (.inl (7, [.int 0, .ref 33, .ref 34, .null, .null, .int 0]))
def nx_52 : List nn_C := nx_51 ++ [.inr (0, 10, .inl (fun _ => 0))]
def nx_53 : List nn_C := nx_52.set 32 (.inl (7, [.int 0, .ref 33, .ref 34, .ref 35, .null, .int 0]))
def nx_54 : List nn_C := nx_53 ++ [.inr (0, 10, .inl (fun _ => 0))]
def nx_55 : List nn_C := nx_54.set 32 (.inl (7, [.int 0, .ref 33, .ref 34, .ref 35, .ref 36, .int 0]))
def nx_56 : List nn_C := nx_55.set 32 (.inl (7, [.int 0, .ref 33, .ref 34, .ref 35, .ref 36, .int 1]))
def nx_57 : List nn_C := [.inl (11, [.ref 1, .ref 4, .ref 22, .ref 27, .ref 32, .int 0, .null, .null, .null, .null, .null, .null, .null]), .inl (9, [.ref 2, .int 0]), .inr (0, 200, .inl (fun _ => 0)), .inl (10, [.ref 1, .int 0, .int 0, .int 0, .int 0]), .inl (1, [.ref 3, .ref 5, .ref 18, .int 0, .ref 19, .ref 20, .ref 21, .int 0, .int 0]), .inr (2, 12, .inr 6), .inr (0, 72, .inl (fun _ => 0)), .inr (0, 72, .inl (fun _ => 0)), .inr (0, 72, .inl (fun _ => 0)), .inr (0, 72, .inl (fun _ => 0)), .inr (0, 72, .inl (fun _ => 0)), .inr (0, 72, .inl (fun _ => 0)), .inr (0, 72, .inl (fun _ => 0)), .inr (0, 72, .inl (fun _ => 0)), .inr (0, 72, .inl (fun _ => 0)), .inr (0, 72, .inl (fun _ => 0)), .inr (0, 72, .inl (fun _ => 0)), .inr (0, 72, .inl (fun _ => 0)), .inr (0, 72, .inl (fun _ => 0)), .inr (0, 24, .inl (fun _ => 0)), .inr (0, 3, .inl (fun _ => 0)), .inr (0, 3, .inl (fun _ => 0)), .inl (2, [.ref 23, .int 0, .ref 24, .ref 25, .ref 26, .int 9999, .int 0]), .inr (0, 10, .inl (fun _ => 0)), .inr (0, 3, .inl (fun _ => 0)), .inr (0, 3, .inl (fun _ => 0)), .inr (0, 4, .inl (upd (upd (upd (upd (fun _ => 0) (0 : Int32).toNatClampNeg 999) (1 : Int32).toNatClampNeg 999) (2 : Int32).toNatClampNeg 999) (3 : Int32).toNatClampNeg 999)), .inl (7, [.int 0, .ref 28, .ref 29, .ref 30, .ref 31, .int 1]), .inr (0, 10, .inl (fun _ => 0)), .inr (0, 10, .inl (fun _ => 0)), .inr (0, 10, .inl (fun _ => 0)), .inr (0, 10, .inl (fun _ => 0)), .inl (7, [.int 0, .ref 33, .ref 34, .ref 35, .ref 36, .int 1]), .inr (0, 10, .inl (fun _ => 0)), .inr (0, 10, .inl (fun _ => 0)), .inr (0, 10, .inl (fun _ => 0)), .inr (0, 10, .inl (fun _ => 0))]
def nx_58 : List nn_C := nx_57 ++ [.inl (3, [.null, .null, .int 0, .null, .null, .null, .null, .int 0, .null, .null, .int 0, .int 0])]
def nx_59 : List nn_C := nx_58 ++ [.inr (0, 160, .inl (fun _ => 0))]
def nx_60 : List nn_C := nx_59.set 37 (.inl (3, [.ref 38, .null, .int 0, .null, .null, .null, .null, .int 0, .null, .null, .int 0, .int 0]))
def nx_61 : List nn_C := nx_60 ++ [.inr (0, 160, .inl (fun _ => 0))]
def nx_62 : List nn_C := nx_61.set 37 (.inl (3, [.ref 38, .ref 39, .int 0, .null, .null, .null, .null, .int 0, .null, .null, .int 0, .int 0]))
def nx_63 : List nn_C := nx_62 ++ [.inr (0, 12, .inl (fun _ => 0))]
def nx_64 : List nn_C := nx_63.set 37 (.inl (3, [.ref 38, .ref 39, .int 0, .ref 40, .null, .null, .null, .int 0, .null, .null, .int 0, .int 0]))
def nx_65 : List nn_C := [.inl (11, [.ref 1, .ref 4, .ref 22, .ref 27, .ref 32, .int 0, .null, .null, .null, .null, .null, .null, .null]), .inl (9, [.ref 2, .int 0]), .inr (0, 200, .inl (fun _ => 0)), .inl (10, [.ref 1, .int 0, .int 0, .int 0, .int 0]), .inl (1, [.ref 3, .ref 5, .ref 18, .int 0, .ref 19, .ref 20, .ref 21, .int 0, .int 0]), .inr (2, 12, .inr 6), .inr (0, 72, .inl (fun _ => 0)), .inr (0, 72, .inl (fun _ => 0)), .inr (0, 72, .inl (fun _ => 0)), .inr (0, 72, .inl (fun _ => 0)), .inr (0, 72, .inl (fun _ => 0)), .inr (0, 72, .inl (fun _ => 0)), .inr (0, 72, .inl (fun _ => 0)), .inr (0, 72, .inl (fun _ => 0)), .inr (0, 72, .inl (fun _ => 0)), .inr (0, 72, .inl (fun _ => 0)), .inr (0, 72, .inl (fun _ => 0)), .inr (0, 72, .inl (fun _ => 0)), .inr (0, 72, .inl (fun _ => 0)), .inr (0, 24, .inl (fun _ => 0)), .inr (0, 3, .inl (fun _ => 0)), .inr (0, 3, .inl (fun _ => 0)), .inl (2, [.ref 23, .int 0, .ref 24, .ref 25, .ref 26, .int 9999, .int 0]), .inr (0, 10, .inl (fun _ => 0)), .inr (0, 3, .inl (fun _ => 0)), .inr (0, 3, .inl (fun _ => 0)), .inr (0, 4, .inl (upd (upd (upd (upd (fun _ => 0) (0 : Int32).toNatClampNeg 999) (1 : Int32).toNatClampNeg 999) (2 : Int32).toNatClampNeg 999) (3 : Int32).toNatClampNeg 999)), .inl (7, [.int 0, .ref 28, .ref 29, .ref 30, .ref 31, .int 1]), .inr (0, 10, .inl (fun _ => 0)), .inr (0, 10, .inl (fun _ => 0)), .inr (0, 10, .inl (fun _ => 0)), .inr (0, 10, .inl (fun _ => 0)), .inl (7, [.int 0, .ref 33, .ref 34, .ref 35, .ref 36, .int 1]), .inr (0, 10, .inl (fun _ => 0)), .inr (0, 10, .inl (fun _ => 0)), .inr (0, 10, .inl (fun _ => 0)), .inr (0, 10, .inl (fun _ => 0)), .inl (3, [.ref 38, .ref 39, .int 0, .ref 40, .null, .null, .null, .int 0, .null, .null, .int 0, .int 0]), .inr (0, 160, .inl (fun _ => 0)), .inr (0, 160, .inl (fun _ => 0)), .inr (0, 12, .inl (fun _ => 0)), .inr (0, 12, .inl (fun _ => 0))]
def nx_66 : List nn_C := nx_65.set 37 (.inl (3, [.ref 38, .ref 39, .int 0, .ref 40, .ref 41, .null, .null, .int 0, .null, .null, .int 0, .int 0]))
def nx_67 : List nn_C := nx_66 ++ [.inr (0, 12, .inl (fun _ => 0))]
def nx_68 : List nn_C := nx_67.set 37 (.inl (3, [.ref 38, .ref 39, .int 0, .ref 40, .ref 41, .ref 42, .null, .int 0, .null, .null, .int 0, .int 0]))
def nx_69 : List nn_C := nx_68 ++ [.inr (0, 12, .inl (fun _ => 0))]
def nx_70 : List nn_C := nx_69.set 37 (.inl (3, [.ref 38, .ref 39, .int 0, .ref 40, .ref 41, .ref 42, .ref 43, .int 0, .null, .null, .int 0, .int 0]))
def nx_71 : List nn_C := nx_70 ++ [.inr (0, 9, .inl (fun _ => 0))]
def nx_72 : List nn_C := nx_71.set 37 (.inl (3, [.ref 38, .ref 39, .int 0, .ref 40, .ref 41, .ref 42, .ref 43, .int 0, .ref 44, .null, .int 0, .int 0]))
def nx_73 : List nn_C := [.inl (11, [.ref 1, .ref 4, .ref 22, .ref 27, .ref 32, .int 0, .null, .null, .null, .null, .null, .null, .null]), .inl (9, [.ref 2, .int 0]), .inr (0, 200, .inl (fun _ => 0)), .inl (10, [.ref 1, .int 0, .int 0, .int 0, .int 0]), .inl (1, [.ref 3, .ref 5, .ref 18, .int 0, .ref 19, .ref 20, .ref 21, .int 0, .int 0]), .inr (2, 12, .inr 6), .inr (0, 72, .inl (fun _ => 0)), .inr (0, 72, .inl (fun _ => 0)), .inr (0, 72, .inl (fun _ => 0)), .inr (0, 72, .inl (fun _ => 0)), .inr (0, 72, .inl (fun _ => 0)), .inr (0, 72, .inl (fun _ => 0)), .inr (0, 72, .inl (fun _ => 0)), .inr (0, 72, .inl (fun _ => 0)), .inr (0, 72, .inl (fun _ => 0)), .inr (0, 72, .inl (fun _ => 0)), .inr (0, 72, .inl (fun _ => 0)), .inr (0, 72, .inl (fun _ => 0)), .inr (0, 72, .inl (fun _ => 0)), .inr (0, 24, .inl (fun _ => 0)), .inr (0, 3, .inl (fun _ => 0)), .inr (0, 3, .inl (fun _ => 0)), .inl (2, [.ref 23, .int 0, .ref 24, .ref 25, .ref 26, .int 9999, .int 0]), .inr (0, 10, .inl (fun _ => 0)), .inr (0, 3, .inl (fun _ => 0)), .inr (0, 3, .inl (fun _ => 0)), .inr (0, 4, .inl (upd (upd (upd (upd (fun _ => 0) (0 : Int32).toNatClampNeg 999) (1 : Int32).toNatClampNeg 999) (2 : Int32).toNatClampNeg 999) (3 : Int32).toNatClampNeg 999)), .inl (7, [.int 0, .ref 28, .ref 29, .ref 30, .ref 31, .int 1]), .inr (0, 10, .inl (fun _ => 0)), .inr (0, 10, .inl (fun _ => 0)), .inr (0, 10, .inl (fun _ => 0)), .inr (0, 10, .inl (fun _ => 0)), .inl (7, [.int 0, .ref 33, .ref 34, .ref 35, .ref 36, .int 1]), .inr (0, 10, .inl (fun _ => 0)), .inr (0, 10, .inl (fun _ => 0)), .inr (0, 10, .inl (fun _ => 0)), .inr (0, 10, .inl (fun _ => 0)), .inl (3, [.ref 38, .ref 39, .int 0, .ref 40, .ref 41, .ref 42, .ref 43, .int 0, .ref 44, .null, .int 0, .int 0]), .inr (0, 160, .inl (fun _ => 0)), .inr (0, 160, .inl (fun _ => 0)), .inr (0, 12, .inl (fun _ => 0)), .inr (0, 12, .inl (fun _ => 0)), .inr (0, 12, .inl (fun _ => 0)), .inr (0, 12, .inl (fun _ => 0)), .inr (0, 9, .inl (fun _ => 0)), .inr (0, 160, .inl (fun _ => 0))]
def nx_74 : List nn_C := nx_73.set 37 (.inl (3, [.ref 38, .ref 39, .int 0, .ref 40, .ref 41, .ref 42, .ref 43, .int 0, .ref 44, .ref 45, .int 0, .int 0]))
def nx_75 : List nn_C := nx_74.set 0 (.inl (11, [.ref 1, .ref 4, .ref 22, .ref 27, .ref 32, .int 0, .ref 37, .null, .null, .null, .null, .null, .null]))
def nx_76 : List nn_C := nx_75 ++ [.inl (3, [.null, .null, .int 0, .null, .null, .null, .null, .int 0, .null, .null, .int 0, .int 0])]
def nx_77 : List nn_C := nx_76 ++ [.inr (0, 160, .inl (fun _ => 0))]
def nx_78 : List nn_C := nx_77.set 46 (.inl (3, [.ref 47, .null, .int 0, .null, .null, .null, .null, .int 0, .null, .null, .int 0, .int 0]))
def nx_79 : List nn_C := nx_78 ++ [.inr (0, 160, .inl (fun _ => 0))]
def nx_80 : List nn_C := nx_79.set 46 (.inl (3, [.ref 47, .ref 48, .int 0, .null, .null, .null, .null, .int 0, .null, .null, .int 0, .int 0]))
def nx_81 : List nn_C := [.inl (11, [.ref 1, .ref 4, .ref 22, .ref 27, .ref 32, .int 0, .ref 37, .null, .null, .null, .null, .null, .null]), .inl (9, [.ref 2, .int 0]), .inr (0, 200, .inl (fun _ => 0)), .inl (10, [.ref 1, .int 0, .int 0, .int 0, .int 0]), .inl (1, [.ref 3, .ref 5, .ref 18, .int 0, .ref 19, .ref 20, .ref 21, .int 0, .int 0]), .inr (2, 12, .inr 6), .inr (0, 72, .inl (fun _ => 0)), .inr (0, 72, .inl (fun _ => 0)), .inr (0, 72, .inl (fun _ => 0)), .inr (0, 72, .inl (fun _ => 0)), .inr (0, 72, .inl (fun _ => 0)), .inr (0, 72, .inl (fun _ => 0)), .inr (0, 72, .inl (fun _ => 0)), .inr (0, 72, .inl (fun _ => 0)), .inr (0, 72, .inl (fun _ => 0)), .inr (0, 72, .inl (fun _ => 0)), .inr (0, 72, .inl (fun _ => 0)), .inr (0, 72, .inl (fun _ => 0)), .inr (0, 72, .inl (fun _ => 0)), .inr (0, 24, .inl (fun _ => 0)), .inr (0, 3, .inl (fun _ => 0)), .inr (0, 3, .inl (fun _ => 0)), .inl (2, [.ref 23, .int 0, .ref 24, .ref 25, .ref 26, .int 9999, .int 0]), .inr (0, 10, .inl (fun _ => 0)), .inr (0, 3, .inl (fun _ => 0)), .inr (0, 3, .inl (fun _ => 0)), .inr (0, 4, .inl (upd (upd (upd (upd (fun _ => 0) (0 : Int32).toNatClampNeg 999) (1 : Int32).toNatClampNeg 999) (2 : Int32).toNatClampNeg 999) (3 : Int32).toNatClampNeg 999)), .inl (7, [.int 0, .ref 28, .ref 29, .ref 30, .ref 31, .int 1]), .inr (0, 10, .inl (fun _ => 0)), .inr (0, 10, .inl (fun _ => 0)), .inr (0, 10, .inl (fun _ => 0)), .inr (0, 10, .inl (fun _ => 0)), .inl (7, [.int 0, .ref 33, .ref 34, .ref 35, .ref 36, .int 1]), .inr (0, 10, .inl (fun _ => 0)), .inr (0, 10, .inl (fun _ => 0)), .inr (0, 10, .inl (fun _ => 0)), .inr (0, 10, .inl (fun _ => 0)), .inl (3, [.ref 38, .ref 39, .int 0, .ref 40, .ref 41, .ref 42, .ref 43, .int 0, .ref 44, .ref 45, .int 0, .int 0]), .inr (0, 160, .inl (fun _ => 0)), .inr (0, 160, .inl (fun _ => 0)), .inr (0, 12, .inl (fun _ => 0)), .inr (0, 12, .inl (fun _ => 0)), .inr (0, 12, .inl (fun _ => 0)), .inr (0, 12, .inl (fun _ => 0)), .inr (0, 9, .inl (fun _ => 0)), .inr (0, 160, .inl (fun _ => 0)), .inl (3, [.ref 47, .ref 48, .int 0, .null, .null, .null, .null, .int 0, .null, .null, .int 0, .int 0]), .inr (0, 160, .inl (fun _ => 0)), .inr (0, 160, .inl (fun _ => 0)), .inr (0, 12, .inl (fun _ => 0))]
def nx_82 : List nn_C := nx_81.set 46 (.inl (3, [.ref 47, .ref 48, .int 0, .ref 49, .null, .null, .null, .int 0, .null, .null, .int 0, .int 0]))
def nx_83 : List nn_C := nx_82 ++ [.inr (0, 12, .inl (fun _ => 0))]
def nx_84 : List nn_C := nx_83.set 46 (.inl (3, [.ref 47, .ref 48, .int 0, .ref 49, .ref 50, .null, .null, .int 0, .null, .null, .int 0, .int 0]))
def nx_85 : List nn_C := nx_84 ++ [.inr (0, 12, .inl (fun _ => 0))]
def nx_86 : List nn_C := nx_85.set 46 (.inl (3, [.ref 47, .ref 48, .int 0, .ref 49, .ref 50, .ref 51, .null, .int 0, .null, .null, .int 0, .int 0]))
def nx_87 : List nn_C := nx_86 ++ [.inr (0, 12, .inl (fun _ => 0))]
def nx_88 : List nn_C := nx_87.set 46 (.inl (3, [.ref 47, .ref 48, .int 0, .ref 49, .ref 50, .ref 51, .ref 52, .int 0, .null, .null, .int 0, .int 0]))
def nx_89 : List nn_C := [.inl (11, [.ref 1, .ref 4, .ref 22, .ref 27, .ref 32, .int 0, .ref 37, .null, .null, .null, .null, .null, .null]), .inl (9, [.ref 2, .int 0]), .inr (0, 200, .inl (fun _ => 0)), .inl (10, [.ref 1, .int 0, .int 0, .int 0, .int 0]), .inl (1, [.ref 3, .ref 5, .ref 18, .int 0, .ref 19, .ref 20, .ref 21, .int 0, .int 0]), .inr (2, 12, .inr 6), .inr (0, 72, .inl (fun _ => 0)), .inr (0, 72, .inl (fun _ => 0)), .inr (0, 72, .inl (fun _ => 0)), .inr (0, 72, .inl (fun _ => 0)), .inr (0, 72, .inl (fun _ => 0)), .inr (0, 72, .inl (fun _ => 0)), .inr (0, 72, .inl (fun _ => 0)), .inr (0, 72, .inl (fun _ => 0)), .inr (0, 72, .inl (fun _ => 0)), .inr (0, 72, .inl (fun _ => 0)), .inr (0, 72, .inl (fun _ => 0)), .inr (0, 72, .inl (fun _ => 0)), .inr (0, 72, .inl (fun _ => 0)), .inr (0, 24, .inl (fun _ => 0)), .inr (0, 3, .inl (fun _ => 0)), .inr (0, 3, .inl (fun _ => 0)), .inl (2, [.ref 23, .int 0, .ref 24, .ref 25, .ref 26, .int 9999, .int 0]), .inr (0, 10, .inl (fun _ => 0)), .inr (0, 3, .inl (fun _ => 0)), .inr (0, 3, .inl (fun _ => 0)), .inr (0, 4, .inl (upd (upd (upd (upd (fun _ => 0) (0 : Int32).toNatClampNeg 999) (1 : Int32).toNatClampNeg 999) (2 : Int32).toNatClampNeg 999) (3 : Int32).toNatClampNeg 999)), .inl (7, [.int 0, .ref 28, .ref 29, .ref 30, .ref 31, .int 1]), .inr (0, 10, .inl (fun _ => 0)), .inr (0, 10, .inl (fun _ => 0)), .inr (0, 10, .inl (fun _ => 0)), .inr (0, 10, .inl (fun _ => 0)), .inl (7, [.int 0, .ref 33, .ref 34, .ref 35, .ref 36, .int 1]), .inr (0, 10, .inl (fun _ => 0)), .inr (0, 10, .inl (fun _ => 0)), .inr (0, 10, .inl (fun _ => 0)), .inr (0, 10, .inl (fun _ => 0)), .inl (3, [.ref 38, .ref 39, .int 0, .ref 40, .ref 41, .ref 42, .ref 43, .int 0, .ref 44, .ref 45, .int 0, .int 0]), .inr (0, 160, .inl (fun _ => 0)), .inr (0, 160, .inl (fun _ => 0)), .inr (0, 12, .inl (fun _ => 0)), .inr (0, 12, .inl (fun _ => 0)), .inr (0, 12, .inl (fun _ => 0)), .inr (0, 12, .inl (fun _ => 0)), .inr (0, 9, .inl (fun _ => 0)), .inr (0, 160, .inl (fun _ => 0)), .inl (3, [.ref 47, .ref 48, .int 0, .ref 49, .ref 50, .ref 51, .ref 52, .int 0, .null, .null, .int 0, .int 0]), .inr (0, 160, .inl (fun _ => 0)), .inr (0, 160, .inl (fun _ => 0)), .inr (0, 12, .inl (fun _ => 0)), .inr (0, 12, .inl (fun _ => 0)), .inr (0, 12, .inl (fun _ => 0)), .inr (0, 12, .inl (fun _ => 0)), .inr (0, 9, .inl (fun _ => 0))]
def nx_90 : List nn_C := nx_89.set 46 (.inl (3, [.ref 47, .ref 48, .int 0, .ref 49, .ref 50, .ref 51, .ref 52, .int 0, .ref 53, .null, .int 0, .int 0]))
def nx_91 : List nn_C := nx_90 ++ [.inr (0, 160, .inl (fun _ => 0))]
def nx_92 : List nn_C := nx_91.set 46 (.inl (3, [.ref 47, .ref 48, .int 0, .ref 49, .ref 50, .ref 51, .ref 52, .int 0, .ref 53, .ref 54, .int 0, .int 0]))
def nx_93 : List nn_C := nx_92.set 0 (.inl (11, [.ref 1, .ref 4, .ref 22, .ref 27, .ref 32, .int 0, .ref 37, .ref 46, .null, .null, .null, .null, .null]))
def nx_94 : List nn_C := nx_93 ++ [.inl (4, [.null, .null])]
def nx_95 : List nn_C := nx_94.set 55 (.inl (4, [.ref 3, .null]))
def nx_96 : List nn_C := nx_95.set 55 (.inl (4, [.ref 3, .ref 46]))
def nx_97 : List nn_C := [.inl (11, [.ref 1, .ref 4, .ref 22, .ref 27, .ref 32, .int 0, .ref 37, .ref 46, .ref 55, .null, .null, .null, .null]), .inl (9, [.ref 2, .int 0]), .inr (0, 200, .inl (fun _ => 0)), .inl (10, [.ref 1, .int 0, .int 0, .int 0, .int 0]), .inl (1, [.ref 3, .ref 5, .ref 18, .int 0, .ref 19, .ref 20, .ref 21, .int 0, .int 0]), .inr (2, 12, .inr 6), .inr (0, 72, .inl (fun _ => 0)), .inr (0, 72, .inl (fun _ => 0)), .inr (0, 72, .inl (fun _ => 0)), .inr (0, 72, .inl (fun _ => 0)), .inr (0, 72, .inl (fun _ => 0)), .inr (0, 72, .inl (fun _ => 0)), .inr (0, 72, .inl (fun _ => 0)), .inr (0, 72, .inl (fun _ => 0)), .inr (0, 72, .inl (fun _ => 0)), .inr (0, 72, .inl (fun _ => 0)), .inr (0, 72, .inl (fun _ => 0)), .inr (0, 72, .inl (fun _ => 0)), .inr (0, 72, .inl (fun _ => 0)), .inr (0, 24, .inl (fun _ => 0)), .inr (0, 3, .inl (fun _ => 0)), .inr (0, 3, .inl (fun _ => 0)), .inl (2, [.ref 23, .int 0, .ref 24, .ref 25, .ref 26, .int 9999, .int 0]), .inr (0, 10, .inl (fun _ => 0)), .inr (0, 3, .inl (fun _ => 0)), .inr (0, 3, .inl (fun _ => 0)), .inr (0, 4, .inl (upd (upd (upd (upd (fun _ => 0) (0 : Int32).toNatClampNeg 999) (1 : Int32).toNatClampNeg 999) (2 : Int32).toNatClampNeg 999) (3 : Int32).toNatClampNeg 999)), .inl (7, [.int 0, .ref 28, .ref 29, .ref 30, .ref 31, .int 1]), .inr (0, 10, .inl (fun _ => 0)), .inr (0, 10, .inl (fun _ => 0)), .inr (0, 10, .inl (fun _ => 0)), .inr (0, 10, .inl (fun _ => 0)), .inl (7, [.int 0, .ref 33, .ref 34, .ref 35, .ref 36, .int 1]), .inr (0, 10, .inl (fun _ => 0)), .inr (0, 10, .inl (fun _ => 0)), .inr (0, 10, .inl (fun _ => 0)), .inr (0, 10, .inl (fun _ => 0)), .inl (3, [.ref 38, .ref 39, .int 0, .ref 40, .ref 41, .ref 42, .ref 43, .int 0, .ref 44, .ref 45, .int 0, .int 0]), .inr (0, 160, .inl (fun _ => 0)), .inr (0, 160, .inl (fun _ => 0)), .inr (0, 12, .inl (fun _ => 0)), .inr (0, 12, .inl (fun _ => 0)), .inr (0, 12, .inl (fun _ => 0)), .inr (0, 12, .inl (fun _ => 0)), .inr (0, 9, .inl (fun _ => 0)), .inr (0, 160, .inl (fun _ => 0)), .inl (3, [.ref 47, .ref 48, .int 0, .ref 49, .ref 50, .ref 51, .ref 52, .int 0, .ref 53, .ref 54, .int 0, .int 0]), .inr (0, 160, .inl (fun _ => 0)), .inr (0, 160, .inl (fun _ => 0)), .inr (0, 12, .inl (fun _ => 0)), .inr (0, 12, .inl (fun _ => 0)), .inr (0, 12, .inl (fun _ => 0)), .inr (0, 12, .inl (fun _ => 0)), .inr (0, 9, .inl (fun _ => 0)), .inr (0, 160, .inl (fun _ => 0)), .inl (4, [.ref 3, .ref 46])]
def nx_98 : List nn_C := nx_97 ++ [.inl (5, [.null, .null, .null, .null, .null, .null, .null, .int 0, .int 0, .int 0])]
def nx_99 : List nn_C := [.inl (11, [.ref 1, .ref 4, .ref 22, .ref 27, .ref 32, .int 0, .ref 37, .ref 46, .ref 55, .null, .null, .null, .null]), .inl (9, [.ref 2, .int 0]), .inr (0, 200, .inl (fun _ => 0)), .inl (10, [.ref 1, .int 0, .int 0, .int 0, .int 0]), .inl (1, [.ref 3, .ref 5, .ref 18, .int 0, .ref 19, .ref 20, .ref 21, .int 0, .int 0]), .inr (2, 12, .inr 6), .inr (0, 72, .inl (fun _ => 0)), .inr (0, 72, .inl (fun _ => 0)), .inr (0, 72, .inl (fun _ => 0)), .inr (0, 72, .inl (fun _ => 0)), .inr (0, 72, .inl (fun _ => 0)), .inr (0, 72, .inl (fun _ => 0)), .inr (0, 72, .inl (fun _ => 0)), .inr (0, 72, .inl (fun _ => 0)), .inr (0, 72, .inl (fun _ => 0)), .inr (0, 72, .inl (fun _ => 0)), .inr (0, 72, .inl (fun _ => 0)), .inr (0, 72, .inl (fun _ => 0)), .inr (0, 72, .inl (fun _ => 0)), .inr (0, 24, .inl (fun _ => 0)), .inr (0, 3, .inl (fun _ => 0)), .inr (0, 3, .inl (fun _ => 0)), .inl (2, [.ref 23, .int 0, .ref 24, .ref 25, .ref 26, .int 9999, .int 0]), .inr (0, 10, .inl (fun _ => 0)), .inr (0, 3, .inl (fun _ => 0)), .inr (0, 3, .inl (fun _ => 0)), .inr (0, 4, .inl (upd (upd (upd (upd (fun _ => 0) (0 : Int32).toNatClampNeg 999) (1 : Int32).toNatClampNeg 999) (2 : Int32).toNatClampNeg 999) (3 : Int32).toNatClampNeg 999)), .inl (7, [.int 0, .ref 28, .ref 29, .ref 30, .ref 31, .int 1]), .inr (0, 10, .inl (fun _ => 0)), .inr (0, 10, .inl (fun _ => 0)), .inr (0, 10, .inl (fun _ => 0)), .inr (0, 10, .inl (fun _ => 0)), .inl (7, [.int 0, .ref 33, .ref 34, .ref 35, .ref 36, .int 1]), .inr (0, 10, .inl (fun _ => 0)), .inr (0, 10, .inl (fun _ => 0)), .inr (0, 10, .inl (fun _ => 0)), .inr (0, 10, .inl (fun _ => 0)), .inl (3, [.ref 38, .ref 39, .int 0, .ref 40, .ref 41, .ref 42, .ref 43, .int 0, .ref 44, .ref 45, .int 0, .int 0]), .inr (0, 160, .inl (fun _ => 0)), .inr (0, 160, .inl (fun _ => 0)), .inr (0, 12, .inl (fun _ => 0)), .inr (0, 12, .inl (fun _ => 0)), .inr (0, 12, .inl (fun _ => 0)), .inr (0, 12, .inl (fun _ => 0)), .inr (0, 9, .inl (fun _ => 0)), .inr (0, 160, .inl (fun _ => 0)), .inl (3, [.ref 47, .ref 48, .int 0, .ref 49, .ref 50, .ref 51, .ref 52, .int 0, .ref 53, .ref 54, .int 0, .int 0]), .inr (0, 160, .inl (fun _ => 0)), .inr (0, 160, .inl (fun _ => 0)), .inr (0, 12, .inl (fun _ => 0)), .inr (0, 12, .inl (fun _ => 0)), .inr (0, 12, .inl (fun _ => 0)), .inr (0, 12, .inl (fun _ => 0)), .inr (0, 9, .inl (fun _ => 0)), .inr (0, 160, .inl (fun _ => 0)), .inl (4, [.ref 3, .ref 46]), .inl (5, [.null, .null, .null, .null, .null, .null, .null, .int 0, .int 0, .int 0]), .inr (2, 10, .inr 58), .inr (0, 72, .inl (fun _ => 0)), .inr (0, 72, .inl (fun _ => 0)), .inr (0, 72, .inl (fun _ => 0)), .inr (0, 72, .inl (fun _ => 0)), .inr (0, 72, .inl (fun _ => 0)), .inr (0, 72, .inl (fun _ => 0)), .inr (0, 72, .inl (fun _ => 0)), .inr (0, 72, .inl (fun _ => 0)), .inr (0, 72, .inl (fun _ => 0)), .inr (0, 72, .inl (fun _ => 0))]
def nx_100 : List nn_C := nx_99.set 56 (.inl (5, [.null, .null, .null, .ref 57, .null, .null, .null, .int 0, .int 0, .int 0]))
def nx_101 : List nn_C := nx_100 ++ [.inr (0, 10, .inl (fun _ => 0))]
def nx_102 : List nn_C := nx_101.set 56 (.inl (5, [.null, .null, .null, .ref 57, .ref 68, .null, .null, .int 0, .int 0, .int 0]))
def nx_103 : List nn_C := nx_102 ++ [.inr (0, 72, .inl (fun _ => 0))]
def nx_104 : List nn_C := nx_103.set 56 (.inl (5, [.null, .null, .null, .ref 57, .ref 68, .ref 69, .null, .int 0, .int 0, .int 0]))
def nx_105 : List nn_C := nx_104 ++ [.inr (0, 96, .inl (fun _ => 0))]
def nx_106 : List nn_C := nx_105.set 56 (.inl (5, [.null, .null, .null, .ref 57, .ref 68, .ref 69, .ref 70, .int 0, .int 0, .int 0]))
def nx_107 : List nn_C := [.inl (11, [.ref 1, .ref 4, .ref 22, .ref 27, .ref 32, .int 0, .ref 37, .ref 46, .ref 55, .null, .null, .null, .null]), .inl (9, [.ref 2, .int 0]), .inr (0, 200, .inl (fun _ => 0)), .inl (10, [.ref 1, .int 0, .int 0, .int 0, .int 0]), .inl (1, [.ref 3, .ref 5, .ref 18, .int 0, .ref 19, .ref 20, .ref 21, .int 0, .int 0]), .inr (2, 12, .inr 6), .inr (0, 72, .inl (fun _ => 0)), .inr (0, 72, .inl (fun _ => 0)), .inr (0, 72, .inl (fun _ => 0)), .inr (0, 72, .inl (fun _ => 0)), .inr (0, 72, .inl (fun _ => 0)), .inr (0, 72, .inl (fun _ => 0)), .inr (0, 72, .inl (fun _ => 0)), .inr (0, 72, .inl (fun _ => 0)), .inr (0, 72, .inl (fun _ => 0)), .inr (0, 72, .inl (fun _ => 0)), .inr (0, 72, .inl (fun _ => 0)), .inr (0, 72, .inl (fun _ => 0)), .inr (0, 72, .inl (fun _ => 0)), .inr (0, 24, .inl (fun _ => 0)), .inr (0, 3, .inl (fun _ => 0)), .inr (0, 3, .inl (fun _ => 0)), .inl (2, [.ref 23, .int 0, .ref 24, .ref 25, .ref 26, .int 9999, .int 0]), .inr (0, 10, .inl (fun _ => 0)), .inr (0, 3, .inl (fun _ => 0)), .inr (0, 3, .inl (fun _ => 0)), .inr (0, 4, .inl (upd (upd (upd (upd (fun _ => 0) (0 : Int32).toNatClampNeg 999) (1 : Int32).toNatClampNeg 999) (2 : Int32).toNatClampNeg 999) (3 : Int32).toNatClampNeg 999)), .inl (7, [.int 0, .ref 28, .ref 29, .ref 30, .ref 31, .int 1]), .inr (0, 10, .inl (fun _ => 0)), .inr (0, 10, .inl (fun _ => 0)), .inr (0, 10, .inl (fun _ => 0)), .inr (0, 10, .inl (fun _ => 0)), .inl (7, [.int 0, .ref 33, .ref 34, .ref 35, .ref 36, .int 1]), .inr (0, 10, .inl (fun _ => 0)), .inr (0, 10, .inl (fun _ => 0)), .inr (0, 10, .inl (fun _ => 0)), .inr (0, 10, .inl (fun _ => 0)), .inl (3, [.ref 38, .ref 39, .int 0, .ref 40, .ref 41, .ref 42, .ref 43, .int 0, .ref 44, .ref 45, .int 0, .int 0]), .inr (0, 160, .inl (fun _ => 0)), .inr (0, 160, .inl (fun _ => 0)), .inr (0, 12, .inl (fun _ => 0)), .inr (0, 12, .inl (fun _ => 0)), .inr (0, 12, .inl (fun _ => 0)), .inr (0, 12, .inl (fun _ => 0)), .inr (0, 9, .inl (fun _ => 0)), .inr (0, 160, .inl (fun _ => 0)), .inl (3, [.ref 47, .ref 48, .int 0, .ref 49, .ref 50, .ref 51, .ref 52, .int 0, .ref 53, .ref 54, .int 0, .int 0]), .inr (0, 160, .inl (fun _ => 0)), .inr (0, 160, .inl (fun _ => 0)), .inr (0, 12, .inl (fun _ => 0)), .inr (0, 12, .inl (fun _ => 0)), .inr (0, 12, .inl (fun _ => 0)), .inr (0, 12, .inl (fun _ => 0)), .inr (0, 9, .inl (fun _ => 0)), .inr (0, 160, .inl (fun _ => 0)), .inl (4, [.ref 3, .ref 46]), .inl (5, [.ref 22, .null, .null, .ref 57, .ref 68, .ref 69, .ref 70, .int 0, .int 0, .int 0]), .inr (2, 10, .inr 58), .inr (0, 72, .inl (fun _ => 0)), .inr (0, 72, .inl (fun _ => 0)), .inr (0, 72, .inl (fun _ => 0)), .inr (0, 72, .inl (fun _ => 0)), .inr (0, 72, .inl (fun _ => 0)), .inr (0, 72, .inl (fun _ => 0)), .inr (0, 72, .inl (fun _ => 0)), .inr (0, 72, .inl (fun _ => 0)), .inr (0, 72, .inl (fun _ => 0)), .inr (0, 72, .inl (fun _ => 0)), .inr (0, 10, .inl (fun _ => 0)), .inr (0, 72, .inl (fun _ => 0)), .inr (0, 96, .inl (fun _ => 0))]
def nx_108 : List nn_C := nx_107.set 56 (.inl (5, [.ref 22, .ref 27, .null, .ref 57, .ref 68, .ref 69, .ref 70, .int 0, .int 0, .int 0]))
def nx_109 : List nn_C := nx_108.set 56 (.inl (5, [.ref 22, .ref 27, .ref 4, .ref 57, .ref 68, .ref 69, .ref 70, .int 0, .int 0, .int 0]))
def nx_110 : List nn_C := nx_109.set 0 (.inl (11, [.ref 1, .ref 4, .ref 22, .ref 27, .ref 32, .int 0, .ref 37, .ref 46, .ref 55, .ref 56, .null, .null, .null]))
def nx_111 : List nn_C := nx_110 ++ [.inl (0, [.null, .null, .null, .int 0, .int 0, .null, .long 0, .long 0])]
def nx_112 : List nn_C := nx_111 ++ [.inr (0, 3, .inl (fun _ => 0))]
def nx_113 : List nn_C := nx_112.set 71 (.inl (0, [.null, .null, .null, .int 0, .int 0, .ref 72, .long 0, .long 0]))
def nx_114 : List nn_C := nx_113.set 71 (.inl (0, [.ref 22, .null, .null, .int 0, .int 0, .ref 72, .long 0, .long 0]))
def nx_115 : List nn_C := [.inl (11, [.ref 1, .ref 4, .ref 22, .ref 27, .ref 32, .int 0, .ref 37, .ref 46, .ref 55, .ref 56, .null, .null, .null]), .inl (9, [.ref 2, .int 0]), .inr (0, 200, .inl (fun _ => 0)), .inl (10, [.ref 1, .int 0, .int 0, .int 0, .int 0]), .inl (1, [.ref 3, .ref 5, .ref 18, .int 0, .ref 19, .ref 20, .ref 21, .int 0, .int 0]), .inr (2, 12, .inr 6), .inr (0, 72, .inl (fun _ => 0)), .inr (0, 72, .inl (fun _ => 0)), .inr (0, 72, .inl (fun _ => 0)), .inr (0, 72, .inl (fun _ => 0)), .inr (0, 72, .inl (fun _ => 0)), .inr (0, 72, .inl (fun _ => 0)), .inr (0, 72, .inl (fun _ => 0)), .inr (0, 72, .inl (fun _ => 0)), .inr (0, 72, .inl (fun _ => 0)), .inr (0, 72, .inl (fun _ => 0)), .inr (0, 72, .inl (fun _ => 0)), .inr (0, 72, .inl (fun _ => 0)), .inr (0, 72, .inl (fun _ => 0)), .inr (0, 24, .inl (fun _ => 0)), .inr (0, 3, .inl (fun _ => 0)), .inr (0, 3, .inl (fun _ => 0)), .inl (2, [.ref 23, .int 0, .ref 24, .ref 25, .ref 26, .int 9999, .int 0]), .inr (0, 10, .inl (fun _ => 0)), .inr (0, 3, .inl (fun _ => 0)), .inr (0, 3, .inl (fun _ => 0)), .inr (0, 4, .inl (upd (upd (upd (upd (fun _ => 0) (0 : Int32).toNatClampNeg 999) (1 : Int32).toNatClampNeg 999) (2 : Int32).toNatClampNeg 999) (3 : Int32).toNatClampNeg 999)), .inl (7, [.int 0, .ref 28, .ref 29, .ref 30, .ref 31, .int 1]), .inr (0, 10, .inl (fun _ => 0)), .inr (0, 10, .inl (fun _ => 0)), .inr (0, 10, .inl (fun _ => 0)), .inr (0, 10, .inl (fun _ => 0)), .inl (7, [.int 0, .ref 33, .ref 34, .ref 35, .ref 36, .int 1]), .inr (0, 10, .inl (fun _ => 0)), .inr (0, 10, .inl (fun _ => 0)), .inr (0, 10, .inl (fun _ => 0)), .inr (0, 10, .inl (fun _ => 0)), .inl (3, [.ref 38, .ref 39, .int 0, .ref 40, .ref 41, .ref 42, .ref 43, .int 0, .ref 44, .ref 45, .int 0, .int 0]), .inr (0, 160, .inl (fun _ => 0)), .inr (0, 160, .inl (fun _ => 0)), .inr (0, 12, .inl (fun _ => 0)), .inr (0, 12, .inl (fun _ => 0)), .inr (0, 12, .inl (fun _ => 0)), .inr (0, 12, .inl (fun _ => 0)), .inr (0, 9, .inl (fun _ => 0)), .inr (0, 160, .inl (fun _ => 0)), .inl (3, [.ref 47, .ref 48, .int 0, .ref 49, .ref 50, .ref 51, .ref 52, .int 0, .ref 53, .ref 54, .int 0, .int 0]), .inr (0, 160, .inl (fun _ => 0)), .inr (0, 160, .inl (fun _ => 0)), .inr (0, 12, .inl (fun _ => 0)), .inr (0, 12, .inl (fun _ => 0)), .inr (0, 12, .inl (fun _ => 0)), .inr (0, 12, .inl (fun _ => 0)), .inr (0, 9, .inl (fun _ => 0)), .inr (0, 160, .inl (fun _ => 0)), .inl (4, [.ref 3, .ref 46]), .inl (5, [.ref 22, .ref 27, .ref 4, .ref 57, .ref 68, .ref 69, .ref 70, .int 0, .int 0, .int 0]), .inr (2, 10, .inr 58), .inr (0, 72, .inl (fun _ => 0)), .inr (0, 72, .inl (fun _ => 0)), .inr (0, 72, .inl (fun _ => 0)), .inr (0, 72, .inl (fun _ => 0)), .inr (0, 72, .inl (fun _ => 0)), .inr (0, 72, .inl (fun _ => 0)), .inr (0, 72, .inl (fun _ => 0)), .inr (0, 72, .inl (fun _ => 0)), .inr (0, 72, .inl (fun _ => 0)), .inr (0, 72, .inl (fun _ => 0)), .inr (0, 10, .inl (fun _ => 0)), .inr (0, 72, .inl (fun _ => 0)), .inr (0, 96, .inl (fun _ => 0)), .inl (0, [.ref 22, .ref 27, .null, .int 0, .int 0, .ref 72, .long 0, .long 0]), .inr (0, 3, .inl (fun _ => 0))]
def nx_116 : List nn_C := nx_115.set 71 (.inl (0, [.ref 22, .ref 27, .ref 56, .int 0, .int 0, .ref 72, .long 0, .long 0]))
def nx_117 : List nn_C := nx_116.set 0 (.inl (11, [.ref 1, .ref 4, .ref 22, .ref 27, .ref 32, .int 0, .ref 37, .ref 46, .ref 55, .ref 56, .ref 71, .null, .null]))
def nx_118 : List nn_C := nx_117 ++ [.inl (8, [.null, .null, .null, .null, .null, .null, .int 0, .int 0, .null, .null, .null, .null, .null, .null, .null])]
def nx_119 : List nn_C := [.inl (11, [.ref 1, .ref 4, .ref 22, .ref 27, .ref 32, .int 0, .ref 37, .ref 46, .ref 55, .ref 56, .ref 71, .null, .null]), .inl (9, [.ref 2, .int 0]), .inr (0, 200, .inl (fun _ => 0)), .inl (10, [.ref 1, .int 0, .int 0, .int 0, .int 0]), .inl (1, [.ref 3, .ref 5, .ref 18, .int 0, .ref 19, .ref 20, .ref 21, .int 0, .int 0]), .inr (2, 12, .inr 6), .inr (0, 72, .inl (fun _ => 0)), .inr (0, 72, .inl (fun _ => 0)), .inr (0, 72, .inl (fun _ => 0)), .inr (0, 72, .inl (fun _ => 0)), .inr (0, 72, .inl (fun _ => 0)), .inr (0, 72, .inl (fun _ => 0)), .inr (0, 72, .inl (fun _ => 0)), .inr (0, 72, .inl (fun _ => 0)), .inr (0, 72, .inl (fun _ => 0)), .inr (0, 72, .inl (fun _ => 0)), .inr (0, 72, .inl (fun _ => 0)), .inr (0, 72, .inl (fun _ => 0)), .inr (0, 72, .inl (fun _ => 0)), .inr (0, 24, .inl (fun _ => 0)), .inr (0, 3, .inl (fun _ => 0)), .inr (0, 3, .inl (fun _ => 0)), .inl (2, [.ref 23, .int 0, .ref 24, .ref 25, .ref 26, .int 9999, .int 0]), .inr (0, 10, .inl (fun _ => 0)), .inr (0, 3, .inl (fun _ => 0)), .inr (0, 3, .inl (fun _ => 0)), .inr (0, 4, .inl (upd (upd (upd (upd (fun _ => 0) (0 : Int32).toNatClampNeg 999) (1 : Int32).toNatClampNeg 999) (2 : Int32).toNatClampNeg 999) (3 : Int32).toNatClampNeg 999)), .inl (7, [.int 0, .ref 28, .ref 29, .ref 30, .ref 31, .int 1]), .inr (0, 10, .inl (fun _ => 0)), .inr (0, 10, .inl (fun _ => 0)), .inr (0, 10, .inl (fun _ => 0)), .inr (0, 10, .inl (fun _ => 0)), .inl (7, [.int 0, .ref 33, .ref 34, .ref 35, .ref 36, .int 1]), .inr (0, 10, .inl (fun _ => 0)), .inr (0, 10, .inl (fun _ => 0)), .inr (0, 10, .inl (fun _ => 0)), .inr (0, 10, .inl (fun _ => 0)), .inl (3, [.ref 38, .ref 39, .int 0, .ref 40, .ref 41, .ref 42, .ref 43, .int 0, .ref 44, .ref 45, .int 0, .int 0]), .inr (0, 160, .inl (fun _ => 0)), .inr (0, 160, .inl (fun _ => 0)), .inr (0, 12, .inl (fun _ => 0)), .inr (0, 12, .inl (fun _ => 0)), .inr (0, 12, .inl (fun _ => 0)), .inr (0, 12, .inl (fun _ => 0)), .inr (0, 9, .inl (fun _ => 0)), .inr (0, 160, .inl (fun _ => 0)), .inl (3, [.ref 47, .ref 48, .int 0, .ref 49, .ref 50, .ref 51, .ref 52, .int 0, .ref 53, .ref 54, .int 0, .int 0]), .inr (0, 160, .inl (fun _ => 0)), .inr (0, 160, .inl (fun _ => 0)), .inr (0, 12, .inl (fun _ => 0)), .inr (0, 12, .inl (fun _ => 0)), .inr (0, 12, .inl (fun _ => 0)), .inr (0, 12, .inl (fun _ => 0)), .inr (0, 9, .inl (fun _ => 0)), .inr (0, 160, .inl (fun _ => 0)), .inl (4, [.ref 3, .ref 46]), .inl (5, [.ref 22, .ref 27, .ref 4, .ref 57, .ref 68, .ref 69, .ref 70, .int 0, .int 0, .int 0]), .inr (2, 10, .inr 58), .inr (0, 72, .inl (fun _ => 0)), .inr (0, 72, .inl (fun _ => 0)), .inr (0, 72, .inl (fun _ => 0)), .inr (0, 72, .inl (fun _ => 0)), .inr (0, 72, .inl (fun _ => 0)), .inr (0, 72, .inl (fun _ => 0)), .inr (0, 72, .inl (fun _ => 0)), .inr (0, 72, .inl (fun _ => 0)), .inr (0, 72, .inl (fun _ => 0)), .inr (0, 72, .inl (fun _ => 0)), .inr (0, 10, .inl (fun _ => 0)), .inr (0, 72, .inl (fun _ => 0)), .inr (0, 96, .inl (fun _ => 0)), .inl (0, [.ref 22, .ref 27, .ref 56, .int 0, .int 0, .ref 72, .long 0, .long 0]), .inr (0, 3, .inl (fun _ => 0)), .inl (8, [.null, .null, .null, .null, .null, .null, .int 0, .int 0, .null, .null, .null, .null, .null, .null, .null]), .inr (2, 10, .inr 75), .inr (0, 72, .inl (fun _ => 0)), .inr (0, 72, .inl (fun _ => 0)), .inr (0, 72, .inl (fun _ => 0)), .inr (0, 72, .inl (fun _ => 0)), .inr (0, 72, .inl (fun _ => 0)), .inr (0, 72, .inl (fun _ => 0)), .inr (0, 72, .inl (fun _ => 0)), .inr (0, 72, .inl (fun _ => 0)), .inr (0, 72, .inl (fun _ => 0)), .inr (0, 72, .inl (fun _ => 0))]
def nx_120 : List nn_C := nx_119.set 73 (.inl (8, [.null, .null, .null, .null, .ref 74, .null, .int 0, .int 0, .null, .null, .null, .null, .null, .null, .null]))
def nx_121 : List nn_C := nx_120 ++ [.inr (0, 10, .inl (fun _ => 0))]
def nx_122 : List nn_C := nx_121.set 73 (.inl (8, [.null, .null, .null, .null, .ref 74, .ref 85, .int 0, .int 0, .null, .null, .null, .null, .null, .null, .null]))
def nx_123 : List nn_C := nx_122 ++ [.inr (0, 10, .inl (fun _ => 0))]
def nx_124 : List nn_C := nx_123.set 73 (.inl (8, [.null, .null, .null, .null, .ref 74, .ref 85, .int 0, .int 0, .ref 86, .null, .null, .null, .null, .null, .null]))
def nx_125 : List nn_C := nx_124 ++ [.inr (0, 10, .inl (fun _ => 0))]
def nx_126 : List nn_C := nx_125.set 73 (.inl (8, [.null, .null, .null, .null, .ref 74, .ref 85, .int 0, .int 0, .ref 86, .ref 87, .null, .null, .null, .null, .null]))
def nx_127 : List nn_C := [.inl (11, [.ref 1, .ref 4, .ref 22, .ref 27, .ref 32, .int 0, .ref 37, .ref 46, .ref 55, .ref 56, .ref 71, .null, .null]), .inl (9, [.ref 2, .int 0]), .inr (0, 200, .inl (fun _ => 0)), .inl (10, [.ref 1, .int 0, .int 0, .int 0, .int 0]), .inl (1, [.ref 3, .ref 5, .ref 18, .int 0, .ref 19, .ref 20, .ref 21, .int 0, .int 0]), .inr (2, 12, .inr 6), .inr (0, 72, .inl (fun _ => 0)), .inr (0, 72, .inl (fun _ => 0)), .inr (0, 72, .inl (fun _ => 0)), .inr (0, 72, .inl (fun _ => 0)), .inr (0, 72, .inl (fun _ => 0)), .inr (0, 72, .inl (fun _ => 0)), .inr (0, 72, .inl (fun _ => 0)), .inr (0, 72, .inl (fun _ => 0)), .inr (0, 72, .inl (fun _ => 0)), .inr (0, 72, .inl (fun _ => 0)), .inr (0, 72, .inl (fun _ => 0)), .inr (0, 72, .inl (fun _ => 0)), .inr (0, 72, .inl (fun _ => 0)), .inr (0, 24, .inl (fun _ => 0)), .inr (0, 3, .inl (fun _ => 0)), .inr (0, 3, .inl (fun _ => 0)), .inl (2, [.ref 23, .int 0, .ref 24, .ref 25, .ref 26, .int 9999, .int 0]), .inr (0, 10, .inl (fun _ => 0)), .inr (0, 3, .inl (fun _ => 0)), .inr (0, 3, .inl (fun _ => 0)), .inr (0, 4, .inl (upd (upd (upd (upd (fun _ => 0) (0 : Int32).toNatClampNeg 999) (1 : Int32).toNatClampNeg 999) (2 : Int32).toNatClampNeg 999) (3 : Int32).toNatClampNeg 999)), .inl (7, [.int 0, .ref 28, .ref 29, .ref 30, .ref 31, .int 1]), .inr (0, 10, .inl (fun _ => 0)), .inr (0, 10, .inl (fun _ => 0)), .inr (0, 10, .inl (fun _ => 0)), .inr (0, 10, .inl (fun _ => 0)), .inl (7, [.int 0, .ref 33, .ref 34, .ref 35, .ref 36, .int 1]), .inr (0, 10, .inl (fun _ => 0)), .inr (0, 10, .inl (fun _ => 0)), .inr (0, 10, .inl (fun _ => 0)), .inr (0, 10, .inl (fun _ => 0)), .inl (3, [.ref 38, .ref 39, .int 0, .ref 40, .ref 41, .ref 42, .ref 43, .int 0, .ref 44, .ref 45, .int 0, .int 0]), .inr (0, 160, .inl (fun _ => 0)), .inr (0, 160, .inl (fun _ => 0)), .inr (0, 12, .inl (fun _ => 0)), .inr (0, 12, .inl (fun _ => 0)), .inr (0, 12, .inl (fun _ => 0)), .inr (0, 12, .inl (fun _ => 0)), .inr (0, 9, .inl (fun _ => 0)), .inr (0, 160, .inl (fun _ => 0)), .inl (3, [.ref 47, .ref 48, .int 0, .ref 49, .ref 50, .ref 51, .ref 52, .int 0, .ref 53, .ref 54, .int 0, .int 0]), .inr (0, 160, .inl (fun _ => 0)), .inr (0, 160, .inl (fun _ => 0)), .inr (0, 12, .inl (fun _ => 0)), .inr (0, 12, .inl (fun _ => 0)), .inr (0, 12, .inl (fun _ => 0)), .inr (0, 12, .inl (fun _ => 0)), .inr (0, 9, .inl (fun _ => 0)), .inr (0, 160, .inl (fun _ => 0)), .inl (4, [.ref 3, .ref 46]), .inl (5, [.ref 22, .ref 27, .ref 4, .ref 57, .ref 68, .ref 69, .ref 70, .int 0, .int 0, .int 0]), .inr (2, 10, .inr 58), .inr (0, 72, .inl (fun _ => 0)), .inr (0, 72, .inl (fun _ => 0)), .inr (0, 72, .inl (fun _ => 0)), .inr (0, 72, .inl (fun _ => 0)), .inr (0, 72, .inl (fun _ => 0)), .inr (0, 72, .inl (fun _ => 0)), .inr (0, 72, .inl (fun _ => 0)), .inr (0, 72, .inl (fun _ => 0)), .inr (0, 72, .inl (fun _ => 0)), .inr (0, 72, .inl (fun _ => 0)), .inr (0, 10, .inl (fun _ => 0)), .inr (0, 72, .inl (fun _ => 0)), .inr (0, 96, .inl (fun _ => 0)), .inl (0, [.ref 22, .ref 27, .ref 56, .int 0, .int 0, .ref 72, .long 0, .long 0]), .inr (0, 3, .inl (fun _ => 0)), .inl (8, [.null, .null, .null, .null, .ref 74, .ref 85, .int 0, .int 0, .ref 86, .ref 87, .null, .null, .null, .null, .null]), .inr (2, 10, .inr 75), .inr (0, 72, .inl (fun _ => 0)), .inr (0, 72, .inl (fun _ => 0)), .inr (0, 72, .inl (fun _ => 0)), .inr (0, 72, .inl (fun _ => 0)), .inr (0, 72, .inl (fun _ => 0)), .inr (0, 72, .inl (fun _ => 0)), .inr (0, 72, .inl (fun _ => 0)), .inr (0, 72, .inl (fun _ => 0)), .inr (0, 72, .inl (fun _ => 0)), .inr (0, 72, .inl (fun _ => 0)), .inr (0, 10, .inl (fun _ => 0)), .inr (0, 10, .inl (fun _ => 0)), .inr (0, 10, .inl (fun _ => 0)), .inr (0, 3, .inl (fun _ => 0))]
def nx_128 : List nn_C := nx_127.set 73 (.inl (8, [.null, .null, .null, .null, .ref 74, .ref 85, .int 0, .int 0, .ref 86, .ref 87, .ref 88, .null, .null, .null, .null]))
def nx_129 : List nn_C := nx_128 ++ [.inr (0, 4, .inl (fun _ => 0))]
def nx_130 : List nn_C := nx_129.set 73 (.inl (8, [.null, .null, .null, .null, .ref 74, .ref 85, .int 0, .int 0, .ref 86, .ref 87, .ref 88, .ref 89, .null, .null, .null]))
def nx_131 : List nn_C := nx_130 ++ [.inr (0, 24, .inl (fun _ => 0))]
def nx_132 : List nn_C := nx_131.set 73 (.inl (8, [.null, .null, .null, .null, .ref 74, .ref 85, .int 0, .int 0, .ref 86, .ref 87, .ref 88, .ref 89, .ref 90, .null, .null]))
def nx_133 : List nn_C := nx_132 ++ [.inr (0, 1024, .inl (fun _ => 0))]
def nx_134 : List nn_C := nx_133.set 73 (.inl (8, [.null, .null, .null, .null, .ref 74, .ref 85, .int 0, .int 0, .ref 86, .ref 87, .ref 88, .ref 89, .ref 90, .ref 91, .null]))
def nx_135 : List nn_C := [.inl (11, [.ref 1, .ref 4, .ref 22, .ref 27, .ref 32, .int 0, .ref 37, .ref 46, .ref 55, .ref 56, .ref 71, .null, .null]), .inl (9, [.ref 2, .int 0]), .inr (0, 200, .inl (fun _ => 0)), .inl (10, [.ref 1, .int 0, .int 0, .int 0, .int 0]), .inl (1, [.ref 3, .ref 5, .ref 18, .int 0, .ref 19, .ref 20, .ref 21, .int 0, .int 0]), .inr (2, 12, .inr 6), .inr (0, 72, .inl (fun _ => 0)), .inr (0, 72, .inl (fun _ => 0)), .inr (0, 72, .inl (fun _ => 0)), .inr (0, 72, .inl (fun _ => 0)), .inr (0, 72, .inl (fun _ => 0)), .inr (0, 72, .inl (fun _ => 0)), .inr (0, 72, .inl (fun _ => 0)), .inr (0, 72, .inl (fun _ => 0)), .inr (0, 72, .inl (fun _ => 0)), .inr (0, 72, .inl (fun _ => 0)), .inr (0, 72, .inl (fun _ => 0)), .inr (0, 72, .inl (fun _ => 0)), .inr (0, 72, .inl (fun _ => 0)), .inr (0, 24, .inl (fun _ => 0)), .inr (0, 3, .inl (fun _ => 0)), .inr (0, 3, .inl (fun _ => 0)), .inl (2, [.ref 23, .int 0, .ref 24, .ref 25, .ref 26, .int 9999, .int 0]), .inr (0, 10, .inl (fun _ => 0)), .inr (0, 3, .inl (fun _ => 0)), .inr (0, 3, .inl (fun _ => 0)), .inr (0, 4, .inl (upd (upd (upd (upd (fun _ => 0) (0 : Int32).toNatClampNeg 999) (1 : Int32).toNatClampNeg 999) (2 : Int32).toNatClampNeg 999) (3 : Int32).toNatClampNeg 999)), .inl (7, [.int 0, .ref 28, .ref 29, .ref 30, .ref 31, .int 1]), .inr (0, 10, .inl (fun _ => 0)), .inr (0, 10, .inl (fun _ => 0)), .inr (0, 10, .inl (fun _ => 0)), .inr (0, 10, .inl (fun _ => 0)), .inl (7, [.int 0, .ref 33, .ref 34, .ref 35, .ref 36, .int 1]), .inr (0, 10, .inl (fun _ => 0)), .inr (0, 10, .inl (fun _ => 0)), .inr (0, 10, .inl (fun _ => 0)), .inr (0, 10, .inl (fun _ => 0)), .inl (3, [.ref 38, .ref 39, .int 0, .ref 40, .ref 41, .ref 42, .ref 43, .int 0, .ref 44, .ref 45, .int 0, .int 0]), .inr (0, 160, .inl (fun _ => 0)), .inr (0, 160, .inl (fun _ => 0)), .inr (0, 12, .inl (fun _ => 0)), .inr (0, 12, .inl (fun _ => 0)), .inr (0, 12, .inl (fun _ => 0)), .inr (0, 12, .inl (fun _ => 0)), .inr (0, 9, .inl (fun _ => 0)), .inr (0, 160, .inl (fun _ => 0)), .inl (3, [.ref 47, .ref 48, .int 0, .ref 49, .ref 50, .ref 51, .ref 52, .int 0, .ref 53, .ref 54, .int 0, .int 0]), .inr (0, 160, .inl (fun _ => 0)), .inr (0, 160, .inl (fun _ => 0)), .inr (0, 12, .inl (fun _ => 0)), .inr (0, 12, .inl (fun _ => 0)), .inr (0, 12, .inl (fun _ => 0)), .inr (0, 12, .inl (fun _ => 0)), .inr (0, 9, .inl (fun _ => 0)), .inr (0, 160, .inl (fun _ => 0)), .inl (4, [.ref 3, .ref 46]), .inl (5, [.ref 22, .ref 27, .ref 4, .ref 57, .ref 68, .ref 69, .ref 70, .int 0, .int 0, .int 0]), .inr (2, 10, .inr 58), .inr (0, 72, .inl (fun _ => 0)), .inr (0, 72, .inl (fun _ => 0)), .inr (0, 72, .inl (fun _ => 0)), .inr (0, 72, .inl (fun _ => 0)), .inr (0, 72, .inl (fun _ => 0)), .inr (0, 72, .inl (fun _ => 0)), .inr (0, 72, .inl (fun _ => 0)), .inr (0, 72, .inl (fun _ => 0)), .inr (0, 72, .inl (fun _ => 0)), .inr (0, 72, .inl (fun _ => 0)), .inr (0, 10, .inl (fun _ => 0)), .inr (0, 72, .inl (fun _ => 0)), .inr (0, 96, .inl (fun _ => 0)), .inl (0, [.ref 22, .ref 27, .ref 56, .int 0, .int 0, .ref 72, .long 0, .long 0]), .inr (0, 3, .inl (fun _ => 0)), .inl (8, [.null, .null, .null, .null, .ref 74, .ref 85, .int 0, .int 0, .ref 86, .ref 87, .ref 88, .ref 89, .ref 90, .ref 91, .null]), .inr (2, 10, .inr 75), .inr (0, 72, .inl (fun _ => 0)), .inr (0, 72, .inl (fun _ => 0)), .inr (0, 72, .inl (fun _ => 0)), .inr (0, 72, .inl (fun _ => 0)), .inr (0, 72, .inl (fun _ => 0)), .inr (0, 72, .inl (fun _ => 0)), .inr (0, 72, .inl (fun _ => 0)), .inr (0, 72, .inl (fun _ => 0)), .inr (0, 72, .inl (fun _ => 0)), .inr (0, 72, .inl (fun _ => 0)), .inr (0, 10, .inl (fun _ => 0)), .inr (0, 10, .inl (fun _ => 0)), .inr (0, 10, .inl (fun _ => 0)), .inr (0, 3, .inl (fun _ => 0)), .inr (0, 4, .inl (fun _ => 0)), .inr (0, 24, .inl (fun _ => 0)), .inr (0, 1024, .inl (fun _ => 0)), .inr (0, 1024, .inl (fun _ => 0))]
def nx_136 : List nn_C := nx_135.set 73 (.inl (8, [.null, .null, .null, .null, .ref 74, .ref 85, .int 0, .int 0, .ref 86, .ref 87, .ref 88, .ref 89, .ref 90, .ref 91, .ref 92]))
def nx_137 : List nn_C := nx_136.set 73 (.inl (8, [.ref 22, .null, .null, .null, .ref 74, .ref 85, .int 0, .int 0, .ref 86, .ref 87, .ref 88, .ref 89, .ref 90, .ref 91, .ref 92]))
def nx_138 : List nn_C := nx_137.set 73 (.inl (8, [.ref 22, .ref 27, .null, .null, .ref 74, .ref 85, .int 0, .int 0, .ref 86, .ref 87, .ref 88, .ref 89, .ref 90, .ref 91, .ref 92]))
def nx_139 : List nn_C := nx_138.set 73 (.inl (8, [.ref 22, .ref 27, .ref 37, .null, .ref 74, .ref 85, .int 0, .int 0, .ref 86, .ref 87, .ref 88, .ref 89, .ref 90, .ref 91, .ref 92]))
def nx_140 : List nn_C := nx_139.set 73 (.inl (8, [.ref 22, .ref 27, .ref 37, .ref 56, .ref 74, .ref 85, .int 0, .int 0, .ref 86, .ref 87, .ref 88, .ref 89, .ref 90, .ref 91, .ref 92]))
def nx_141 : List nn_C := nx_140.set 0 (.inl (11, [.ref 1, .ref 4, .ref 22, .ref 27, .ref 32, .int 0, .ref 37, .ref 46, .ref 55, .ref 56, .ref 71, .ref 73, .null]))
def nx_142 : List nn_C := nx_141 ++ [.inl (6, [.null, .null, .null, .int 0, .null, .null, .null, .int 0, .int 0])]
def nx_143 : List nn_C := [.inl (11, [.ref 1, .ref 4, .ref 22, .ref 27, .ref 32, .int 0, .ref 37, .ref 46, .ref 55, .ref 56, .ref 71, .ref 73, .null]), .inl (9, [.ref 2, .int 0]), .inr (0, 200, .inl (fun _ => 0)), .inl (10, [.ref 1, .int 0, .int 0, .int 0, .int 0]), .inl (1, [.ref 3, .ref 5, .ref 18, .int 0, .ref 19, .ref 20, .ref 21, .int 0, .int 0]), .inr (2, 12, .inr 6), .inr (0, 72, .inl (fun _ => 0)), .inr (0, 72, .inl (fun _ => 0)), .inr (0, 72, .inl (fun _ => 0)), .inr (0, 72, .inl (fun _ => 0)), .inr (0, 72, .inl (fun _ => 0)), .inr (0, 72, .inl (fun _ => 0)), .inr (0, 72, .inl (fun _ => 0)), .inr (0, 72, .inl (fun _ => 0)), .inr (0, 72, .inl (fun _ => 0)), .inr (0, 72, .inl (fun _ => 0)), .inr (0, 72, .inl (fun _ => 0)), .inr (0, 72, .inl (fun _ => 0)), .inr (0, 72, .inl (fun _ => 0)), .inr (0, 24, .inl (fun _ => 0)), .inr (0, 3, .inl (fun _ => 0)), .inr (0, 3, .inl (fun _ => 0)), .inl (2, [.ref 23, .int 0, .ref 24, .ref 25, .ref 26, .int 9999, .int 0]), .inr (0, 10, .inl (fun _ => 0)), .inr (0, 3, .inl (fun _ => 0)), .inr (0, 3, .inl (fun _ => 0)), .inr (0, 4, .inl (upd (upd (upd (upd (fun _ => 0) (0 : Int32).toNatClampNeg 999) (1 : Int32).toNatClampNeg 999) (2 : Int32).toNatClampNeg 999) (3 : Int32).toNatClampNeg 999)), .inl (7, [.int 0, .ref 28, .ref 29, .ref 30, .ref 31, .int 1]), .inr (0, 10, .inl (fun _ => 0)), .inr (0, 10, .inl (fun _ => 0)), .inr (0, 10, .inl (fun _ => 0)), .inr (0, 10, .inl (fun _ => 0)), .inl (7, [.int 0, .ref 33, .ref 34, .ref 35, .ref 36, .int 1]), .inr (0, 10, .inl (fun _ => 0)), .inr (0, 10, .inl (fun _ => 0)), .inr (0, 10, .inl (fun _ => 0)), .inr (0, 10, .inl (fun _ => 0)), .inl (3, [.ref 38, .ref 39, .int 0, .ref 40, .ref 41, .ref 42, .ref 43, .int 0, .ref 44, .ref 45, .int 0, .int 0]), .inr (0, 160, .inl (fun _ => 0)), .inr (0, 160, .inl (fun _ => 0)), .inr (0, 12, .inl (fun _ => 0)), .inr (0, 12, .inl (fun _ => 0)), .inr (0, 12, .inl (fun _ => 0)), .inr (0, 12, .inl (fun _ => 0)), .inr (0, 9, .inl (fun _ => 0)), .inr (0, 160, .inl (fun _ => 0)), .inl (3, [.ref 47, .ref 48, .int 0, .ref 49, .ref 50, .ref 51, .ref 52, .int 0, .ref 53, .ref 54, .int 0, .int 0]), .inr (0, 160, .inl (fun _ => 0)), .inr (0, 160, .inl (fun _ => 0)), .inr (0, 12, .inl (fun _ => 0)), .inr (0, 12, .inl (fun _ => 0)), .inr (0, 12, .inl (fun _ => 0)), .inr (0, 12, .inl (fun _ => 0)), .inr (0, 9, .inl (fun _ => 0)), .inr (0, 160, .inl (fun _ => 0)), .inl (4, [.ref 3, .ref 46]), .inl (5, [.ref 22, .ref 27, .ref 4, .ref 57, .ref 68, .ref 69, .ref 70, .int 0, .int 0, .int 0]), .inr (2, 10, .inr 58), .inr (0, 72, .inl (fun _ => 0)), .inr (0, 72, .inl (fun _ => 0)), .inr (0, 72, .inl (fun _ => 0)), .inr (0, 72, .inl (fun _ => 0)), .inr (0, 72, .inl (fun _ => 0)), .inr (0, 72, .inl (fun _ => 0)), .inr (0, 72, .inl (fun _ => 0)), .inr (0, 72, .inl (fun _ => 0)), .inr (0, 72, .inl (fun _ => 0)), .inr (0, 72, .inl (fun _ => 0)), .inr (0, 10, .inl (fun _ => 0)), .inr (0, 72, .inl (fun _ => 0)), .inr (0, 96, .inl (fun _ => 0)), .inl (0, [.ref 22, .ref 27, .ref 56, .int 0, .int 0, .ref 72, .long 0, .long 0]), .inr (0, 3, .inl (fun _ => 0)), .inl (8, [.ref 22, .ref 27, .ref 37, .ref 56, .ref 74, .ref 85, .int 0, .int 0, .ref 86, .ref 87, .ref 88, .ref 89, .ref 90, .ref 91, .ref 92]), .inr (2, 10, .inr 75), .inr (0, 72, .inl (fun _ => 0)), .inr (0, 72, .inl (fun _ => 0)), .inr (0, 72, .inl (fun _ => 0)), .inr (0, 72, .inl (fun _ => 0)), .inr (0, 72, .inl (fun _ => 0)), .inr (0, 72, .inl (fun _ => 0)), .inr (0, 72, .inl (fun _ => 0)), .inr (0, 72, .inl (fun _ => 0)), .inr (0, 72, .inl (fun _ => 0)), .inr (0, 72, .inl (fun _ => 0)), .inr (0, 10, .inl (fun _ => 0)), .inr (0, 10, .inl (fun _ => 0)), .inr (0, 10, .inl (fun _ => 0)), .inr (0, 3, .inl (fun _ => 0)), .inr (0, 4, .inl (fun _ => 0)), .inr (0, 24, .inl (fun _ => 0)), .inr (0, 1024, .inl (fun _ => 0)), .inr (0, 1024, .inl (fun _ => 0)), .inl (6, [.null, .null, .null, .int 0, .null, .null, .null, .int 0, .int 0]), .inr (0, 10, .inl (fun _ => 0))]
def nx_144 : List nn_C := nx_143.set 93 (.inl (6, [.null, .null, .null, .int 0, .ref 94, .null, .null, .int 0, .int 0]))
def nx_145 : List nn_C := nx_144 ++ [.inr (0, 10, .inl (fun _ => 0))]
def nx_146 : List nn_C := nx_145.set 93 (.inl (6, [.null, .null, .null, .int 0, .ref 94, .ref 95, .null, .int 0, .int 0]))
def nx_147 : List nn_C := nx_146 ++ [.inr (0, 10, .inl (fun _ => 0))]
def nx_148 : List nn_C := nx_147.set 93 (.inl (6, [.null, .null, .null, .int 0, .ref 94, .ref 95, .ref 96, .int 0, .int 0]))
def nx_149 : List nn_C := nx_148.set 93 (.inl (6, [.ref 22, .null, .null, .int 0, .ref 94, .ref 95, .ref 96, .int 0, .int 0]))
def nx_150 : List nn_C := nx_149.set 93 (.inl (6, [.ref 22, .ref 27, .null, .int 0, .ref 94, .ref 95, .ref 96, .int 0, .int 0]))
def nx_151 : List nn_C := [.inl (11, [.ref 1, .ref 4, .ref 22, .ref 27, .ref 32, .int 0, .ref 37, .ref 46, .ref 55, .ref 56, .ref 71, .ref 73, .null]), .inl (9, [.ref 2, .int 0]), .inr (0, 200, .inl (fun _ => 0)), .inl (10, [.ref 1, .int 0, .int 0, .int 0, .int 0]), .inl (1, [.ref 3, .ref 5, .ref 18, .int 0, .ref 19, .ref 20, .ref 21, .int 0, .int 0]), .inr (2, 12, .inr 6), .inr (0, 72, .inl (fun _ => 0)), .inr (0, 72, .inl (fun _ => 0)), .inr (0, 72, .inl (fun _ => 0)), .inr (0, 72, .inl (fun _ => 0)), .inr (0, 72, .inl (fun _ => 0)), .inr (0, 72, .inl (fun _ => 0)), .inr (0, 72, .inl (fun _ => 0)), .inr (0, 72, .inl (fun _ => 0)), .inr (0, 72, .inl (fun _ => 0)), .inr (0, 72, .inl (fun _ => 0)), .inr (0, 72, .inl (fun _ => 0)), .inr (0, 72, .inl (fun _ => 0)), .inr (0, 72, .inl (fun _ => 0)), .inr (0, 24, .inl (fun _ => 0)), .inr (0, 3, .inl (fun _ => 0)), .inr (0, 3, .inl (fun _ => 0)), .inl (2, [.ref 23, .int 0, .ref 24, .ref 25, .ref 26, .int 9999, .int 0]), .inr (0, 10, .inl (fun _ => 0)), .inr (0, 3, .inl (fun _ => 0)), .inr (0, 3, .inl (fun _ => 0)), .inr (0, 4, .inl (upd (upd (upd (upd (fun _ => 0) (0 : Int32).toNatClampNeg 999) (1 : Int32).toNatClampNeg 999) (2 : Int32).toNatClampNeg 999) (3 : Int32).toNatClampNeg 999)), .inl (7, [.int 0, .ref 28, .ref 29, .ref 30, .ref 31, .int 1]), .inr (0, 10, .inl (fun _ => 0)), .inr (0, 10, .inl (fun _ => 0)), .inr (0, 10, .inl (fun _ => 0)), .inr (0, 10, .inl (fun _ => 0)), .inl (7, [.int 0, .ref 33, .ref 34, .ref 35, .ref 36, .int 1]), .inr (0, 10, .inl (fun _ => 0)), .inr (0, 10, .inl (fun _ => 0)), .inr (0, 10, .inl (fun _ => 0)), .inr (0, 10, .inl (fun _ => 0)), .inl (3, [.ref 38, .ref 39, .int 0, .ref 40, .ref 41, .ref 42, .ref 43, .int 0, .ref 44, .ref 45, .int 0, .int 0]), .inr (0, 160, .inl (fun _ => 0)), .inr (0, 160, .inl (fun _ => 0)), .inr (0, 12, .inl (fun _ => 0)), .inr (0, 12, .inl (fun _ => 0)), .inr (0, 12, .inl (fun _ => 0)), .inr (0, 12, .inl (fun _ => 0)), .inr (0, 9, .inl (fun _ => 0)), .inr (0, 160, .inl (fun _ => 0)), .inl (3, [.ref 47, .ref 48, .int 0, .ref 49, .ref 50, .ref 51, .ref 52, .int 0, .ref 53, .ref 54, .int 0, .int 0]), .inr (0, 160, .inl (fun _ => 0)), .inr (0, 160, .inl (fun _ => 0)), .inr (0, 12, .inl (fun _ => 0)), .inr (0, 12, .inl (fun _ => 0)), .inr (0, 12, .inl (fun _ => 0)), .inr (0, 12, .inl (fun _ => 0)), .inr (0, 9, .inl (fun _ => 0)), .inr (0, 160, .inl (fun _ => 0)), .inl (4, [.ref 3, .ref 46]), .inl (5, [.ref 22, .ref 27, .ref 4, .ref 57, .ref 68, .ref 69, .ref 70, .int 0, .int 0, .int 0]), .inr (2, 10, .inr 58), .inr (0, 72, .inl (fun _ => 0)), .inr (0, 72, .inl (fun _ => 0)), .inr (0, 72, .inl (fun _ => 0)), .inr (0, 72, .inl (fun _ => 0)), .inr (0, 72, .inl (fun _ => 0)), .inr (0, 72, .inl (fun _ => 0)), .inr (0, 72, .inl (fun _ => 0)), .inr (0, 72, .inl (fun _ => 0)), .inr (0, 72, .inl (fun _ => 0)), .inr (0, 72, .inl (fun _ => 0)), .inr (0, 10, .inl (fun _ => 0)), .inr (0, 72, .inl (fun _ => 0)), .inr (0, 96, .inl (fun _ => 0)), .inl (0, [.ref 22, .ref 27, .ref 56, .int 0, .int 0, .ref 72, .long 0, .long 0]), .inr (0, 3, .inl (fun _ => 0)), .inl (8, [.ref 22, .ref 27, .ref 37, .ref 56, .ref 74, .ref 85, .int 0, .int 0, .ref 86, .ref 87, .ref 88, .ref 89, .ref 90, .ref 91, .ref 92]), .inr (2, 10, .inr 75), .inr (0, 72, .inl (fun _ => 0)), .inr (0, 72, .inl (fun _ => 0)), .inr (0, 72, .inl (fun _ => 0)), .inr (0, 72, .inl (fun _ => 0)), .inr (0, 72, .inl (fun _ => 0)), .inr (0, 72, .inl (fun _ => 0)), .inr (0, 72, .inl (fun _ => 0)), .inr (0, 72, .inl (fun _ => 0)), .inr (0, 72, .inl (fun _ => 0)), .inr (0, 72, .inl (fun _ => 0)), .inr (0, 10, .inl (fun _ => 0)), .inr (0, 10, .inl (fun _ => 0)), .inr (0, 10, .inl (fun _ => 0)), .inr (0, 3, .inl (fun _ => 0)), .inr (0, 4, .inl (fun _ => 0)), .inr (0, 24, .inl (fun _ => 0)), .inr (0, 1024, .inl (fun _ => 0)), .inr (0, 1024, .inl (fun _ => 0)), .inl (6, [.ref 22, .ref 27, .ref 56, .int 0, .ref 94, .ref 95, .ref 96, .int 0, .int 0]), .inr (0, 10, .inl (fun _ => 0)), .inr (0, 10, .inl (fun _ => 0)), .inr (0, 10, .inl (fun _ => 0))]
def nx_152 : List nn_C := nx_151.set 0 (.inl (11, [.ref 1, .ref 4, .ref 22, .ref 27, .ref 32, .int 0, .ref 37, .ref 46, .ref 55, .ref 56, .ref 71, .ref 73, .ref 93]))
def nx_153 : List nn_C := nx_152 ++ [.inl (12, [.null, .int 0, .int 0, .int 0, .int 0, .int 0, .int 0, .null, .null, .int 0, .int 0, .int 0, .int 0, .int 0, .null, .null, .null, .null, .null, .null, .null, .null, .int 0, .int 0, .int 0, .int 0, .int 0, .null, .null, .null, .null, .null, .null, .null, .null, .null, .null, .null, .null, .null, .null, .null, .null, .null, .null, .null, .int 0, .int 0, .int 0, .int 0, .int 0, .int 0, .null, .null, .null, .null, .null, .int 0, .null, .null, .null, .int 0, .int 0, .int 0, .null, .null, .null, .null])]
def nx_154 : List nn_C := nx_153 ++ [.inr (1, 200, .inl (fun _ => 0))]
def nx_155 : List nn_C := nx_154.set 97 (.inl (12, [.ref 98, .int 0, .int 0, .int 0, .int 0, .int 0, .int 0, .null, .null, .int 0, .int 0, .int 0, .int 0, .int 0, .null, .null, .null, .null, .null, .null, .null, .null, .int 0, .int 0, .int 0, .int 0, .int 0, .null, .null, .null, .null, .null, .null, .null, .null, .null, .null, .null, .null, .null, .null, .null, .null, .null, .null, .null, .int 0, .int 0, .int 0, .int 0, .int 0, .int 0, .null, .null, .null, .null, .null, .int 0, .null, .null, .null, .int 0, .int 0, .int 0, .null, .null, .null, .null]))
def nx_156 : List nn_C := nx_155 ++ [.inr (0, 864, .inl (fun _ => 0))]
def nx_157 : List nn_C := nx_156.set 97 (.inl (12, [.ref 98, .int 0, .int 0, .int 0, .int 0, .int 0, .int 0, .ref 99, .null, .int 0, .int 0, .int 0, .int 0, .int 0, .null, .null, .null, .null, .null, .null, .null, .null, .int 0, .int 0, .int 0, .int 0, .int 0, .null, .null, .null, .null, .null, .null, .null, .null, .null, .null, .null, .null, .null, .null, .null, .null, .null, .null, .null, .int 0, .int 0, .int 0, .int 0, .int 0, .int 0, .null, .null, .null, .null, .null, .int 0, .null, .null, .null, .int 0, .int 0, .int 0, .null, .null, .null, .null]))
def nx_158 : List nn_C := nx_157 ++ [.inr (0, 72, .inl (fun _ => 0))]
def nx_159 : List nn_C := [.inl (11, [.ref 1, .ref 4, .ref 22, .ref 27, .ref 32, .int 0, .ref 37, .ref 46, .ref 55, .ref 56, .ref 71, .ref 73, .ref 93]), .inl (9, [.ref 2, .int 0]), .inr (0, 200, .inl (fun _ => 0)), .inl (10, [.ref 1, .int 0, .int 0, .int 0, .int 0]), .inl (1, [.ref 3, .ref 5, .ref 18, .int 0, .ref 19, .ref 20, .ref 21, .int 0, .int 0]), .inr (2, 12, .inr 6), .inr (0, 72, .inl (fun _ => 0)), .inr (0, 72, .inl (fun _ => 0)), .inr (0, 72, .inl (fun _ => 0)), .inr (0, 72, .inl (fun _ => 0)), .inr (0, 72, .inl (fun _ => 0)), .inr (0, 72, .inl (fun _ => 0)), .inr (0, 72, .inl (fun _ => 0)), .inr (0, 72, .inl (fun _ => 0)), .inr (0, 72, .inl (fun _ => 0)), .inr (0, 72, .inl (fun _ => 0)), .inr (0, 72, .inl (fun _ => 0)), .inr (0, 72, .inl (fun _ => 0)), .inr (0, 72, .inl (fun _ => 0)), .inr (0, 24, .inl (fun _ => 0)), .inr (0, 3, .inl (fun _ => 0)), .inr (0, 3, .inl (fun _ => 0)), .inl (2, [.ref 23, .int 0, .ref 24, .ref 25, .ref 26, .int 9999, .int 0]), .inr (0, 10, .inl (fun _ => 0)), .inr (0, 3, .inl (fun _ => 0)), .inr (0, 3, .inl (fun _ => 0)), .inr (0, 4, .inl (upd (upd (upd (upd (fun _ => 0) (0 : Int32).toNatClampNeg 999) (1 : Int32).toNatClampNeg 999) (2 : Int32).toNatClampNeg 999) (3 : Int32).toNatClampNeg 999)), .inl (7, [.int 0, .ref 28, .ref 29, .ref 30, .ref 31, .int 1]), .inr (0, 10, .inl (fun _ => 0)), .inr (0, 10, .inl (fun _ => 0)), .inr (0, 10, .inl (fun _ => 0)), .inr (0, 10, .inl (fun _ => 0)), .inl (7, [.int 0, .ref 33, .ref 34, .ref 35, .ref 36, .int 1]), .inr (0, 10, .inl (fun _ => 0)), .inr (0, 10, .inl (fun _ => 0)), .inr (0, 10, .inl (fun _ => 0)), .inr (0, 10, .inl (fun _ => 0)), .inl (3, [.ref 38, .ref 39, .int 0, .ref 40, .ref 41, .ref 42, .ref 43, .int 0, .ref 44, .ref 45, .int 0, .int 0]), .inr (0, 160, .inl (fun _ => 0)), .inr (0, 160, .inl (fun _ => 0)), .inr (0, 12, .inl (fun _ => 0)), .inr (0, 12, .inl (fun _ => 0)), .inr (0, 12, .inl (fun _ => 0)), .inr (0, 12, .inl (fun _ => 0)), .inr (0, 9, .inl (fun _ => 0)), .inr (0, 160, .inl (fun _ => 0)), .inl (3, [.ref 47, .ref 48, .int 0, .ref 49, .ref 50, .ref 51, .ref 52, .int 0, .ref 53, .ref 54, .int 0, .int 0]), .inr (0, 160, .inl (fun _ => 0)), .inr (0, 160, .inl (fun _ => 0)), .inr (0, 12, .inl (fun _ => 0)), .inr (0, 12, .inl (fun _ => 0)), .inr (0, 12, .inl (fun _ => 0)), .inr (0, 12, .inl (fun _ => 0)), .inr (0, 9, .inl (fun _ => 0)), .inr (0, 160, .inl (fun _ => 0)), .inl (4, [.ref 3, .ref 46]), .inl (5, [.ref 22, .ref 27, .ref 4, .ref 57, .ref 68, .ref 69, .ref 70, .int 0, .int 0, .int 0]), .inr (2, 10, .inr 58), .inr (0, 72, .inl (fun _ => 0)), .inr (0, 72, .inl (fun _ => 0)), .inr (0, 72, .inl (fun _ => 0)), .inr (0, 72, .inl (fun _ => 0)), .inr (0, 72, .inl (fun _ => 0)), .inr (0, 72, .inl (fun _ => 0)), .inr (0, 72, .inl (fun _ => 0)), .inr (0, 72, .inl (fun _ => 0)), .inr (0, 72, .inl (fun _ => 0)), .inr (0, 72, .inl (fun _ => 0)), .inr (0, 10, .inl (fun _ => 0)), .inr (0, 72, .inl (fun _ => 0)), .inr (0, 96, .inl (fun _ => 0)), .inl (0, [.ref 22, .ref 27, .ref 56, .int 0, .int 0, .ref 72, .long 0, .long 0]), .inr (0, 3, .inl (fun _ => 0)), .inl (8, [.ref 22, .ref 27, .ref 37, .ref 56, .ref 74, .ref 85, .int 0, .int 0, .ref 86, .ref 87, .ref 88, .ref 89, .ref 90, .ref 91, .ref 92]), .inr (2, 10, .inr 75), .inr (0, 72, .inl (fun _ => 0)), .inr (0, 72, .inl (fun _ => 0)), .inr (0, 72, .inl (fun _ => 0)), .inr (0, 72, .inl (fun _ => 0)), .inr (0, 72, .inl (fun _ => 0)), .inr (0, 72, .inl (fun _ => 0)), .inr (0, 72, .inl (fun _ => 0)), .inr (0, 72, .inl (fun _ => 0)), .inr (0, 72, .inl (fun _ => 0)), .inr (0, 72, .inl (fun _ => 0)), .inr (0, 10, .inl (fun _ => 0)), .inr (0, 10, .inl (fun _ => 0)), .inr (0, 10, .inl (fun _ => 0)), .inr (0, 3, .inl (fun _ => 0)), .inr (0, 4, .inl (fun _ => 0)), .inr (0, 24, .inl (fun _ => 0)), .inr (0, 1024, .inl (fun _ => 0)), .inr (0, 1024, .inl (fun _ => 0)), .inl (6, [.ref 22, .ref 27, .ref 56, .int 0, .ref 94, .ref 95, .ref 96, .int 0, .int 0]), .inr (0, 10, .inl (fun _ => 0)), .inr (0, 10, .inl (fun _ => 0)), .inr (0, 10, .inl (fun _ => 0)), .inl (12, [.ref 98, .int 0, .int 0, .int 0, .int 0, .int 0, .int 0, .ref 99, .ref 100, .int 0, .int 0, .int 0, .int 0, .int 0, .null, .null, .null, .null, .null, .null, .null, .null, .int 0, .int 0, .int 0, .int 0, .int 0, .null, .null, .null, .null, .null, .null, .null, .null, .null, .null, .null, .null, .null, .null, .null, .null, .null, .null, .null, .int 0, .int 0, .int 0, .int 0, .int 0, .int 0, .null, .null, .null, .null, .null, .int 0, .null, .null, .null, .int 0, .int 0, .int 0, .null, .null, .null, .null]), .inr (1, 200, .inl (fun _ => 0)), .inr (0, 864, .inl (fun _ => 0)), .inr (0, 72, .inl (fun _ => 0))]
def nx_160 : List nn_C := nx_159 ++ [.inr (0, 10, .inl (fun _ => 0))]
def nx_161 : List nn_C := nx_160.set 97 (.inl (12, [.ref 98, .int 0, .int 0, .int 0, .int 0, .int 0, .int 0, .ref 99, .ref 100, .int 0, .int 0, .int 0, .int 0, .int 0, .ref 101, .null, .null, .null, .null, .null, .null, .null, .int 0, .int 0, .int 0, .int 0, .int 0, .null, .null, .null, .null, .null, .null, .null, .null, .null, .null, .null, .null, .null, .null, .null, .null, .null, .null, .null, .int 0, .int 0, .int 0, .int 0, .int 0, .int 0, .null, .null, .null, .null, .null, .int 0, .null, .null, .null, .int 0, .int 0, .int 0, .null, .null, .null, .null]))
def nx_162 : List nn_C := nx_161 ++ [.inr (0, 3, .inl (fun _ => 0))]
def nx_163 : List nn_C := nx_162.set 97 (.inl (12, [.ref 98, .int 0, .int 0, .int 0, .int 0, .int 0, .int 0, .ref 99, .ref 100, .int 0, .int 0, .int 0, .int 0, .int 0, .ref 101, .ref 102, .null, .null, .null, .null, .null, .null, .int 0, .int 0, .int 0, .int 0, .int 0, .null, .null, .null, .null, .null, .null, .null, .null, .null, .null, .null, .null, .null, .null, .null, .null, .null, .null, .null, .int 0, .int 0, .int 0, .int 0, .int 0, .int 0, .null, .null, .null, .null, .null, .int 0, .null, .null, .null, .int 0, .int 0, .int 0, .null, .null, .null, .null]))
def nx_164 : List nn_C := nx_163 ++ [.inr (0, 3, .inl (fun _ => 0))]
def nx_165 : List nn_C := nx_164.set 97 (.inl (12, [.ref 98, .int 0, .int 0, .int 0, .int 0, .int 0, .int 0, .ref 99, .ref 100, .int 0, .int 0, .int 0, .int 0, .int 0, .ref 101, .ref 102, .ref 103, .null, .null, .null, .null, .null, .int 0, .int 0, .int 0, .int 0, .int 0, .null, .null, .null, .null, .null, .null, .null, .null, .null, .null, .null, .null, .null, .null, .null, .null, .null, .null, .null, .int 0, .int 0, .int 0, .int 0, .int 0, .int 0, .null, .null, .null, .null, .null, .int 0, .null, .null, .null, .int 0, .int 0, .int 0, .null, .null, .null, .null]))
def nx_166 : List nn_C := nx_165 ++ [.inr (0, 4, .inl (fun _ => 0))]
def nx_167 : List nn_C := [.inl (11, [.ref 1, .ref 4, .ref 22, .ref 27, .ref 32, .int 0, .ref 37, .ref 46, .ref 55, .ref 56, .ref 71, .ref 73, .ref 93]), .inl (9, [.ref 2, .int 0]), .inr (0, 200, .inl (fun _ => 0)), .inl (10, [.ref 1, .int 0, .int 0, .int 0, .int 0]), .inl (1, [.ref 3, .ref 5, .ref 18, .int 0, .ref 19, .ref 20, .ref 21, .int 0, .int 0]), .inr (2, 12, .inr 6), .inr (0, 72, .inl (fun _ => 0)), .inr (0, 72, .inl (fun _ => 0)), .inr (0, 72, .inl (fun _ => 0)), .inr (0, 72, .inl (fun _ => 0)), .inr (0, 72, .inl (fun _ => 0)), .inr (0, 72, .inl (fun _ => 0)), .inr (0, 72, .inl (fun _ => 0)), .inr (0, 72, .inl (fun _ => 0)), .inr (0, 72, .inl (fun _ => 0)), .inr (0, 72, .inl (fun _ => 0)), .inr (0, 72, .inl (fun _ => 0)), .inr (0, 72, .inl (fun _ => 0)), .inr (0, 72, .inl (fun _ => 0)), .inr (0, 24, .inl (fun _ => 0)), .inr (0, 3, .inl (fun _ => 0)), .inr (0, 3, .inl (fun _ => 0)), .inl (2, [.ref 23, .int 0, .ref 24, .ref 25, .ref 26, .int 9999, .int 0]), .inr (0, 10, .inl (fun _ => 0)), .inr (0, 3, .inl (fun _ => 0)), .inr (0, 3, .inl (fun _ => 0)), .inr (0, 4, .inl (upd (upd (upd (upd (fun _ => 0) (0 : Int32).toNatClampNeg 999) (1 : Int32).toNatClampNeg 999) (2 : Int32).toNatClampNeg 999) (3 : Int32).toNatClampNeg 999)), .inl (7, [.int 0, .ref 28, .ref 29, .ref 30, .ref 31, .int 1]), .inr (0, 10, .inl (fun _ => 0)), .inr (0, 10, .inl (fun _ => 0)), .inr (0, 10, .inl (fun _ => 0)), .inr (0, 10, .inl (fun _ => 0)), .inl (7, [.int 0, .ref 33, .ref 34, .ref 35, .ref 36, .int 1]), .inr (0, 10, .inl (fun _ => 0)), .inr (0, 10, .inl (fun _ => 0)), .inr (0, 10, .inl (fun _ => 0)), .inr (0, 10, .inl (fun _ => 0)), .inl (3, [.ref 38, .ref 39, .int 0, .ref 40, .ref 41, .ref 42, .ref 43, .int 0, .ref 44, .ref 45, .int 0, .int 0]), .inr (0, 160, .inl (fun _ => 0)), .inr (0, 160, .inl (fun _ => 0)), .inr (0, 12, .inl (fun _ => 0)), .inr (0, 12, .inl (fun _ => 0)), .inr (0, 12, .inl (fun _ => 0)), .inr (0, 12, .inl (fun _ => 0)), .inr (0, 9, .inl (fun _ => 0)), .inr (0, 160, .inl (fun _ => 0)), .inl (3, [.ref 47, .ref 48, .int 0, .ref 49, .ref 50, .ref 51, .ref 52, .int 0, .ref 53, .ref 54, .int 0, .int 0]), .inr (0, 160, .inl (fun _ => 0)), .inr (0, 160, .inl (fun _ => 0)), .inr (0, 12, .inl (fun _ => 0)), .inr (0, 12, .inl (fun _ => 0)), .inr (0, 12, .inl (fun _ => 0)), .inr (0, 12, .inl (fun _ => 0)), .inr (0, 9, .inl (fun _ => 0)), .inr (0, 160, .inl (fun _ => 0)), .inl (4, [.ref 3, .ref 46]), .inl (5, [.ref 22, .ref 27, .ref 4, .ref 57, .ref 68, .ref 69, .ref 70, .int 0, .int 0, .int 0]), .inr (2, 10, .inr 58), .inr (0, 72, .inl (fun _ => 0)), .inr (0, 72, .inl (fun _ => 0)), .inr (0, 72, .inl (fun _ => 0)), .inr (0, 72, .inl (fun _ => 0)), .inr (0, 72, .inl (fun _ => 0)), .inr (0, 72, .inl (fun _ => 0)), .inr (0, 72, .inl (fun _ => 0)), .inr (0, 72, .inl (fun _ => 0)), .inr (0, 72, .inl (fun _ => 0)), .inr (0, 72, .inl (fun _ => 0)), .inr (0, 10, .inl (fun _ => 0)), .inr (0, 72, .inl (fun _ => 0)), .inr (0, 96, .inl (fun _ => 0)), .inl (0, [.ref 22, .ref 27, .ref 56, .int 0, .int 0, .ref 72, .long 0, .long 0]), .inr (0, 3, .inl (fun _ => 0)), .inl (8, [.ref 22, .ref 27, .ref 37, .ref 56, .ref 74, .ref 85, .int 0, .int 0, .ref 86, .ref 87, .ref 88, .ref 89, .ref 90, .ref 91, .ref 92]), .inr (2, 10, .inr 75), .inr (0, 72, .inl (fun _ => 0)), .inr (0, 72, .inl (fun _ => 0)), .inr (0, 72, .inl (fun _ => 0)), .inr (0, 72, .inl (fun _ => 0)), .inr (0, 72, .inl (fun _ => 0)), .inr (0, 72, .inl (fun _ => 0)), .inr (0, 72, .inl (fun _ => 0)), .inr (0, 72, .inl (fun _ => 0)), .inr (0, 72, .inl (fun _ => 0)), .inr (0, 72, .inl (fun _ => 0)), .inr (0, 10, .inl (fun _ => 0)), .inr (0, 10, .inl (fun _ => 0)), .inr (0, 10, .inl (fun _ => 0)), .inr (0, 3, .inl (fun _ => 0)), .inr (0, 4, .inl (fun _ => 0)), .inr (0, 24, .inl (fun _ => 0)), .inr (0, 1024, .inl (fun _ => 0)), .inr (0, 1024, .inl (fun _ => 0)), .inl (6, [.ref 22, .ref 27, .ref 56, .int 0, .ref 94, .ref 95, .ref 96, .int 0, .int 0]), .inr (0, 10, .inl (fun _ => 0)), .inr (0, 10, .inl (fun _ => 0)), .inr (0, 10, .inl (fun _ => 0)), .inl (12, [.ref 98, .int 0, .int 0, .int 0, .int 0, .int 0, .int 0, .ref 99, .ref 100, .int 0, .int 0, .int 0, .int 0, .int 0, .ref 101, .ref 102, .ref 103, .ref 104, .null, .null, .null, .null, .int 0, .int 0, .int 0, .int 0, .int 0, .null, .null, .null, .null, .null, .null, .null, .null, .null, .null, .null, .null, .null, .null, .null, .null, .null, .null, .null, .int 0, .int 0, .int 0, .int 0, .int 0, .int 0, .null, .null, .null, .null, .null, .int 0, .null, .null, .null, .int 0, .int 0, .int 0, .null, .null, .null, .null]), .inr (1, 200, .inl (fun _ => 0)), .inr (0, 864, .inl (fun _ => 0)), .inr (0, 72, .inl (fun _ => 0)), .inr (0, 10, .inl (fun _ => 0)), .inr (0, 3, .inl (fun _ => 0)), .inr (0, 3, .inl (fun _ => 0)), .inr (0, 4, .inl (fun _ => 0))]
def nx_168 : List nn_C := nx_167 ++ [.inr (0, 10, .inl (fun _ => 0))]
def nx_169 : List nn_C := nx_168.set 97 (.inl (12, [.ref 98, .int 0, .int 0, .int 0, .int 0, .int 0, .int 0, .ref 99, .ref 100, .int 0, .int 0, .int 0, .int 0, .int 0, .ref 101, .ref 102, .ref 103, .ref 104, .ref 105, .null, .null, .null, .int 0, .int 0, .int 0, .int 0, .int 0, .null, .null, .null, .null, .null, .null, .null, .null, .null, .null, .null, .null, .null, .null, .null, .null, .null, .null, .null, .int 0, .int 0, .int 0, .int 0, .int 0, .int 0, .null, .null, .null, .null, .null, .int 0, .null, .null, .null, .int 0, .int 0, .int 0, .null, .null, .null, .null]))
def nx_170 : List nn_C := nx_169 ++ [.inr (0, 10, .inl (fun _ => 0))]
def nx_171 : List nn_C := nx_170.set 97 (.inl (12, [.ref 98, .int 0, .int 0, .int 0, .int 0, .int 0, .int 0, .ref 99, .ref 100, .int 0, .int 0, .int 0, .int 0, .int 0, .ref 101, .ref 102, .ref 103, .ref 104, .ref 105, .ref 106, .null, .null, .int 0, .int 0, .int 0, .int 0, .int 0, .null, .null, .null, .null, .null, .null, .null, .null, .null, .null, .null, .null, .null, .null, .null, .null, .null, .null, .null, .int 0, .int 0, .int 0, .int 0, .int 0, .int 0, .null, .null, .null, .null, .null, .int 0, .null, .null, .null, .int 0, .int 0, .int 0, .null, .null, .null, .null]))
def nx_172 : List nn_C := nx_171 ++ [.inr (0, 10, .inl (fun _ => 0))]
def nx_173 : List nn_C := nx_172.set 97 (.inl (12, [.ref 98, .int 0, .int 0, .int 0, .int 0, .int 0, .int 0, .ref 99, .ref 100, .int 0, .int 0, .int 0, .int 0, .int 0, .ref 101, .ref 102, .ref 103, .ref 104, .ref 105, .ref 106, .ref 107, .null, .int 0, .int 0, .int 0, .int 0, .int 0, .null, .null, .null, .null, .null, .null, .null, .null, .null, .null, .null, .null, .null, .null, .null, .null, .null, .null, .null, .int 0, .int 0, .int 0, .int 0, .int 0, .int 0, .null, .null, .null, .null, .null, .int 0, .null, .null, .null, .int 0, .int 0, .int 0, .null, .null, .null, .null]))
def nx_174 : List nn_C := nx_173 ++ [.inr (0, 10, .inl (fun _ => 0))]
def nx_175 : List nn_C := [.inl (11, [.ref 1, .ref 4, .ref 22, .ref 27, .ref 32, .int 0, .ref 37, .ref 46, .ref 55, .ref 56, .ref 71, .ref 73, .ref 93]), .inl (9, [.ref 2, .int 0]), .inr (0, 200, .inl (fun _ => 0)), .inl (10, [.ref 1, .int 0, .int 0, .int 0, .int 0]), .inl (1, [.ref 3, .ref 5, .ref 18, .int 0, .ref 19, .ref 20, .ref 21, .int 0, .int 0]), .inr (2, 12, .inr 6), .inr (0, 72, .inl (fun _ => 0)), .inr (0, 72, .inl (fun _ => 0)), .inr (0, 72, .inl (fun _ => 0)), .inr (0, 72, .inl (fun _ => 0)), .inr (0, 72, .inl (fun _ => 0)), .inr (0, 72, .inl (fun _ => 0)), .inr (0, 72, .inl (fun _ => 0)), .inr (0, 72, .inl (fun _ => 0)), .inr (0, 72, .inl (fun _ => 0)), .inr (0, 72, .inl (fun _ => 0)), .inr (0, 72, .inl (fun _ => 0)), .inr (0, 72, .inl (fun _ => 0)), .inr (0, 72, .inl (fun _ => 0)), .inr (0, 24, .inl (fun _ => 0)), .inr (0, 3, .inl (fun _ => 0)), .inr (0, 3, .inl (fun _ => 0)), .inl (2, [.ref 23, .int 0, .ref 24, .ref 25, .ref 26, .int 9999, .int 0]), .inr (0, 10, .inl (fun _ => 0)), .inr (0, 3, .inl (fun _ => 0)), .inr (0, 3, .inl (fun _ => 0)), .inr (0, 4, .inl (upd (upd (upd (upd (fun _ => 0) (0 : Int32).toNatClampNeg 999) (1 : Int32).toNatClampNeg 999) (2 : Int32).toNatClampNeg 999) (3 : Int32).toNatClampNeg 999)), .inl (7, [.int 0, .ref 28, .ref 29, .ref 30, .ref 31, .int 1]), .inr (0, 10, .inl (fun _ => 0)), .inr (0, 10, .inl (fun _ => 0)), .inr (0, 10, .inl (fun _ => 0)), .inr (0, 10, .inl (fun _ => 0)), .inl (7, [.int 0, .ref 33, .ref 34, .ref 35, .ref 36, .int 1]), .inr (0, 10, .inl (fun _ => 0)), .inr (0, 10, .inl (fun _ => 0)), .inr (0, 10, .inl (fun _ => 0)), .inr (0, 10, .inl (fun _ => 0)), .inl (3, [.ref 38, .ref 39, .int 0, .ref 40, .ref 41, .ref 42, .ref 43, .int 0, .ref 44, .ref 45, .int 0, .int 0]), .inr (0, 160, .inl (fun _ => 0)), .inr (0, 160, .inl (fun _ => 0)), .inr (0, 12, .inl (fun _ => 0)), .inr (0, 12, .inl (fun _ => 0)), .inr (0, 12, .inl (fun _ => 0)), .inr (0, 12, .inl (fun _ => 0)), .inr (0, 9, .inl (fun _ => 0)), .inr (0, 160, .inl (fun _ => 0)), .inl (3, [.ref 47, .ref 48, .int 0, .ref 49, .ref 50, .ref 51, .ref 52, .int 0, .ref 53, .ref 54, .int 0, .int 0]), .inr (0, 160, .inl (fun _ => 0)), .inr (0, 160, .inl (fun _ => 0)), .inr (0, 12, .inl (fun _ => 0)), .inr (0, 12, .inl (fun _ => 0)), .inr (0, 12, .inl (fun _ => 0)), .inr (0, 12, .inl (fun _ => 0)), .inr (0, 9, .inl (fun _ => 0)), .inr (0, 160, .inl (fun _ => 0)), .inl (4, [.ref 3, .ref 46]), .inl (5, [.ref 22, .ref 27, .ref 4, .ref 57, .ref 68, .ref 69, .ref 70, .int 0, .int 0, .int 0]), .inr (2, 10, .inr 58), .inr (0, 72, .inl (fun _ => 0)), .inr (0, 72, .inl (fun _ => 0)), .inr (0, 72, .inl (fun _ => 0)), .inr (0, 72, .inl (fun _ => 0)), .inr (0, 72, .inl (fun _ => 0)), .inr (0, 72, .inl (fun _ => 0)), .inr (0, 72, .inl (fun _ => 0)), .inr (0, 72, .inl (fun _ => 0)), .inr (0, 72, .inl (fun _ => 0)), .inr (0, 72, .inl (fun _ => 0)), .inr (0, 10, .inl (fun _ => 0)), .inr (0, 72, .inl (fun _ => 0)), .inr (0, 96, .inl (fun _ => 0)), .inl (0, [.ref 22, .ref 27, .ref 56, .int 0, .int 0, .ref 72, .long 0, .long 0]), .inr (0, 3, .inl (fun _ => 0)), .inl (8, [.ref 22, .ref 27, .ref 37, .ref 56, .ref 74, .ref 85, .int 0, .int 0, .ref 86, .ref 87, .ref 88, .ref 89, .ref 90, .ref 91, .ref 92]), .inr (2, 10, .inr 75), .inr (0, 72, .inl (fun _ => 0)), .inr (0, 72, .inl (fun _ => 0)), .inr (0, 72, .inl (fun _ => 0)), .inr (0, 72, .inl (fun _ => 0)), .inr (0, 72, .inl (fun _ => 0)), .inr (0, 72, .inl (fun _ => 0)), .inr (0, 72, .inl (fun _ => 0)), .inr (0, 72, .inl (fun _ => 0)), .inr (0, 72, .inl (fun _ => 0)), .inr (0, 72, .inl (fun _ => 0)), .inr (0, 10, .inl (fun _ => 0)), .inr (0, 10, .inl (fun _ => 0)), .inr (0, 10, .inl (fun _ => 0)), .inr (0, 3, .inl (fun _ => 0)), .inr (0, 4, .inl (fun _ => 0)), .inr (0, 24, .inl (fun _ => 0)), .inr (0, 1024, .inl (fun _ => 0)), .inr (0, 1024, .inl (fun _ => 0)), .inl (6, [.ref 22, .ref 27, .ref 56, .int 0, .ref 94, .ref 95, .ref 96, .int 0, .int 0]), .inr (0, 10, .inl (fun _ => 0)), .inr (0, 10, .inl (fun _ => 0)), .inr (0, 10, .inl (fun _ => 0)), .inl (12, [.ref 98, .int 0, .int 0, .int 0, .int 0, .int 0, .int 0, .ref 99, .ref 100, .int 0, .int 0, .int 0, .int 0, .int 0, .ref 101, .ref 102, .ref 103, .ref 104, .ref 105, .ref 106, .ref 107, .ref 108, .int 0, .int 0, .int 0, .int 0, .int 0, .null, .null, .null, .null, .null, .null, .null, .null, .null, .null, .null, .null, .null, .null, .null, .null, .null, .null, .null, .int 0, .int 0, .int 0, .int 0, .int 0, .int 0, .null, .null, .null, .null, .null, .int 0, .null, .null, .null, .int 0, .int 0, .int 0, .null, .null, .null, .null]), .inr (1, 200, .inl (fun _ => 0)), .inr (0, 864, .inl (fun _ => 0)), .inr (0, 72, .inl (fun _ => 0)), .inr (0, 10, .inl (fun _ => 0)), .inr (0, 3, .inl (fun _ => 0)), .inr (0, 3, .inl (fun _ => 0)), .inr (0, 4, .inl (fun _ => 0)), .inr (0, 10, .inl (fun _ => 0)), .inr (0, 10, .inl (fun _ => 0)), .inr (0, 10, .inl (fun _ => 0)), .inr (0, 10, .inl (fun _ => 0))]
def nx_176 : List nn_C := nx_175 ++ [.inr (0, 180, .inl (fun _ => 0))]
def nx_177 : List nn_C := nx_176.set 97 (.inl (12, [.ref 98, .int 0, .int 0, .int 0, .int 0, .int 0, .int 0, .ref 99, .ref 100, .int 0, .int 0, .int 0, .int 0, .int 0, .ref 101, .ref 102, .ref 103, .ref 104, .ref 105, .ref 106, .ref 107, .ref 108, .int 0, .int 0, .int 0, .int 0, .int 0, .ref 109, .null, .null, .null, .null, .null, .null, .null, .null, .null, .null, .null, .null, .null, .null, .null, .null, .null, .null, .int 0, .int 0, .int 0, .int 0, .int 0, .int 0, .null, .null, .null, .null, .null, .int 0, .null, .null, .null, .int 0, .int 0, .int 0, .null, .null, .null, .null]))
def nx_178 : List nn_C := nx_177 ++ [.inr (0, 180, .inl (fun _ => 0))]
def nx_179 : List nn_C := nx_178.set 97 (.inl (12, [.ref 98, .int 0, .int 0, .int 0, .int 0, .int 0, .int 0, .ref 99, .ref 100, .int 0, .int 0, .int 0, .int 0, .int 0, .ref 101, .ref 102, .ref 103, .ref 104, .ref 105, .ref 106, .ref 107, .ref 108, .int 0, .int 0, .int 0, .int 0, .int 0, .ref 109, .ref 110, .null, .null, .null, .null, .null, .null, .null, .null, .null, .null, .null, .null, .null, .null, .null, .null, .null, .int 0, .int 0, .int 0, .int 0, .int 0, .int 0, .null, .null, .null, .null, .null, .int 0, .null, .null, .null, .int 0, .int 0, .int 0, .null, .null, .null, .null]))
def nx_180 : List nn_C := nx_179 ++ [.inr (0, 12, .inl (fun _ => 0))]
def nx_181 : List nn_C := nx_180.set 97 (.inl (12, [.ref 98, .int 0, .int 0, .int 0, .int 0, .int 0, .int 0, .ref 99, .ref 100, .int 0, .int 0, .int 0, .int 0, .int 0, .ref 101, .ref 102, .ref 103, .ref 104, .ref 105, .ref 106, .ref 107, .ref 108, .int 0, .int 0, .int 0, .int 0, .int 0, .ref 109, .ref 110, .ref 111, .null, .null, .null, .null, .null, .null, .null, .null, .null, .null, .null, .null, .null, .null, .null, .null, .int 0, .int 0, .int 0, .int 0, .int 0, .int 0, .null, .null, .null, .null, .null, .int 0, .null, .null, .null, .int 0, .int 0, .int 0, .null, .null, .null, .null]))
def nx_182 : List nn_C := nx_181 ++ [.inr (0, 12, .inl (fun _ => 0))]
def nx_183 : List nn_C := [.inl (11, [.ref 1, .ref 4, .ref 22, .ref 27, .ref 32, .int 0, .ref 37, .ref 46, .ref 55, .ref 56, .ref 71, .ref 73, .ref 93]), .inl (9, [.ref 2, .int 0]), .inr (0, 200, .inl (fun _ => 0)), .inl (10, [.ref 1, .int 0, .int 0, .int 0, .int 0]), .inl (1, [.ref 3, .ref 5, .ref 18, .int 0, .ref 19, .ref 20, .ref 21, .int 0, .int 0]), .inr (2, 12, .inr 6), .inr (0, 72, .inl (fun _ => 0)), .inr (0, 72, .inl (fun _ => 0)), .inr (0, 72, .inl (fun _ => 0)), .inr (0, 72, .inl (fun _ => 0)), .inr (0, 72, .inl (fun _ => 0)), .inr (0, 72, .inl (fun _ => 0)), .inr (0, 72, .inl (fun _ => 0)), .inr (0, 72, .inl (fun _ => 0)), .inr (0, 72, .inl (fun _ => 0)), .inr (0, 72, .inl (fun _ => 0)), .inr (0, 72, .inl (fun _ => 0)), .inr (0, 72, .inl (fun _ => 0)), .inr (0, 72, .inl (fun _ => 0)), .inr (0, 24, .inl (fun _ => 0)), .inr (0, 3, .inl (fun _ => 0)), .inr (0, 3, .inl (fun _ => 0)), .inl (2, [.ref 23, .int 0, .ref 24, .ref 25, .ref 26, .int 9999, .int 0]), .inr (0, 10, .inl (fun _ => 0)), .inr (0, 3, .inl (fun _ => 0)), .inr (0, 3, .inl (fun _ => 0)), .inr (0, 4, .inl (upd (upd (upd (upd (fun _ => 0) (0 : Int32).toNatClampNeg 999) (1 : Int32).toNatClampNeg 999) (2 : Int32).toNatClampNeg 999) (3 : Int32).toNatClampNeg 999)), .inl (7, [.int 0, .ref 28, .ref 29, .ref 30, .ref 31, .int 1]), .inr (0, 10, .inl (fun _ => 0)), .inr (0, 10, .inl (fun _ => 0)), .inr (0, 10, .inl (fun _ => 0)), .inr (0, 10, .inl (fun _ => 0)), .inl (7, [.int 0, .ref 33, .ref 34, .ref 35, .ref 36, .int 1]), .inr (0, 10, .inl (fun _ => 0)), .inr (0, 10, .inl (fun _ => 0)), .inr (0, 10, .inl (fun _ => 0)), .inr (0, 10, .inl (fun _ => 0)), .inl (3, [.ref 38, .ref 39, .int 0, .ref 40, .ref 41, .ref 42, .ref 43, .int 0, .ref 44, .ref 45, .int 0, .int 0]), .inr (0, 160, .inl (fun _ => 0)), .inr (0, 160, .inl (fun _ => 0)), .inr (0, 12, .inl (fun _ => 0)), .inr (0, 12, .inl (fun _ => 0)), .inr (0, 12, .inl (fun _ => 0)), .inr (0, 12, .inl (fun _ => 0)), .inr (0, 9, .inl (fun _ => 0)), .inr (0, 160, .inl (fun _ => 0)), .inl (3, [.ref 47, .ref 48, .int 0, .ref 49, .ref 50, .ref 51, .ref 52, .int 0, .ref 53, .ref 54, .int 0, .int 0]), .inr (0, 160, .inl (fun _ => 0)), .inr (0, 160, .inl (fun _ => 0)), .inr (0, 12, .inl (fun _ => 0)), .inr (0, 12, .inl (fun _ => 0)), .inr (0, 12, .inl (fun _ => 0)), .inr (0, 12, .inl (fun _ => 0)), .inr (0, 9, .inl (fun _ => 0)), .inr (0, 160, .inl (fun _ => 0)), .inl (4, [.ref 3, .ref 46]), .inl (5, [.ref 22, .ref 27, .ref 4, .ref 57, .ref 68, .ref 69, .ref 70, .int 0, .int 0, .int 0]), .inr (2, 10, .inr 58), .inr (0, 72, .inl (fun _ => 0)), .inr (0, 72, .inl (fun _ => 0)), .inr (0, 72, .inl (fun _ => 0)), .inr (0, 72, .inl (fun _ => 0)), .inr (0, 72, .inl (fun _ => 0)), .inr (0, 72, .inl (fun _ => 0)), .inr (0, 72, .inl (fun _ => 0)), .inr (0, 72, .inl (fun _ => 0)), .inr (0, 72, .inl (fun _ => 0)), .inr (0, 72, .inl (fun _ => 0)), .inr (0, 10, .inl (fun _ => 0)), .inr (0, 72, .inl (fun _ => 0)), .inr (0, 96, .inl (fun _ => 0)), .inl (0, [.ref 22, .ref 27, .ref 56, .int 0, .int 0, .ref 72, .long 0, .long 0]), .inr (0, 3, .inl (fun _ => 0)), .inl (8, [.ref 22, .ref 27, .ref 37, .ref 56, .ref 74, .ref 85, .int 0, .int 0, .ref 86, .ref 87, .ref 88, .ref 89, .ref 90, .ref 91, .ref 92]), .inr (2, 10, .inr 75), .inr (0, 72, .inl (fun _ => 0)), .inr (0, 72, .inl (fun _ => 0)), .inr (0, 72, .inl (fun _ => 0)), .inr (0, 72, .inl (fun _ => 0)), .inr (0, 72, .inl (fun _ => 0)), .inr (0, 72, .inl (fun _ => 0)), .inr (0, 72, .inl (fun _ => 0)), .inr (0, 72, .inl (fun _ => 0)), .inr (0, 72, .inl (fun _ => 0)), .inr (0, 72, .inl (fun _ => 0)), .inr (0, 10, .inl (fun _ => 0)), .inr (0, 10, .inl (fun _ => 0)), .inr (0, 10, .inl (fun _ => 0)), .inr (0, 3, .inl (fun _ => 0)), .inr (0, 4, .inl (fun _ => 0)), .inr (0, 24, .inl (fun _ => 0)), .inr (0, 1024, .inl (fun _ => 0)), .inr (0, 1024, .inl (fun _ => 0)), .inl (6, [.ref 22, .ref 27, .ref 56, .int 0, .ref 94, .ref 95, .ref 96, .int 0, .int 0]), .inr (0, 10, .inl (fun _ => 0)), .inr (0, 10, .inl (fun _ => 0)), .inr (0, 10, .inl (fun _ => 0)), .inl (12, [.ref 98, .int 0, .int 0, .int 0, .int 0, .int 0, .int 0, .ref 99, .ref 100, .int 0, .int 0, .int 0, .int 0, .int 0, .ref 101, .ref 102, .ref 103, .ref 104, .ref 105, .ref 106, .ref 107, .ref 108, .int 0, .int 0, .int 0, .int 0, .int 0, .ref 109, .ref 110, .ref 111, .ref 112, .null, .null, .null, .null, .null, .null, .null, .null, .null, .null, .null, .null, .null, .null, .null, .int 0, .int 0, .int 0, .int 0, .int 0, .int 0, .null, .null, .null, .null, .null, .int 0, .null, .null, .null, .int 0, .int 0, .int 0, .null, .null, .null, .null]), .inr (1, 200, .inl (fun _ => 0)), .inr (0, 864, .inl (fun _ => 0)), .inr (0, 72, .inl (fun _ => 0)), .inr (0, 10, .inl (fun _ => 0)), .inr (0, 3, .inl (fun _ => 0)), .inr (0, 3, .inl (fun _ => 0)), .inr (0, 4, .inl (fun _ => 0)), .inr (0, 10, .inl (fun _ => 0)), .inr (0, 10, .inl (fun _ => 0)), .inr (0, 10, .inl (fun _ => 0)), .inr (0, 10, .inl (fun _ => 0)), .inr (0, 180, .inl (fun _ => 0)), .inr (0, 180, .inl (fun _ => 0)), .inr (0, 12, .inl (fun _ => 0)), .inr (0, 12, .inl (fun _ => 0))]
def nx_184 : List nn_C := nx_183 ++ [.inr (0, 12, .inl (fun _ => 0))]
def nx_185 : List nn_C := nx_184.set 97 (.inl (12, [.ref 98, .int 0, .int 0, .int 0, .int 0, .int 0, .int 0, .ref 99, .ref 100, .int 0, .int 0, .int 0, .int 0, .int 0, .ref 101, .ref 102, .ref 103, .ref 104, .ref 105, .ref 106, .ref 107, .ref 108, .int 0, .int 0, .int 0, .int 0, .int 0, .ref 109, .ref 110, .ref 111, .ref 112, .ref 113, .null, .null, .null, .null, .null, .null, .null, .null, .null, .null, .null, .null, .null, .null, .int 0, .int 0, .int 0, .int 0, .int 0, .int 0, .null, .null, .null, .null, .null, .int 0, .null, .null, .null, .int 0, .int 0, .int 0, .null, .null, .null, .null]))
def nx_186 : List nn_C := nx_185 ++ [.inr (0, 12, .inl (fun _ => 0))]
def nx_187 : List nn_C := nx_186.set 97 (.inl (12, [.ref 98, .int 0, .int 0, .int 0, .int 0, .int 0, .int 0, .ref 99, .ref 100, .int 0, .int 0, .int 0, .int 0, .int 0, .ref 101, .ref 102, .ref 103, .ref 104, .ref 105, .ref 106, .ref 107, .ref 108, .int 0, .int 0, .int 0, .int 0, .int 0, .ref 109, .ref 110, .ref 111, .ref 112, .ref 113, .ref 114, .null, .null, .null, .null, .null, .null, .null, .null, .null, .null, .null, .null, .null, .int 0, .int 0, .int 0, .int 0, .int 0, .int 0, .null, .null, .null, .null, .null, .int 0, .null, .null, .null, .int 0, .int 0, .int 0, .null, .null, .null, .null]))
def nx_188 : List nn_C := nx_187 ++ [.inr (0, 180, .inl (fun _ => 0))]
def nx_189 : List nn_C := nx_188.set 97 (.inl (12, [.ref 98, .int 0, .int 0, .int 0, .int 0, .int 0, .int 0, .ref 99, .ref 100, .int 0, .int 0, .int 0, .int 0, .int 0, .ref 101, .ref 102, .ref 103, .ref 104, .ref 105, .ref 106, .ref 107, .ref 108, .int 0, .int 0, .int 0, .int 0, .int 0, .ref 109, .ref 110, .ref 111, .ref 112, .ref 113, .ref 114, .ref 115, .null, .null, .null, .null, .null, .null, .null, .null, .null, .null, .null, .null, .int 0, .int 0, .int 0, .int 0, .int 0, .int 0, .null, .null, .null, .null, .null, .int 0, .null, .null, .null, .int 0, .int 0, .int 0, .null, .null, .null, .null]))
def nx_190 : List nn_C := nx_189 ++ [.inr (0, 12, .inl (fun _ => 0))]
def nx_191 : List nn_C := [.inl (11, [.ref 1, .ref 4, .ref 22, .ref 27, .ref 32, .int 0, .ref 37, .ref 46, .ref 55, .ref 56, .ref 71, .ref 73, .ref 93]), .inl (9, [.ref 2, .int 0]), .inr (0, 200, .inl (fun _ => 0)), .inl (10, [.ref 1, .int 0, .int 0, .int 0, .int 0]), .inl (1, [.ref 3, .ref 5, .ref 18, .int 0, .ref 19, .ref 20, .ref 21, .int 0, .int 0]), .inr (2, 12, .inr 6), .inr (0, 72, .inl (fun _ => 0)), .inr (0, 72, .inl (fun _ => 0)), .inr (0, 72, .inl (fun _ => 0)), .inr (0, 72, .inl (fun _ => 0)), .inr (0, 72, .inl (fun _ => 0)), .inr (0, 72, .inl (fun _ => 0)), .inr (0, 72, .inl (fun _ => 0)), .inr (0, 72, .inl (fun _ => 0)), .inr (0, 72, .inl (fun _ => 0)), .inr (0, 72, .inl (fun _ => 0)), .inr (0, 72, .inl (fun _ => 0)), .inr (0, 72, .inl (fun _ => 0)), .inr (0, 72, .inl (fun _ => 0)), .inr (0, 24, .inl (fun _ => 0)), .inr (0, 3, .inl (fun _ => 0)), .inr (0, 3, .inl (fun _ => 0)), .inl (2, [.ref 23, .int 0, .ref 24, .ref 25, .ref 26, .int 9999, .int 0]), .inr (0, 10, .inl (fun _ => 0)), .inr (0, 3, .inl (fun _ => 0)), .inr (0, 3, .inl (fun _ => 0)), .inr (0, 4, .inl (upd (upd (upd (upd (fun _ => 0) (0 : Int32).toNatClampNeg 999) (1 : Int32).toNatClampNeg 999) (2 : Int32).toNatClampNeg 999) (3 : Int32).toNatClampNeg 999)), .inl (7, [.int 0, .ref 28, .ref 29, .ref 30, .ref 31, .int 1]), .inr (0, 10, .inl (fun _ => 0)), .inr (0, 10, .inl (fun _ => 0)), .inr (0, 10, .inl (fun _ => 0)), .inr (0, 10, .inl (fun _ => 0)), .inl (7, [.int 0, .ref 33, .ref 34, .ref 35, .ref 36, .int 1]), .inr (0, 10, .inl (fun _ => 0)), .inr (0, 10, .inl (fun _ => 0)), .inr (0, 10, .inl (fun _ => 0)), .inr (0, 10, .inl (fun _ => 0)), .inl (3, [.ref 38, .ref 39, .int 0, .ref 40, .ref 41, .ref 42, .ref 43, .int 0, .ref 44, .ref 45, .int 0, .int 0]), .inr (0, 160, .inl (fun _ => 0)), .inr (0, 160, .inl (fun _ => 0)), .inr (0, 12, .inl (fun _ => 0)), .inr (0, 12, .inl (fun _ => 0)), .inr (0, 12, .inl (fun _ => 0)), .inr (0, 12, .inl (fun _ => 0)), .inr (0, 9, .inl (fun _ => 0)), .inr (0, 160, .inl (fun _ => 0)), .inl (3, [.ref 47, .ref 48, .int 0, .ref 49, .ref 50, .ref 51, .ref 52, .int 0, .ref 53, .ref 54, .int 0, .int 0]), .inr (0, 160, .inl (fun _ => 0)), .inr (0, 160, .inl (fun _ => 0)), .inr (0, 12, .inl (fun _ => 0)), .inr (0, 12, .inl (fun _ => 0)), .inr (0, 12, .inl (fun _ => 0)), .inr (0, 12, .inl (fun _ => 0)), .inr (0, 9, .inl (fun _ => 0)), .inr (0, 160, .inl (fun _ => 0)), .inl (4, [.ref 3, .ref 46]), .inl (5, [.ref 22, .ref 27, .ref 4, .ref 57, .ref 68, .ref 69, .ref 70, .int 0, .int 0, .int 0]), .inr (2, 10, .inr 58), .inr (0, 72, .inl (fun _ => 0)), .inr (0, 72, .inl (fun _ => 0)), .inr (0, 72, .inl (fun _ => 0)), .inr (0, 72, .inl (fun _ => 0)), .inr (0, 72, .inl (fun _ => 0)), .inr (0, 72, .inl (fun _ => 0)), .inr (0, 72, .inl (fun _ => 0)), .inr (0, 72, .inl (fun _ => 0)), .inr (0, 72, .inl (fun _ => 0)), .inr (0, 72, .inl (fun _ => 0)), .inr (0, 10, .inl (fun _ => 0)), .inr (0, 72, .inl (fun _ => 0)), .inr (0, 96, .inl (fun _ => 0)), .inl (0, [.ref 22, .ref 27, .ref 56, .int 0, .int 0, .ref 72, .long 0, .long 0]), .inr (0, 3, .inl (fun _ => 0)), .inl (8, [.ref 22, .ref 27, .ref 37, .ref 56, .ref 74, .ref 85, .int 0, .int 0, .ref 86, .ref 87, .ref 88, .ref 89, .ref 90, .ref 91, .ref 92]), .inr (2, 10, .inr 75), .inr (0, 72, .inl (fun _ => 0)), .inr (0, 72, .inl (fun _ => 0)), .inr (0, 72, .inl (fun _ => 0)), .inr (0, 72, .inl (fun _ => 0)), .inr (0, 72, .inl (fun _ => 0)), .inr (0, 72, .inl (fun _ => 0)), .inr (0, 72, .inl (fun _ => 0)), .inr (0, 72, .inl (fun _ => 0)), .inr (0, 72, .inl (fun _ => 0)), .inr (0, 72, .inl (fun _ => 0)), .inr (0, 10, .inl (fun _ => 0)), .inr (0, 10, .inl (fun _ => 0)), .inr (0, 10, .inl (fun _ => 0)), .inr (0, 3, .inl (fun _ => 0)), .inr (0, 4, .inl (fun _ => 0)), .inr (0, 24, .inl (fun _ => 0)), .inr (0, 1024, .inl (fun _ => 0)), .inr (0, 1024, .inl (fun _ => 0)), .inl (6, [.ref 22, .ref 27, .ref 56, .int 0, .ref 94, .ref 95, .ref 96, .int 0, .int 0]), .inr (0, 10, .inl (fun _ => 0)), .inr (0, 10, .inl (fun _ => 0)), .inr (0, 10, .inl (fun _ => 0)), .inl (12, [.ref 98, .int 0, .int 0, .int 0, .int 0, .int 0, .int 0, .ref 99, .ref 100, .int 0, .int 0, .int 0, .int 0, .int 0, .ref 101, .ref 102, .ref 103, .ref 104, .ref 105, .ref 106, .ref 107, .ref 108, .int 0, .int 0, .int 0, .int 0, .int 0, .ref 109, .ref 110, .ref 111, .ref 112, .ref 113, .ref 114, .ref 115, .ref 116, .null, .null, .null, .null, .null, .null, .null, .null, .null, .null, .null, .int 0, .int 0, .int 0, .int 0, .int 0, .int 0, .null, .null, .null, .null, .null, .int 0, .null, .null, .null, .int 0, .int 0, .int 0, .null, .null, .null, .null]), .inr (1, 200, .inl (fun _ => 0)), .inr (0, 864, .inl (fun _ => 0)), .inr (0, 72, .inl (fun _ => 0)), .inr (0, 10, .inl (fun _ => 0)), .inr (0, 3, .inl (fun _ => 0)), .inr (0, 3, .inl (fun _ => 0)), .inr (0, 4, .inl (fun _ => 0)), .inr (0, 10, .inl (fun _ => 0)), .inr (0, 10, .inl (fun _ => 0)), .inr (0, 10, .inl (fun _ => 0)), .inr (0, 10, .inl (fun _ => 0)), .inr (0, 180, .inl (fun _ => 0)), .inr (0, 180, .inl (fun _ => 0)), .inr (0, 12, .inl (fun _ => 0)), .inr (0, 12, .inl (fun _ => 0)), .inr (0, 12, .inl (fun _ => 0)), .inr (0, 12, .inl (fun _ => 0)), .inr (0, 180, .inl (fun _ => 0)), .inr (0, 12, .inl (fun _ => 0))]
def nx_192 : List nn_C := nx_191 ++ [.inr (0, 12, .inl (fun _ => 0))]
def nx_193 : List nn_C := nx_192.set 97 (.inl (12, [.ref 98, .int 0, .int 0, .int 0, .int 0, .int 0, .int 0, .ref 99, .ref 100, .int 0, .int 0, .int 0, .int 0, .int 0, .ref 101, .ref 102, .ref 103, .ref 104, .ref 105, .ref 106, .ref 107, .ref 108, .int 0, .int 0, .int 0, .int 0, .int 0, .ref 109, .ref 110, .ref 111, .ref 112, .ref 113, .ref 114, .ref 115, .ref 116, .ref 117, .null, .null, .null, .null, .null, .null, .null, .null, .null, .null, .int 0, .int 0, .int 0, .int 0, .int 0, .int 0, .null, .null, .null, .null, .null, .int 0, .null, .null, .null, .int 0, .int 0, .int 0, .null, .null, .null, .null]))
def nx_194 : List nn_C := nx_193 ++ [.inr (0, 12, .inl (fun _ => 0))]
def nx_195 : List nn_C := nx_194.set 97 (.inl (12, [.ref 98, .int 0, .int 0, .int 0, .int 0, .int 0, .int 0, .ref 99, .ref 100, .int 0, .int 0, .int 0, .int 0, .int 0, .ref 101, .ref 102, .ref 103, .ref 104, .ref 105, .ref 106, .ref 107, .ref 108, .int 0, .int 0, .int 0, .int 0, .int 0, .ref 109, .ref 110, .ref 111, .ref 112, .ref 113, .ref 114, .ref 115, .ref 116, .ref 117, .ref 118, .null, .null, .null, .null, .null, .null, .null, .null, .null, .int 0, .int 0, .int 0, .int 0, .int 0, .int 0, .null, .null, .null, .null, .null, .int 0, .null, .null, .null, .int 0, .int 0, .int 0, .null, .null, .null, .null]))
def nx_196 : List nn_C := nx_195 ++ [.inr (0, 12, .inl (fun _ => 0))]
def nx_197 : List nn_C := nx_196.set 97 (.inl (12, [.ref 98, .int 0, .int 0, .int 0, .int 0, .int 0, .int 0, .ref 99, .ref 100, .int 0, .int 0, .int 0, .int 0, .int 0, .ref 101, .ref 102, .ref 103, .ref 104, .ref 105, .ref 106, .ref 107, .ref 108, .int 0, .int 0, .int 0, .int 0, .int 0, .ref 109, .ref 110, .ref 111, .ref 112, .ref 113, .ref 114, .ref 115, .ref 116, .ref 117, .ref 118, .ref 119, .null, .null, .null, .null, .null, .null, .null, .null, .int 0, .int 0, .int 0, .int 0, .int 0, .int 0, .null, .null, .null, .null, .null, .int 0, .null, .null, .null, .int 0, .int 0, .int 0, .null, .null, .null, .null]))
def nx_198 : List nn_C := nx_197 ++ [.inr (0, 180, .inl (fun _ => 0))]
def nx_199 : List nn_C := [.inl (11, [.ref 1, .ref 4, .ref 22, .ref 27, .ref 32, .int 0, .ref 37, .ref 46, .ref 55, .ref 56, .ref 71, .ref 73, .ref 93]), .inl (9, [.ref 2, .int 0]), .inr (0, 200, .inl (fun _ => 0)), .inl (10, [.ref 1, .int 0, .int 0, .int 0, .int 0]), .inl (1, [.ref 3, .ref 5, .ref 18, .int 0, .ref 19, .ref 20, .ref 21, .int 0, .int 0]), .inr (2, 12, .inr 6), .inr (0, 72, .inl (fun _ => 0)), .inr (0, 72, .inl (fun _ => 0)), .inr (0, 72, .inl (fun _ => 0)), .inr (0, 72, .inl (fun _ => 0)), .inr (0, 72, .inl (fun _ => 0)), .inr (0, 72, .inl (fun _ => 0)), .inr (0, 72, .inl (fun _ => 0)), .inr (0, 72, .inl (fun _ => 0)), .inr (0, 72, .inl (fun _ => 0)), .inr (0, 72, .inl (fun _ => 0)), .inr (0, 72, .inl (fun _ => 0)), .inr (0, 72, .inl (fun _ => 0)), .inr (0, 72, .inl (fun _ => 0)), .inr (0, 24, .inl (fun _ => 0)), .inr (0, 3, .inl (fun _ => 0)), .inr (0, 3, .inl (fun _ => 0)), .inl (2, [.ref 23, .int 0, .ref 24, .ref 25, .ref 26, .int 9999, .int 0]), .inr (0, 10, .inl (fun _ => 0)), .inr (0, 3, .inl (fun _ => 0)), .inr (0, 3, .inl (fun _ => 0)), .inr (0, 4, .inl (upd (upd (upd (upd (fun _ => 0) (0 : Int32).toNatClampNeg 999) (1 : Int32).toNatClampNeg 999) (2 : Int32).toNatClampNeg 999) (3 : Int32).toNatClampNeg 999)), .inl (7, [.int 0, .ref 28, .ref 29, .ref 30, .ref 31, .int 1]), .inr (0, 10, .inl (fun _ => 0)), .inr (0, 10, .inl (fun _ => 0)), .inr (0, 10, .inl (fun _ => 0)), .inr (0, 10, .inl (fun _ => 0)), .inl (7, [.int 0, .ref 33, .ref 34, .ref 35, .ref 36, .int 1]), .inr (0, 10, .inl (fun _ => 0)), .inr (0, 10, .inl (fun _ => 0)), .inr (0, 10, .inl (fun _ => 0)), .inr (0, 10, .inl (fun _ => 0)), .inl (3, [.ref 38, .ref 39, .int 0, .ref 40, .ref 41, .ref 42, .ref 43, .int 0, .ref 44, .ref 45, .int 0, .int 0]), .inr (0, 160, .inl (fun _ => 0)), .inr (0, 160, .inl (fun _ => 0)), .inr (0, 12, .inl (fun _ => 0)), .inr (0, 12, .inl (fun _ => 0)), .inr (0, 12, .inl (fun _ => 0)), .inr (0, 12, .inl (fun _ => 0)), .inr (0, 9, .inl (fun _ => 0)), .inr (0, 160, .inl (fun _ => 0)), .inl (3, [.ref 47, .ref 48, .int 0, .ref 49, .ref 50, .ref 51, .ref 52, .int 0, .ref 53, .ref 54, .int 0, .int 0]), .inr (0, 160, .inl (fun _ => 0)), .inr (0, 160, .inl (fun _ => 0)), .inr (0, 12, .inl (fun _ => 0)), .inr (0, 12, .inl (fun _ => 0)), .inr (0, 12, .inl (fun _ => 0)), .inr (0, 12, .inl (fun _ => 0)), .inr (0, 9, .inl (fun _ => 0)), .inr (0, 160, .inl (fun _ => 0)), .inl (4, [.ref 3, .ref 46]), .inl (5, [.ref 22, .ref 27, .ref 4, .ref 57, .ref 68, .ref 69, .ref 70, .int 0, .int 0, .int 0]), .inr (2, 10, .inr 58), .inr (0, 72, .inl (fun _ => 0)), .inr (0, 72, .inl (fun _ => 0)), .inr (0, 72, .inl (fun _ => 0)), .inr (0, 72, .inl (fun _ => 0)), .inr (0, 72, .inl (fun _ => 0)), .inr (0, 72, .inl (fun _ => 0)), .inr (0, 72, .inl (fun _ => 0)), .inr (0, 72, .inl (fun _ => 0)), .inr (0, 72, .inl (fun _ => 0)), .inr (0, 72, .inl (fun _ => 0)), .inr (0, 10, .inl (fun _ => 0)), .inr (0, 72, .inl (fun _ => 0)), .inr (0, 96, .inl (fun _ => 0)), .inl (0, [.ref 22, .ref 27, .ref 56, .int 0, .int 0, .ref 72, .long 0, .long 0]), .inr (0, 3, .inl (fun _ => 0)), .inl (8, [.ref 22, .ref 27, .ref 37, .ref 56, .ref 74, .ref 85, .int 0, .int 0, .ref 86, .ref 87, .ref 88, .ref 89, .ref 90, .ref 91, .ref 92]), .inr (2, 10, .inr 75), .inr (0, 72, .inl (fun _ => 0)), .inr (0, 72, .inl (fun _ => 0)), .inr (0, 72, .inl (fun _ => 0)), .inr (0, 72, .inl (fun _ => 0)), .inr (0, 72, .inl (fun _ => 0)), .inr (0, 72, .inl (fun _ => 0)), .inr (0, 72, .inl (fun _ => 0)), .inr (0, 72, .inl (fun _ => 0)), .inr (0, 72, .inl (fun _ => 0)), .inr (0, 72, .inl (fun _ => 0)), .inr (0, 10, .inl (fun _ => 0)), .inr (0, 10, .inl (fun _ => 0)), .inr (0, 10, .inl (fun _ => 0)), .inr (0, 3, .inl (fun _ => 0)), .inr (0, 4, .inl (fun _ => 0)), .inr (0, 24, .inl (fun _ => 0)), .inr (0, 1024, .inl (fun _ => 0)), .inr (0, 1024, .inl (fun _ => 0)), .inl (6, [.ref 22, .ref 27, .ref 56, .int 0, .ref 94, .ref 95, .ref 96, .int 0, .int 0]), .inr (0, 10, .inl (fun _ => 0)), .inr (0, 10, .inl (fun _ => 0)), .inr (0, 10, .inl (fun _ => 0)), .inl (12, [.ref 98, .int 0, .int 0, .int 0, .int 0, .int 0, .int 0, .ref 99, .ref 100, .int 0, .int 0, .int 0, .int 0, .int 0, .ref 101, .ref 102, .ref 103, .ref 104, .ref 105, .ref 106, .ref 107, .ref 108, .int 0, .int 0, .int 0, .int 0, .int 0, .ref 109, .ref 110, .ref 111, .ref 112, .ref 113, .ref 114, .ref 115, .ref 116, .ref 117, .ref 118, .ref 119, .ref 120, .null, .null, .null, .null, .null, .null, .null, .int 0, .int 0, .int 0, .int 0, .int 0, .int 0, .null, .null, .null, .null, .null, .int 0, .null, .null, .null, .int 0, .int 0, .int 0, .null, .null, .null, .null]), .inr (1, 200, .inl (fun _ => 0)), .inr (0, 864, .inl (fun _ => 0)), .inr (0, 72, .inl (fun _ => 0)), .inr (0, 10, .inl (fun _ => 0)), .inr (0, 3, .inl (fun _ => 0)), .inr (0, 3, .inl (fun _ => 0)), .inr (0, 4, .inl (fun _ => 0)), .inr (0, 10, .inl (fun _ => 0)), .inr (0, 10, .inl (fun _ => 0)), .inr (0, 10, .inl (fun _ => 0)), .inr (0, 10, .inl (fun _ => 0)), .inr (0, 180, .inl (fun _ => 0)), .inr (0, 180, .inl (fun _ => 0)), .inr (0, 12, .inl (fun _ => 0)), .inr (0, 12, .inl (fun _ => 0)), .inr (0, 12, .inl (fun _ => 0)), .inr (0, 12, .inl (fun _ => 0)), .inr (0, 180, .inl (fun _ => 0)), .inr (0, 12, .inl (fun _ => 0)), .inr (0, 12, .inl (fun _ => 0)), .inr (0, 12, .inl (fun _ => 0)), .inr (0, 12, .inl (fun _ => 0)), .inr (0, 180, .inl (fun _ => 0))]
def nx_200 : List nn_C := nx_199 ++ [.inr (0, 9, .inl (fun _ => 0))]
def nx_201 : List nn_C := nx_200.set 97 (.inl (12, [.ref 98, .int 0, .int 0, .int 0, .int 0, .int 0, .int 0, .ref 99, .ref 100, .int 0, .int 0, .int 0, .int 0, .int 0, .ref 101, .ref 102, .ref 103, .ref 104, .ref 105, .ref 106, .ref 107, .ref 108, .int 0, .int 0, .int 0, .int 0, .int 0, .ref 109, .ref 110, .ref 111, .ref 112, .ref 113, .ref 114, .ref 115, .ref 116, .ref 117, .ref 118, .ref 119, .ref 120, .ref 121, .null, .null, .null, .null, .null, .null, .int 0, .int 0, .int 0, .int 0, .int 0, .int 0, .null, .null, .null, .null, .null, .int 0, .null, .null, .null, .int 0, .int 0, .int 0, .null, .null, .null, .null]))
def nx_202 : List nn_C := nx_201 ++ [.inr (0, 10, .inl (fun _ => 0))]
def nx_203 : List nn_C := nx_202.set 97 (.inl (12, [.ref 98, .int 0, .int 0, .int 0, .int 0, .int 0, .int 0, .ref 99, .ref 100, .int 0, .int 0, .int 0, .int 0, .int 0, .ref 101, .ref 102, .ref 103, .ref 104, .ref 105, .ref 106, .ref 107, .ref 108, .int 0, .int 0, .int 0, .int 0, .int 0, .ref 109, .ref 110, .ref 111, .ref 112, .ref 113, .ref 114, .ref 115, .ref 116, .ref 117, .ref 118, .ref 119, .ref 120, .ref 121, .ref 122, .null, .null, .null, .null, .null, .int 0, .int 0, .int 0, .int 0, .int 0, .int 0, .null, .null, .null, .null, .null, .int 0, .null, .null, .null, .int 0, .int 0, .int 0, .null, .null, .null, .null]))
def nx_204 : List nn_C := nx_203 ++ [.inr (0, 10, .inl (fun _ => 0))]
def nx_205 : List nn_C := nx_204.set 97 (.inl (12, [.ref 98, .int 0, .int 0, .int 0, .int 0, .int 0, .int 0, .ref 99, .ref 100, .int 0, .int 0, .int 0, .int 0, .int 0, .ref 101, .ref 102, .ref 103, .ref 104, .ref 105, .ref 106, .ref 107, .ref 108, .int 0, .int 0, .int 0, .int 0, .int 0, .ref 109, .ref 110, .ref 111, .ref 112, .ref 113, .ref 114, .ref 115, .ref 116, .ref 117, .ref 118, .ref 119, .ref 120, .ref 121, .ref 122, .ref 123, .null, .null, .null, .null, .int 0, .int 0, .int 0, .int 0, .int 0, .int 0, .null, .null, .null, .null, .null, .int 0, .null, .null, .null, .int 0, .int 0, .int 0, .null, .null, .null, .null]))
def nx_206 : List nn_C := nx_205 ++ [.inr (0, 3, .inl (fun _ => 0))]
def nx_207 : List nn_C := [.inl (11, [.ref 1, .ref 4, .ref 22, .ref 27, .ref 32, .int 0, .ref 37, .ref 46, .ref 55, .ref 56, .ref 71, .ref 73, .ref 93]), .inl (9, [.ref 2, .int 0]), .inr (0, 200, .inl (fun _ => 0)), .inl (10, [.ref 1, .int 0, .int 0, .int 0, .int 0]), .inl (1, [.ref 3, .ref 5, .ref 18, .int 0, .ref 19, .ref 20, .ref 21, .int 0, .int 0]), .inr (2, 12, .inr 6), .inr (0, 72, .inl (fun _ => 0)), .inr (0, 72, .inl (fun _ => 0)), .inr (0, 72, .inl (fun _ => 0)), .inr (0, 72, .inl (fun _ => 0)), .inr (0, 72, .inl (fun _ => 0)), .inr (0, 72, .inl (fun _ => 0)), .inr (0, 72, .inl (fun _ => 0)), .inr (0, 72, .inl (fun _ => 0)), .inr (0, 72, .inl (fun _ => 0)), .inr (0, 72, .inl (fun _ => 0)), .inr (0, 72, .inl (fun _ => 0)), .inr (0, 72, .inl (fun _ => 0)), .inr (0, 72, .inl (fun _ => 0)), .inr (0, 24, .inl (fun _ => 0)), .inr (0, 3, .inl (fun _ => 0)), .inr (0, 3, .inl (fun _ => 0)), .inl (2, [.ref 23, .int 0, .ref 24, .ref 25, .ref 26, .int 9999, .int 0]), .inr (0, 10, .inl (fun _ => 0)), .inr (0, 3, .inl (fun _ => 0)), .inr (0, 3, .inl (fun _ => 0)), .inr (0, 4, .inl (upd (upd (upd (upd (fun _ => 0) (0 : Int32).toNatClampNeg 999) (1 : Int32).toNatClampNeg 999) (2 : Int32).toNatClampNeg 999) (3 : Int32).toNatClampNeg 999)), .inl (7, [.int 0, .ref 28, .ref 29, .ref 30, .ref 31, .int 1]), .inr (0, 10, .inl (fun _ => 0)), .inr (0, 10, .inl (fun _ => 0)), .inr (0, 10, .inl (fun _ => 0)), .inr (0, 10, .inl (fun _ => 0)), .inl (7, [.int 0, .ref 33, .ref 34, .ref 35, .ref 36, .int 1]), .inr (0, 10, .inl (fun _ => 0)), .inr (0, 10, .inl (fun _ => 0)), .inr (0, 10, .inl (fun _ => 0)), .inr (0, 10, .inl (fun _ => 0)), .inl (3, [.ref 38, .ref 39, .int 0, .ref 40, .ref 41, .ref 42, .ref 43, .int 0, .ref 44, .ref 45, .int 0, .int 0]), .inr (0, 160, .inl (fun _ => 0)), .inr (0, 160, .inl (fun _ => 0)), .inr (0, 12, .inl (fun _ => 0)), .inr (0, 12, .inl (fun _ => 0)), .inr (0, 12, .inl (fun _ => 0)), .inr (0, 12, .inl (fun _ => 0)), .inr (0, 9, .inl (fun _ => 0)), .inr (0, 160, .inl (fun _ => 0)), .inl (3, [.ref 47, .ref 48, .int 0, .ref 49, .ref 50, .ref 51, .ref 52, .int 0, .ref 53, .ref 54, .int 0, .int 0]), .inr (0, 160, .inl (fun _ => 0)), .inr (0, 160, .inl (fun _ => 0)), .inr (0, 12, .inl (fun _ => 0)), .inr (0, 12, .inl (fun _ => 0)), .inr (0, 12, .inl (fun _ => 0)), .inr (0, 12, .inl (fun _ => 0)), .inr (0, 9, .inl (fun _ => 0)), .inr (0, 160, .inl (fun _ => 0)), .inl (4, [.ref 3, .ref 46]), .inl (5, [.ref 22, .ref 27, .ref 4, .ref 57, .ref 68, .ref 69, .ref 70, .int 0, .int 0, .int 0]), .inr (2, 10, .inr 58), .inr (0, 72, .inl (fun _ => 0)), .inr (0, 72, .inl (fun _ => 0)), .inr (0, 72, .inl (fun _ => 0)), .inr (0, 72, .inl (fun _ => 0)), .inr (0, 72, .inl (fun _ => 0)), .inr (0, 72, .inl (fun _ => 0)), .inr (0, 72, .inl (fun _ => 0)), .inr (0, 72, .inl (fun _ => 0)), .inr (0, 72, .inl (fun _ => 0)), .inr (0, 72, .inl (fun _ => 0)), .inr (0, 10, .inl (fun _ => 0)), .inr (0, 72, .inl (fun _ => 0)), .inr (0, 96, .inl (fun _ => 0)), .inl (0, [.ref 22, .ref 27, .ref 56, .int 0, .int 0, .ref 72, .long 0, .long 0]), .inr (0, 3, .inl (fun _ => 0)), .inl (8, [.ref 22, .ref 27, .ref 37, .ref 56, .ref 74, .ref 85, .int 0, .int 0, .ref 86, .ref 87, .ref 88, .ref 89, .ref 90, .ref 91, .ref 92]), .inr (2, 10, .inr 75), .inr (0, 72, .inl (fun _ => 0)), .inr (0, 72, .inl (fun _ => 0)), .inr (0, 72, .inl (fun _ => 0)), .inr (0, 72, .inl (fun _ => 0)), .inr (0, 72, .inl (fun _ => 0)), .inr (0, 72, .inl (fun _ => 0)), .inr (0, 72, .inl (fun _ => 0)), .inr (0, 72, .inl (fun _ => 0)), .inr (0, 72, .inl (fun _ => 0)), .inr (0, 72, .inl (fun _ => 0)), .inr (0, 10, .inl (fun _ => 0)), .inr (0, 10, .inl (fun _ => 0)), .inr (0, 10, .inl (fun _ => 0)), .inr (0, 3, .inl (fun _ => 0)), .inr (0, 4, .inl (fun _ => 0)), .inr (0, 24, .inl (fun _ => 0)), .inr (0, 1024, .inl (fun _ => 0)), .inr (0, 1024, .inl (fun _ => 0)), .inl (6, [.ref 22, .ref 27, .ref 56, .int 0, .ref 94, .ref 95, .ref 96, .int 0, .int 0]), .inr (0, 10, .inl (fun _ => 0)), .inr (0, 10, .inl (fun _ => 0)), .inr (0, 10, .inl (fun _ => 0)), .inl (12, [.ref 98, .int 0, .int 0, .int 0, .int 0, .int 0, .int 0, .ref 99, .ref 100, .int 0, .int 0, .int 0, .int 0, .int 0, .ref 101, .ref 102, .ref 103, .ref 104, .ref 105, .ref 106, .ref 107, .ref 108, .int 0, .int 0, .int 0, .int 0, .int 0, .ref 109, .ref 110, .ref 111, .ref 112, .ref 113, .ref 114, .ref 115, .ref 116, .ref 117, .ref 118, .ref 119, .ref 120, .ref 121, .ref 122, .ref 123, .ref 124, .null, .null, .null, .int 0, .int 0, .int 0, .int 0, .int 0, .int 0, .null, .null, .null, .null, .null, .int 0, .null, .null, .null, .int 0, .int 0, .int 0, .null, .null, .null, .null]), .inr (1, 200, .inl (fun _ => 0)), .inr (0, 864, .inl (fun _ => 0)), .inr (0, 72, .inl (fun _ => 0)), .inr (0, 10, .inl (fun _ => 0)), .inr (0, 3, .inl (fun _ => 0)), .inr (0, 3, .inl (fun _ => 0)), .inr (0, 4, .inl (fun _ => 0)), .inr (0, 10, .inl (fun _ => 0)), .inr (0, 10, .inl (fun _ => 0)), .inr (0, 10, .inl (fun _ => 0)), .inr (0, 10, .inl (fun _ => 0)), .inr (0, 180, .inl (fun _ => 0)), .inr (0, 180, .inl (fun _ => 0)), .inr (0, 12, .inl (fun _ => 0)), .inr (0, 12, .inl (fun _ => 0)), .inr (0, 12, .inl (fun _ => 0)), .inr (0, 12, .inl (fun _ => 0)), .inr (0, 180, .inl (fun _ => 0)), .inr (0, 12, .inl (fun _ => 0)), .inr (0, 12, .inl (fun _ => 0)), .inr (0, 12, .inl (fun _ => 0)), .inr (0, 12, .inl (fun _ => 0)), .inr (0, 180, .inl (fun _ => 0)), .inr (0, 9, .inl (fun _ => 0)), .inr (0, 10, .inl (fun _ => 0)), .inr (0, 10, .inl (fun _ => 0)), .inr (0, 3, .inl (fun _ => 0))]
def nx_208 : List nn_C := nx_207 ++ [.inr (0, 4, .inl (fun _ => 0))]
def nx_209 : List nn_C := nx_208.set 97 (.inl (12, [.ref 98, .int 0, .int 0, .int 0, .int 0, .int 0, .int 0, .ref 99, .ref 100, .int 0, .int 0, .int 0, .int 0, .int 0, .ref 101, .ref 102, .ref 103, .ref 104, .ref 105, .ref 106, .ref 107, .ref 108, .int 0, .int 0, .int 0, .int 0, .int 0, .ref 109, .ref 110, .ref 111, .ref 112, .ref 113, .ref 114, .ref 115, .ref 116, .ref 117, .ref 118, .ref 119, .ref 120, .ref 121, .ref 122, .ref 123, .ref 124, .ref 125, .null, .null, .int 0, .int 0, .int 0, .int 0, .int 0, .int 0, .null, .null, .null, .null, .null, .int 0, .null, .null, .null, .int 0, .int 0, .int 0, .null, .null, .null, .null]))
def nx_210 : List nn_C := nx_209 ++ [.inr (0, 720, .inl (fun _ => 0))]
def nx_211 : List nn_C := nx_210.set 97 (.inl (12, [.ref 98, .int 0, .int 0, .int 0, .int 0, .int 0, .int 0, .ref 99, .ref 100, .int 0, .int 0, .int 0, .int 0, .int 0, .ref 101, .ref 102, .ref 103, .ref 104, .ref 105, .ref 106, .ref 107, .ref 108, .int 0, .int 0, .int 0, .int 0, .int 0, .ref 109, .ref 110, .ref 111, .ref 112, .ref 113, .ref 114, .ref 115, .ref 116, .ref 117, .ref 118, .ref 119, .ref 120, .ref 121, .ref 122, .ref 123, .ref 124, .ref 125, .ref 126, .null, .int 0, .int 0, .int 0, .int 0, .int 0, .int 0, .null, .null, .null, .null, .null, .int 0, .null, .null, .null, .int 0, .int 0, .int 0, .null, .null, .null, .null]))
def nx_212 : List nn_C := nx_211 ++ [.inr (0, 10, .inl (fun _ => 0))]
def nx_213 : List nn_C := nx_212.set 97 (.inl (12, [.ref 98, .int 0, .int 0, .int 0, .int 0, .int 0, .int 0, .ref 99, .ref 100, .int 0, .int 0, .int 0, .int 0, .int 0, .ref 101, .ref 102, .ref 103, .ref 104, .ref 105, .ref 106, .ref 107, .ref 108, .int 0, .int 0, .int 0, .int 0, .int 0, .ref 109, .ref 110, .ref 111, .ref 112, .ref 113, .ref 114, .ref 115, .ref 116, .ref 117, .ref 118, .ref 119, .ref 120, .ref 121, .ref 122, .ref 123, .ref 124, .ref 125, .ref 126, .ref 127, .int 0, .int 0, .int 0, .int 0, .int 0, .int 0, .null, .null, .null, .null, .null, .int 0, .null, .null, .null, .int 0, .int 0, .int 0, .null, .null, .null, .null]))
def nx_214 : List nn_C := nx_213 ++ [.inr (0, 10, .inl (fun _ => 0))]
def nx_215 : List nn_C := [.inl (11, [.ref 1, .ref 4, .ref 22, .ref 27, .ref 32, .int 0, .ref 37, .ref 46, .ref 55, .ref 56, .ref 71, .ref 73, .ref 93]), .inl (9, [.ref 2, .int 0]), .inr (0, 200, .inl (fun _ => 0)), .inl (10, [.ref 1, .int 0, .int 0, .int 0, .int 0]), .inl (1, [.ref 3, .ref 5, .ref 18, .int 0, .ref 19, .ref 20, .ref 21, .int 0, .int 0]), .inr (2, 12, .inr 6), .inr (0, 72, .inl (fun _ => 0)), .inr (0, 72, .inl (fun _ => 0)), .inr (0, 72, .inl (fun _ => 0)), .inr (0, 72, .inl (fun _ => 0)), .inr (0, 72, .inl (fun _ => 0)), .inr (0, 72, .inl (fun _ => 0)), .inr (0, 72, .inl (fun _ => 0)), .inr (0, 72, .inl (fun _ => 0)), .inr (0, 72, .inl (fun _ => 0)), .inr (0, 72, .inl (fun _ => 0)), .inr (0, 72, .inl (fun _ => 0)), .inr (0, 72, .inl (fun _ => 0)), .inr (0, 72, .inl (fun _ => 0)), .inr (0, 24, .inl (fun _ => 0)), .inr (0, 3, .inl (fun _ => 0)), .inr (0, 3, .inl (fun _ => 0)), .inl (2, [.ref 23, .int 0, .ref 24, .ref 25, .ref 26, .int 9999, .int 0]), .inr (0, 10, .inl (fun _ => 0)), .inr (0, 3, .inl (fun _ => 0)), .inr (0, 3, .inl (fun _ => 0)), .inr (0, 4, .inl (upd (upd (upd (upd (fun _ => 0) (0 : Int32).toNatClampNeg 999) (1 : Int32).toNatClampNeg 999) (2 : Int32).toNatClampNeg 999) (3 : Int32).toNatClampNeg 999)), .inl (7, [.int 0, .ref 28, .ref 29, .ref 30, .ref 31, .int 1]), .inr (0, 10, .inl (fun _ => 0)), .inr (0, 10, .inl (fun _ => 0)), .inr (0, 10, .inl (fun _ => 0)), .inr (0, 10, .inl (fun _ => 0)), .inl (7, [.int 0, .ref 33, .ref 34, .ref 35, .ref 36, .int 1]), .inr (0, 10, .inl (fun _ => 0)), .inr (0, 10, .inl (fun _ => 0)), .inr (0, 10, .inl (fun _ => 0)), .inr (0, 10, .inl (fun _ => 0)), .inl (3, [.ref 38, .ref 39, .int 0, .ref 40, .ref 41, .ref 42, .ref 43, .int 0, .ref 44, .ref 45, .int 0, .int 0]), .inr (0, 160, .inl (fun _ => 0)), .inr (0, 160, .inl (fun _ => 0)), .inr (0, 12, .inl (fun _ => 0)), .inr (0, 12, .inl (fun _ => 0)), .inr (0, 12, .inl (fun _ => 0)), .inr (0, 12, .inl (fun _ => 0)), .inr (0, 9, .inl (fun _ => 0)), .inr (0, 160, .inl (fun _ => 0)), .inl (3, [.ref 47, .ref 48, .int 0, .ref 49, .ref 50, .ref 51, .ref 52, .int 0, .ref 53, .ref 54, .int 0, .int 0]), .inr (0, 160, .inl (fun _ => 0)), .inr (0, 160, .inl (fun _ => 0)), .inr (0, 12, .inl (fun _ => 0)), .inr (0, 12, .inl (fun _ => 0)), .inr (0, 12, .inl (fun _ => 0)), .inr (0, 12, .inl (fun _ => 0)), .inr (0, 9, .inl (fun _ => 0)), .inr (0, 160, .inl (fun _ => 0)), .inl (4, [.ref 3, .ref 46]), .inl (5, [.ref 22, .ref 27, .ref 4, .ref 57, .ref 68, .ref 69, .ref 70, .int 0, .int 0, .int 0]), .inr (2, 10, .inr 58), .inr (0, 72, .inl (fun _ => 0)), .inr (0, 72, .inl (fun _ => 0)), .inr (0, 72, .inl (fun _ => 0)), .inr (0, 72, .inl (fun _ => 0)), .inr (0, 72, .inl (fun _ => 0)), .inr (0, 72, .inl (fun _ => 0)), .inr (0, 72, .inl (fun _ => 0)), .inr (0, 72, .inl (fun _ => 0)), .inr (0, 72, .inl (fun _ => 0)), .inr (0, 72, .inl (fun _ => 0)), .inr (0, 10, .inl (fun _ => 0)), .inr (0, 72, .inl (fun _ => 0)), .inr (0, 96, .inl (fun _ => 0)), .inl (0, [.ref 22, .ref 27, .ref 56, .int 0, .int 0, .ref 72, .long 0, .long 0]), .inr (0, 3, .inl (fun _ => 0)), .inl (8, [.ref 22, .ref 27, .ref 37, .ref 56, .ref 74, .ref 85, .int 0, .int 0, .ref 86, .ref 87, .ref 88, .ref 89, .ref 90, .ref 91, .ref 92]), .inr (2, 10, .inr 75), .inr (0, 72, .inl (fun _ => 0)), .inr (0, 72, .inl (fun _ => 0)), .inr (0, 72, .inl (fun _ => 0)), .inr (0, 72, .inl (fun _ => 0)), .inr (0, 72, .inl (fun _ => 0)), .inr (0, 72, .inl (fun _ => 0)), .inr (0, 72, .inl (fun _ => 0)), .inr (0, 72, .inl (fun _ => 0)), .inr (0, 72, .inl (fun _ => 0)), .inr (0, 72, .inl (fun _ => 0)), .inr (0, 10, .inl (fun _ => 0)), .inr (0, 10, .inl (fun _ => 0)), .inr (0, 10, .inl (fun _ => 0)), .inr (0, 3, .inl (fun _ => 0)), .inr (0, 4, .inl (fun _ => 0)), .inr (0, 24, .inl (fun _ => 0)), .inr (0, 1024, .inl (fun _ => 0)), .inr (0, 1024, .inl (fun _ => 0)), .inl (6, [.ref 22, .ref 27, .ref 56, .int 0, .ref 94, .ref 95, .ref 96, .int 0, .int 0]), .inr (0, 10, .inl (fun _ => 0)), .inr (0, 10, .inl (fun _ => 0)), .inr (0, 10, .inl (fun _ => 0)), .inl (12, [.ref 98, .int 0, .int 0, .int 0, .int 0, .int 0, .int 0, .ref 99, .ref 100, .int 0, .int 0, .int 0, .int 0, .int 0, .ref 101, .ref 102, .ref 103, .ref 104, .ref 105, .ref 106, .ref 107, .ref 108, .int 0, .int 0, .int 0, .int 0, .int 0, .ref 109, .ref 110, .ref 111, .ref 112, .ref 113, .ref 114, .ref 115, .ref 116, .ref 117, .ref 118, .ref 119, .ref 120, .ref 121, .ref 122, .ref 123, .ref 124, .ref 125, .ref 126, .ref 127, .int 0, .int 0, .int 0, .int 0, .int 0, .int 0, .ref 128, .null, .null, .null, .null, .int 0, .null, .null, .null, .int 0, .int 0, .int 0, .null, .null, .null, .null]), .inr (1, 200, .inl (fun _ => 0)), .inr (0, 864, .inl (fun _ => 0)), .inr (0, 72, .inl (fun _ => 0)), .inr (0, 10, .inl (fun _ => 0)), .inr (0, 3, .inl (fun _ => 0)), .inr (0, 3, .inl (fun _ => 0)), .inr (0, 4, .inl (fun _ => 0)), .inr (0, 10, .inl (fun _ => 0)), .inr (0, 10, .inl (fun _ => 0)), .inr (0, 10, .inl (fun _ => 0)), .inr (0, 10, .inl (fun _ => 0)), .inr (0, 180, .inl (fun _ => 0)), .inr (0, 180, .inl (fun _ => 0)), .inr (0, 12, .inl (fun _ => 0)), .inr (0, 12, .inl (fun _ => 0)), .inr (0, 12, .inl (fun _ => 0)), .inr (0, 12, .inl (fun _ => 0)), .inr (0, 180, .inl (fun _ => 0)), .inr (0, 12, .inl (fun _ => 0)), .inr (0, 12, .inl (fun _ => 0)), .inr (0, 12, .inl (fun _ => 0)), .inr (0, 12, .inl (fun _ => 0)), .inr (0, 180, .inl (fun _ => 0)), .inr (0, 9, .inl (fun _ => 0)), .inr (0, 10, .inl (fun _ => 0)), .inr (0, 10, .inl (fun _ => 0)), .inr (0, 3, .inl (fun _ => 0)), .inr (0, 4, .inl (fun _ => 0)), .inr (0, 720, .inl (fun _ => 0)), .inr (0, 10, .inl (fun _ => 0)), .inr (0, 10, .inl (fun _ => 0))]
def nx_216 : List nn_C := nx_215 ++ [.inr (0, 6, .inl (fun _ => 0))]
def nx_217 : List nn_C := nx_216.set 97 (.inl (12, [.ref 98, .int 0, .int 0, .int 0, .int 0, .int 0, .int 0, .ref 99, .ref 100, .int 0, .int 0, .int 0, .int 0, .int 0, .ref 101, .ref 102, .ref 103, .ref 104, .ref 105, .ref 106, .ref 107, .ref 108, .int 0, .int 0, .int 0, .int 0, .int 0, .ref 109, .ref 110, .ref 111, .ref 112, .ref 113, .ref 114, .ref 115, .ref 116, .ref 117, .ref 118, .ref 119, .ref 120, .ref 121, .ref 122, .ref 123, .ref 124, .ref 125, .ref 126, .ref 127, .int 0, .int 0, .int 0, .int 0, .int 0, .int 0, .ref 128, .ref 129, .null, .null, .null, .int 0, .null, .null, .null, .int 0, .int 0, .int 0, .null, .null, .null, .null]))
def nx_218 : List nn_C := nx_217 ++ [.inr (0, 10, .inl (fun _ => 0))]
def nx_219 : List nn_C := nx_218.set 97 (.inl (12, [.ref 98, .int 0, .int 0, .int 0, .int 0, .int 0, .int 0, .ref 99, .ref 100, .int 0, .int 0, .int 0, .int 0, .int 0, .ref 101, .ref 102, .ref 103, .ref 104, .ref 105, .ref 106, .ref 107, .ref 108, .int 0, .int 0, .int 0, .int 0, .int 0, .ref 109, .ref 110, .ref 111, .ref 112, .ref 113, .ref 114, .ref 115, .ref 116, .ref 117, .ref 118, .ref 119, .ref 120, .ref 121, .ref 122, .ref 123, .ref 124, .ref 125, .ref 126, .ref 127, .int 0, .int 0, .int 0, .int 0, .int 0, .int 0, .ref 128, .ref 129, .ref 130, .null, .null, .int 0, .null, .null, .null, .int 0, .int 0, .int 0, .null, .null, .null, .null]))
def nx_220 : List nn_C := nx_219 ++ [.inr (0, 10, .inl (fun _ => 0))]
def nx_221 : List nn_C := nx_220.set 97 (.inl (12, [.ref 98, .int 0, .int 0, .int 0, .int 0, .int 0, .int 0, .ref 99, .ref 100, .int 0, .int 0, .int 0, .int 0, .int 0, .ref 101, .ref 102, .ref 103, .ref 104, .ref 105, .ref 106, .ref 107, .ref 108, .int 0, .int 0, .int 0, .int 0, .int 0, .ref 109, .ref 110, .ref 111, .ref 112, .ref 113, .ref 114, .ref 115, .ref 116, .ref 117, .ref 118, .ref 119, .ref 120, .ref 121, .ref 122, .ref 123, .ref 124, .ref 125, .ref 126, .ref 127, .int 0, .int 0, .int 0, .int 0, .int 0, .int 0, .ref 128, .ref 129, .ref 130, .ref 131, .null, .int 0, .null, .null, .null, .int 0, .int 0, .int 0, .null, .null, .null, .null]))
def nx_222 : List nn_C := nx_221 ++ [.inr (0, 6, .inl (fun _ => 0))]
def nx_223 : List nn_C := [.inl (11, [.ref 1, .ref 4, .ref 22, .ref 27, .ref 32, .int 0, .ref 37, .ref 46, .ref 55, .ref 56, .ref 71, .ref 73, .ref 93]), .inl (9, [.ref 2, .int 0]), .inr (0, 200, .inl (fun _ => 0)), .inl (10, [.ref 1, .int 0, .int 0, .int 0, .int 0]), .inl (1, [.ref 3, .ref 5, .ref 18, .int 0, .ref 19, .ref 20, .ref 21, .int 0, .int 0]), .inr (2, 12, .inr 6), .inr (0, 72, .inl (fun _ => 0)), .inr (0, 72, .inl (fun _ => 0)), .inr (0, 72, .inl (fun _ => 0)), .inr (0, 72, .inl (fun _ => 0)), .inr (0, 72, .inl (fun _ => 0)), .inr (0, 72, .inl (fun _ => 0)), .inr (0, 72, .inl (fun _ => 0)), .inr (0, 72, .inl (fun _ => 0)), .inr (0, 72, .inl (fun _ => 0)), .inr (0, 72, .inl (fun _ => 0)), .inr (0, 72, .inl (fun _ => 0)), .inr (0, 72, .inl (fun _ => 0)), .inr (0, 72, .inl (fun _ => 0)), .inr (0, 24, .inl (fun _ => 0)), .inr (0, 3, .inl (fun _ => 0)), .inr (0, 3, .inl (fun _ => 0)), .inl (2, [.ref 23, .int 0, .ref 24, .ref 25, .ref 26, .int 9999, .int 0]), .inr (0, 10, .inl (fun _ => 0)), .inr (0, 3, .inl (fun _ => 0)), .inr (0, 3, .inl (fun _ => 0)), .inr (0, 4, .inl (upd (upd (upd (upd (fun _ => 0) (0 : Int32).toNatClampNeg 999) (1 : Int32).toNatClampNeg 999) (2 : Int32).toNatClampNeg 999) (3 : Int32).toNatClampNeg 999)), .inl (7, [.int 0, .ref 28, .ref 29, .ref 30, .ref 31, .int 1]), .inr (0, 10, .inl (fun _ => 0)), .inr (0, 10, .inl (fun _ => 0)), .inr (0, 10, .inl (fun _ => 0)), .inr (0, 10, .inl (fun _ => 0)), .inl (7, [.int 0, .ref 33, .ref 34, .ref 35, .ref 36, .int 1]), .inr (0, 10, .inl (fun _ => 0)), .inr (0, 10, .inl (fun _ => 0)), .inr (0, 10, .inl (fun _ => 0)), .inr (0, 10, .inl (fun _ => 0)), .inl (3, [.ref 38, .ref 39, .int 0, .ref 40, .ref 41, .ref 42, .ref 43, .int 0, .ref 44, .ref 45, .int 0, .int 0]), .inr (0, 160, .inl (fun _ => 0)), .inr (0, 160, .inl (fun _ => 0)), .inr (0, 12, .inl (fun _ => 0)), .inr (0, 12, .inl (fun _ => 0)), .inr (0, 12, .inl (fun _ => 0)), .inr (0, 12, .inl (fun _ => 0)), .inr (0, 9, .inl (fun _ => 0)), .inr (0, 160, .inl (fun _ => 0)), .inl (3, [.ref 47, .ref 48, .int 0, .ref 49, .ref 50, .ref 51, .ref 52, .int 0, .ref 53, .ref 54, .int 0, .int 0]), .inr (0, 160, .inl (fun _ => 0)), .inr (0, 160, .inl (fun _ => 0)), .inr (0, 12, .inl (fun _ => 0)), .inr (0, 12, .inl (fun _ => 0)), .inr (0, 12, .inl (fun _ => 0)), .inr (0, 12, .inl (fun _ => 0)), .inr (0, 9, .inl (fun _ => 0)), .inr (0, 160, .inl (fun _ => 0)), .inl (4, [.ref 3, .ref 46]), .inl (5, [.ref 22, .ref 27, .ref 4, .ref 57, .ref 68, .ref 69, .ref 70, .int 0, .int 0, .int 0]), .inr (2, 10, .inr 58), .inr (0, 72, .inl (fun _ => 0)), .inr (0, 72, .inl (fun _ => 0)), .inr (0, 72, .inl (fun _ => 0)), .inr (0, 72, .inl (fun _ => 0)), .inr (0, 72, .inl (fun _ => 0)), .inr (0, 72, .inl (fun _ => 0)), .inr (0, 72, .inl (fun _ => 0)), .inr (0, 72, .inl (fun _ => 0)), .inr (0, 72, .inl (fun _ => 0)), .inr (0, 72, .inl (fun _ => 0)), .inr (0, 10, .inl (fun _ => 0)), .inr (0, 72, .inl (fun _ => 0)), .inr (0, 96, .inl (fun _ => 0)), .inl (0, [.ref 22, .ref 27, .ref 56, .int 0, .int 0, .ref 72, .long 0, .long 0]), .inr (0, 3, .inl (fun _ => 0)), .inl (8, [.ref 22, .ref 27, .ref 37, .ref 56, .ref 74, .ref 85, .int 0, .int 0, .ref 86, .ref 87, .ref 88, .ref 89, .ref 90, .ref 91, .ref 92]), .inr (2, 10, .inr 75), .inr (0, 72, .inl (fun _ => 0)), .inr (0, 72, .inl (fun _ => 0)), .inr (0, 72, .inl (fun _ => 0)), .inr (0, 72, .inl (fun _ => 0)), .inr (0, 72, .inl (fun _ => 0)), .inr (0, 72, .inl (fun _ => 0)), .inr (0, 72, .inl (fun _ => 0)), .inr (0, 72, .inl (fun _ => 0)), .inr (0, 72, .inl (fun _ => 0)), .inr (0, 72, .inl (fun _ => 0)), .inr (0, 10, .inl (fun _ => 0)), .inr (0, 10, .inl (fun _ => 0)), .inr (0, 10, .inl (fun _ => 0)), .inr (0, 3, .inl (fun _ => 0)), .inr (0, 4, .inl (fun _ => 0)), .inr (0, 24, .inl (fun _ => 0)), .inr (0, 1024, .inl (fun _ => 0)), .inr (0, 1024, .inl (fun _ => 0)), .inl (6, [.ref 22, .ref 27, .ref 56, .int 0, .ref 94, .ref 95, .ref 96, .int 0, .int 0]), .inr (0, 10, .inl (fun _ => 0)), .inr (0, 10, .inl (fun _ => 0)), .inr (0, 10, .inl (fun _ => 0)), .inl (12, [.ref 98, .int 0, .int 0, .int 0, .int 0, .int 0, .int 0, .ref 99, .ref 100, .int 0, .int 0, .int 0, .int 0, .int 0, .ref 101, .ref 102, .ref 103, .ref 104, .ref 105, .ref 106, .ref 107, .ref 108, .int 0, .int 0, .int 0, .int 0, .int 0, .ref 109, .ref 110, .ref 111, .ref 112, .ref 113, .ref 114, .ref 115, .ref 116, .ref 117, .ref 118, .ref 119, .ref 120, .ref 121, .ref 122, .ref 123, .ref 124, .ref 125, .ref 126, .ref 127, .int 0, .int 0, .int 0, .int 0, .int 0, .int 0, .ref 128, .ref 129, .ref 130, .ref 131, .ref 132, .int 0, .null, .null, .null, .int 0, .int 0, .int 0, .null, .null, .null, .null]), .inr (1, 200, .inl (fun _ => 0)), .inr (0, 864, .inl (fun _ => 0)), .inr (0, 72, .inl (fun _ => 0)), .inr (0, 10, .inl (fun _ => 0)), .inr (0, 3, .inl (fun _ => 0)), .inr (0, 3, .inl (fun _ => 0)), .inr (0, 4, .inl (fun _ => 0)), .inr (0, 10, .inl (fun _ => 0)), .inr (0, 10, .inl (fun _ => 0)), .inr (0, 10, .inl (fun _ => 0)), .inr (0, 10, .inl (fun _ => 0)), .inr (0, 180, .inl (fun _ => 0)), .inr (0, 180, .inl (fun _ => 0)), .inr (0, 12, .inl (fun _ => 0)), .inr (0, 12, .inl (fun _ => 0)), .inr (0, 12, .inl (fun _ => 0)), .inr (0, 12, .inl (fun _ => 0)), .inr (0, 180, .inl (fun _ => 0)), .inr (0, 12, .inl (fun _ => 0)), .inr (0, 12, .inl (fun _ => 0)), .inr (0, 12, .inl (fun _ => 0)), .inr (0, 12, .inl (fun _ => 0)), .inr (0, 180, .inl (fun _ => 0)), .inr (0, 9, .inl (fun _ => 0)), .inr (0, 10, .inl (fun _ => 0)), .inr (0, 10, .inl (fun _ => 0)), .inr (0, 3, .inl (fun _ => 0)), .inr (0, 4, .inl (fun _ => 0)), .inr (0, 720, .inl (fun _ => 0)), .inr (0, 10, .inl (fun _ => 0)), .inr (0, 10, .inl (fun _ => 0)), .inr (0, 6, .inl (fun _ => 0)), .inr (0, 10, .inl (fun _ => 0)), .inr (0, 10, .inl (fun _ => 0)), .inr (0, 6, .inl (fun _ => 0))]
def nx_224 : List nn_C := nx_223 ++ [.inr (0, 24, .inl (fun _ => 0))]
def nx_225 : List nn_C := nx_224.set 97 (.inl (12, [.ref 98, .int 0, .int 0, .int 0, .int 0, .int 0, .int 0, .ref 99, .ref 100, .int 0, .int 0, .int 0, .int 0, .int 0, .ref 101, .ref 102, .ref 103, .ref 104, .ref 105, .ref 106, .ref 107, .ref 108, .int 0, .int 0, .int 0, .int 0, .int 0, .ref 109, .ref 110, .ref 111, .ref 112, .ref 113, .ref 114, .ref 115, .ref 116, .ref 117, .ref 118, .ref 119, .ref 120, .ref 121, .ref 122, .ref 123, .ref 124, .ref 125, .ref 126, .ref 127, .int 0, .int 0, .int 0, .int 0, .int 0, .int 0, .ref 128, .ref 129, .ref 130, .ref 131, .ref 132, .int 0, .ref 133, .null, .null, .int 0, .int 0, .int 0, .null, .null, .null, .null]))
def nx_226 : List nn_C := nx_225 ++ [.inr (0, 3, .inl (fun _ => 0))]
def nx_227 : List nn_C := nx_226.set 97 (.inl (12, [.ref 98, .int 0, .int 0, .int 0, .int 0, .int 0, .int 0, .ref 99, .ref 100, .int 0, .int 0, .int 0, .int 0, .int 0, .ref 101, .ref 102, .ref 103, .ref 104, .ref 105, .ref 106, .ref 107, .ref 108, .int 0, .int 0, .int 0, .int 0, .int 0, .ref 109, .ref 110, .ref 111, .ref 112, .ref 113, .ref 114, .ref 115, .ref 116, .ref 117, .ref 118, .ref 119, .ref 120, .ref 121, .ref 122, .ref 123, .ref 124, .ref 125, .ref 126, .ref 127, .int 0, .int 0, .int 0, .int 0, .int 0, .int 0, .ref 128, .ref 129, .ref 130, .ref 131, .ref 132, .int 0, .ref 133, .ref 134, .null, .int 0, .int 0, .int 0, .null, .null, .null, .null]))
def nx_228 : List nn_C := nx_227 ++ [.inr (0, 3, .inl (fun _ => 0))]
def nx_229 : List nn_C := nx_228.set 97 (.inl (12, [.ref 98, .int 0, .int 0, .int 0, .int 0, .int 0, .int 0, .ref 99, .ref 100, .int 0, .int 0, .int 0, .int 0, .int 0, .ref 101, .ref 102, .ref 103, .ref 104, .ref 105, .ref 106, .ref 107, .ref 108, .int 0, .int 0, .int 0, .int 0, .int 0, .ref 109, .ref 110, .ref 111, .ref 112, .ref 113, .ref 114, .ref 115, .ref 116, .ref 117, .ref 118, .ref 119, .ref 120, .ref 121, .ref 122, .ref 123, .ref 124, .ref 125, .ref 126, .ref 127, .int 0, .int 0, .int 0, .int 0, .int 0, .int 0, .ref 128, .ref 129, .ref 130, .ref 131, .ref 132, .int 0, .ref 133, .ref 134, .ref 135, .int 0, .int 0, .int 0, .null, .null, .null, .null]))
def nx_230 : List nn_C := nx_229 ++ [.inr (0, 10, .inl (fun _ => 0))]
def nx_231 : List nn_C := [.inl (11, [.ref 1, .ref 4, .ref 22, .ref 27, .ref 32, .int 0, .ref 37, .ref 46, .ref 55, .ref 56, .ref 71, .ref 73, .ref 93]), .inl (9, [.ref 2, .int 0]), .inr (0, 200, .inl (fun _ => 0)), .inl (10, [.ref 1, .int 0, .int 0, .int 0, .int 0]), .inl (1, [.ref 3, .ref 5, .ref 18, .int 0, .ref 19, .ref 20, .ref 21, .int 0, .int 0]), .inr (2, 12, .inr 6), .inr (0, 72, .inl (fun _ => 0)), .inr (0, 72, .inl (fun _ => 0)), .inr (0, 72, .inl (fun _ => 0)), .inr (0, 72, .inl (fun _ => 0)), .inr (0, 72, .inl (fun _ => 0)), .inr (0, 72, .inl (fun _ => 0)), .inr (0, 72, .inl (fun _ => 0)), .inr (0, 72, .inl (fun _ => 0)), .inr (0, 72, .inl (fun _ => 0)), .inr (0, 72, .inl (fun _ => 0)), .inr (0, 72, .inl (fun _ => 0)), .inr (0, 72, .inl (fun _ => 0)), .inr (0, 72, .inl (fun _ => 0)), .inr (0, 24, .inl (fun _ => 0)), .inr (0, 3, .inl (fun _ => 0)), .inr (0, 3, .inl (fun _ => 0)), .inl (2, [.ref 23, .int 0, .ref 24, .ref 25, .ref 26, .int 9999, .int 0]), .inr (0, 10, .inl (fun _ => 0)), .inr (0, 3, .inl (fun _ => 0)), .inr (0, 3, .inl (fun _ => 0)), .inr (0, 4, .inl (upd (upd (upd (upd (fun _ => 0) (0 : Int32).toNatClampNeg 999) (1 : Int32).toNatClampNeg 999) (2 : Int32).toNatClampNeg 999) (3 : Int32).toNatClampNeg 999)), .inl (7, [.int 0, .ref 28, .ref 29, .ref 30, .ref 31, .int 1]), .inr (0, 10, .inl (fun _ => 0)), .inr (0, 10, .inl (fun _ => 0)), .inr (0, 10, .inl (fun _ => 0)), .inr (0, 10, .inl (fun _ => 0)), .inl (7, [.int 0, .ref 33, .ref 34, .ref 35, .ref 36, .int 1]), .inr (0, 10, .inl (fun _ => 0)), .inr (0, 10, .inl (fun _ => 0)), .inr (0, 10, .inl (fun _ => 0)), .inr (0, 10, .inl (fun _ => 0)), .inl (3, [.ref 38, .ref 39, .int 0, .ref 40, .ref 41, .ref 42, .ref 43, .int 0, .ref 44, .ref 45, .int 0, .int 0]), .inr (0, 160, .inl (fun _ => 0)), .inr (0, 160, .inl (fun _ => 0)), .inr (0, 12, .inl (fun _ => 0)), .inr (0, 12, .inl (fun _ => 0)), .inr (0, 12, .inl (fun _ => 0)), .inr (0, 12, .inl (fun _ => 0)), .inr (0, 9, .inl (fun _ => 0)), .inr (0, 160, .inl (fun _ => 0)), .inl (3, [.ref 47, .ref 48, .int 0, .ref 49, .ref 50, .ref 51, .ref 52, .int 0, .ref 53, .ref 54, .int 0, .int 0]), .inr (0, 160, .inl (fun _ => 0)), .inr (0, 160, .inl (fun _ => 0)), .inr (0, 12, .inl (fun _ => 0)), .inr (0, 12, .inl (fun _ => 0)), .inr (0, 12, .inl (fun _ => 0)), .inr (0, 12, .inl (fun _ => 0)), .inr (0, 9, .inl (fun _ => 0)), .inr (0, 160, .inl (fun _ => 0)), .inl (4, [.ref 3, .ref 46]), .inl (5, [.ref 22, .ref 27, .ref 4, .ref 57, .ref 68, .ref 69, .ref 70, .int 0, .int 0, .int 0]), .inr (2, 10, .inr 58), .inr (0, 72, .inl (fun _ => 0)), .inr (0, 72, .inl (fun _ => 0)), .inr (0, 72, .inl (fun _ => 0)), .inr (0, 72, .inl (fun _ => 0)), .inr (0, 72, .inl (fun _ => 0)), .inr (0, 72, .inl (fun _ => 0)), .inr (0, 72, .inl (fun _ => 0)), .inr (0, 72, .inl (fun _ => 0)), .inr (0, 72, .inl (fun _ => 0)), .inr (0, 72, .inl (fun _ => 0)), .inr (0, 10, .inl (fun _ => 0)), .inr (0, 72, .inl (fun _ => 0)), .inr (0, 96, .inl (fun _ => 0)), .inl (0, [.ref 22, .ref 27, .ref 56, .int 0, .int 0, .ref 72, .long 0, .long 0]), .inr (0, 3, .inl (fun _ => 0)), .inl (8, [.ref 22, .ref 27, .ref 37, .ref 56, .ref 74, .ref 85, .int 0, .int 0, .ref 86, .ref 87, .ref 88, .ref 89, .ref 90, .ref 91, .ref 92]), .inr (2, 10, .inr 75), .inr (0, 72, .inl (fun _ => 0)), .inr (0, 72, .inl (fun _ => 0)), .inr (0, 72, .inl (fun _ => 0)), .inr (0, 72, .inl (fun _ => 0)), .inr (0, 72, .inl (fun _ => 0)), .inr (0, 72, .inl (fun _ => 0)), .inr (0, 72, .inl (fun _ => 0)), .inr (0, 72, .inl (fun _ => 0)), .inr (0, 72, .inl (fun _ => 0)), .inr (0, 72, .inl (fun _ => 0)), .inr (0, 10, .inl (fun _ => 0)), .inr (0, 10, .inl (fun _ => 0)), .inr (0, 10, .inl (fun _ => 0)), .inr (0, 3, .inl (fun _ => 0)), .inr (0, 4, .inl (fun _ => 0)), .inr (0, 24, .inl (fun _ => 0)), .inr (0, 1024, .inl (fun _ => 0)), .inr (0, 1024, .inl (fun _ => 0)), .inl (6, [.ref 22, .ref 27, .ref 56, .int 0, .ref 94, .ref 95, .ref 96, .int 0, .int 0]), .inr (0, 10, .inl (fun _ => 0)), .inr (0, 10, .inl (fun _ => 0)), .inr (0, 10, .inl (fun _ => 0)), .inl (12, [.ref 98, .int 0, .int 0, .int 0, .int 0, .int 0, .int 0, .ref 99, .ref 100, .int 0, .int 0, .int 0, .int 0, .int 0, .ref 101, .ref 102, .ref 103, .ref 104, .ref 105, .ref 106, .ref 107, .ref 108, .int 0, .int 0, .int 0, .int 0, .int 0, .ref 109, .ref 110, .ref 111, .ref 112, .ref 113, .ref 114, .ref 115, .ref 116, .ref 117, .ref 118, .ref 119, .ref 120, .ref 121, .ref 122, .ref 123, .ref 124, .ref 125, .ref 126, .ref 127, .int 0, .int 0, .int 0, .int 0, .int 0, .int 0, .ref 128, .ref 129, .ref 130, .ref 131, .ref 132, .int 0, .ref 133, .ref 134, .ref 135, .int 0, .int 0, .int 0, .ref 136, .null, .null, .null]), .inr (1, 200, .inl (fun _ => 0)), .inr (0, 864, .inl (fun _ => 0)), .inr (0, 72, .inl (fun _ => 0)), .inr (0, 10, .inl (fun _ => 0)), .inr (0, 3, .inl (fun _ => 0)), .inr (0, 3, .inl (fun _ => 0)), .inr (0, 4, .inl (fun _ => 0)), .inr (0, 10, .inl (fun _ => 0)), .inr (0, 10, .inl (fun _ => 0)), .inr (0, 10, .inl (fun _ => 0)), .inr (0, 10, .inl (fun _ => 0)), .inr (0, 180, .inl (fun _ => 0)), .inr (0, 180, .inl (fun _ => 0)), .inr (0, 12, .inl (fun _ => 0)), .inr (0, 12, .inl (fun _ => 0)), .inr (0, 12, .inl (fun _ => 0)), .inr (0, 12, .inl (fun _ => 0)), .inr (0, 180, .inl (fun _ => 0)), .inr (0, 12, .inl (fun _ => 0)), .inr (0, 12, .inl (fun _ => 0)), .inr (0, 12, .inl (fun _ => 0)), .inr (0, 12, .inl (fun _ => 0)), .inr (0, 180, .inl (fun _ => 0)), .inr (0, 9, .inl (fun _ => 0)), .inr (0, 10, .inl (fun _ => 0)), .inr (0, 10, .inl (fun _ => 0)), .inr (0, 3, .inl (fun _ => 0)), .inr (0, 4, .inl (fun _ => 0)), .inr (0, 720, .inl (fun _ => 0)), .inr (0, 10, .inl (fun _ => 0)), .inr (0, 10, .inl (fun _ => 0)), .inr (0, 6, .inl (fun _ => 0)), .inr (0, 10, .inl (fun _ => 0)), .inr (0, 10, .inl (fun _ => 0)), .inr (0, 6, .inl (fun _ => 0)), .inr (0, 24, .inl (fun _ => 0)), .inr (0, 3, .inl (fun _ => 0)), .inr (0, 3, .inl (fun _ => 0)), .inr (0, 10, .inl (fun _ => 0))]
def nx_232 : List nn_C := nx_231 ++ [.inr (0, 10, .inl (fun _ => 0))]
def nx_233 : List nn_C := nx_232.set 97 (.inl (12, [.ref 98, .int 0, .int 0, .int 0, .int 0, .int 0, .int 0, .ref 99, .ref 100, .int 0, .int 0, .int 0, .int 0, .int 0, .ref 101, .ref 102, .ref 103, .ref 104, .ref 105, .ref 106, .ref 107, .ref 108, .int 0, .int 0, .int 0, .int 0, .int 0, .ref 109, .ref 110, .ref 111, .ref 112, .ref 113, .ref 114, .ref 115, .ref 116, .ref 117, .ref 118, .ref 119, .ref 120, .ref 121, .ref 122, .ref 123, .ref 124, .ref 125, .ref 126, .ref 127, .int 0, .int 0, .int 0, .int 0, .int 0, .int 0, .ref 128, .ref 129, .ref 130, .ref 131, .ref 132, .int 0, .ref 133, .ref 134, .ref 135, .int 0, .int 0, .int 0, .ref 136, .ref 137, .null, .null]))
def nx_234 : List nn_C := nx_233 ++ [.inr (0, 10, .inl (fun _ => 0))]
def nx_235 : List nn_C := nx_234.set 97 (.inl (12, [.ref 98, .int 0, .int 0, .int 0, .int 0, .int 0, .int 0, .ref 99, .ref 100, .int 0, .int 0, .int 0, .int 0, .int 0, .ref 101, .ref 102, .ref 103, .ref 104, .ref 105, .ref 106, .ref 107, .ref 108, .int 0, .int 0, .int 0, .int 0, .int 0, .ref 109, .ref 110, .ref 111, .ref 112, .ref 113, .ref 114, .ref 115, .ref 116, .ref 117, .ref 118, .ref 119, .ref 120, .ref 121, .ref 122, .ref 123, .ref 124, .ref 125, .ref 126, .ref 127, .int 0, .int 0, .int 0, .int 0, .int 0, .int 0, .ref 128, .ref 129, .ref 130, .ref 131, .ref 132, .int 0, .ref 133, .ref 134, .ref 135, .int 0, .int 0, .int 0, .ref 136, .ref 137, .ref 138, .null]))
def nx_236 : List nn_C := nx_235 ++ [.inr (0, 10, .inl (fun _ => 0))]
def nx_237 : List nn_C := nx_236.set 97 (.inl (12, [.ref 98, .int 0, .int 0, .int 0, .int 0, .int 0, .int 0, .ref 99, .ref 100, .int 0, .int 0, .int 0, .int 0, .int 0, .ref 101, .ref 102, .ref 103, .ref 104, .ref 105, .ref 106, .ref 107, .ref 108, .int 0, .int 0, .int 0, .int 0, .int 0, .ref 109, .ref 110, .ref 111, .ref 112, .ref 113, .ref 114, .ref 115, .ref 116, .ref 117, .ref 118, .ref 119, .ref 120, .ref 121, .ref 122, .ref 123, .ref 124, .ref 125, .ref 126, .ref 127, .int 0, .int 0, .int 0, .int 0, .int 0, .int 0, .ref 128, .ref 129, .ref 130, .ref 131, .ref 132, .int 0, .ref 133, .ref 134, .ref 135, .int 0, .int 0, .int 0, .ref 136, .ref 137, .ref 138, .ref 139]))
def nx_238 : List nn_C := nx_237.set 97 (.inl (12, [.ref 98, .int 0, .int 0, .int 0, .int 0, .int 0, .int 0, .ref 99, .ref 100, .int 0, .int 0, .int 0, .int 0, .int 1, .ref 101, .ref 102, .ref 103, .ref 104, .ref 105, .ref 106, .ref 107, .ref 108, .int 0, .int 0, .int 0, .int 0, .int 0, .ref 109, .ref 110, .ref 111, .ref 112, .ref 113, .ref 114, .ref 115, .ref 116, .ref 117, .ref 118, .ref 119, .ref 120, .ref 121, .ref 122, .ref 123, .ref 124, .ref 125, .ref 126, .ref 127, .int 0, .int 0, .int 0, .int 0, .int 0, .int 0, .ref 128, .ref 129, .ref 130, .ref 131, .ref 132, .int 0, .ref 133, .ref 134, .ref 135, .int 0, .int 0, .int 0, .ref 136, .ref 137, .ref 138, .ref 139]))
def nx_239 : List nn_C := [.inl (11, [.ref 1, .ref 4, .ref 22, .ref 27, .ref 32, .int 0, .ref 37, .ref 46, .ref 55, .ref 56, .ref 71, .ref 73, .ref 93]), .inl (9, [.ref 2, .int 0]), .inr (0, 200, .inl (fun _ => 0)), .inl (10, [.ref 1, .int 0, .int 0, .int 0, .int 0]), .inl (1, [.ref 3, .ref 5, .ref 18, .int 0, .ref 19, .ref 20, .ref 21, .int 0, .int 0]), .inr (2, 12, .inr 6), .inr (0, 72, .inl (fun _ => 0)), .inr (0, 72, .inl (fun _ => 0)), .inr (0, 72, .inl (fun _ => 0)), .inr (0, 72, .inl (fun _ => 0)), .inr (0, 72, .inl (fun _ => 0)), .inr (0, 72, .inl (fun _ => 0)), .inr (0, 72, .inl (fun _ => 0)), .inr (0, 72, .inl (fun _ => 0)), .inr (0, 72, .inl (fun _ => 0)), .inr (0, 72, .inl (fun _ => 0)), .inr (0, 72, .inl (fun _ => 0)), .inr (0, 72, .inl (fun _ => 0)), .inr (0, 72, .inl (fun _ => 0)), .inr (0, 24, .inl (fun _ => 0)), .inr (0, 3, .inl (fun _ => 0)), .inr (0, 3, .inl (fun _ => 0)), .inl (2, [.ref 23, .int 0, .ref 24, .ref 25, .ref 26, .int 9999, .int 0]), .inr (0, 10, .inl (fun _ => 0)), .inr (0, 3, .inl (fun _ => 0)), .inr (0, 3, .inl (fun _ => 0)), .inr (0, 4, .inl (upd (upd (upd (upd (fun _ => 0) (0 : Int32).toNatClampNeg 999) (1 : Int32).toNatClampNeg 999) (2 : Int32).toNatClampNeg 999) (3 : Int32).toNatClampNeg 999)), .inl (7, [.int 0, .ref 28, .ref 29, .ref 30, .ref 31, .int 1]), .inr (0, 10, .inl (fun _ => 0)), .inr (0, 10, .inl (fun _ => 0)), .inr (0, 10, .inl (fun _ => 0)), .inr (0, 10, .inl (fun _ => 0)), .inl (7, [.int 0, .ref 33, .ref 34, .ref 35, .ref 36, .int 1]), .inr (0, 10, .inl (fun _ => 0)), .inr (0, 10, .inl (fun _ => 0)), .inr (0, 10, .inl (fun _ => 0)), .inr (0, 10, .inl (fun _ => 0)), .inl (3, [.ref 38, .ref 39, .int 0, .ref 40, .ref 41, .ref 42, .ref 43, .int 0, .ref 44, .ref 45, .int 0, .int 0]), .inr (0, 160, .inl (fun _ => 0)), .inr (0, 160, .inl (fun _ => 0)), .inr (0, 12, .inl (fun _ => 0)), .inr (0, 12, .inl (fun _ => 0)), .inr (0, 12, .inl (fun _ => 0)), .inr (0, 12, .inl (fun _ => 0)), .inr (0, 9, .inl (fun _ => 0)), .inr (0, 160, .inl (fun _ => 0)), .inl (3, [.ref 47, .ref 48, .int 0, .ref 49, .ref 50, .ref 51, .ref 52, .int 0, .ref 53, .ref 54, .int 0, .int 0]), .inr (0, 160, .inl (fun _ => 0)), .inr (0, 160, .inl (fun _ => 0)), .inr (0, 12, .inl (fun _ => 0)), .inr (0, 12, .inl (fun _ => 0)), .inr (0, 12, .inl (fun _ => 0)), .inr (0, 12, .inl (fun _ => 0)), .inr (0, 9, .inl (fun _ => 0)), .inr (0, 160, .inl (fun _ => 0)), .inl (4, [.ref 3, .ref 46]), .inl (5, [.ref 22, .ref 27, .ref 4, .ref 57, .ref 68, .ref 69, .ref 70, .int 0, .int 0, .int 0]), .inr (2, 10, .inr 58), .inr (0, 72, .inl (fun _ => 0)), .inr (0, 72, .inl (fun _ => 0)), .inr (0, 72, .inl (fun _ => 0)), .inr (0, 72, .inl (fun _ => 0)), .inr (0, 72, .inl (fun _ => 0)), .inr (0, 72, .inl (fun _ => 0)), .inr (0, 72, .inl (fun _ => 0)), .inr (0, 72, .inl (fun _ => 0)), .inr (0, 72, .inl (fun _ => 0)), .inr (0, 72, .inl (fun _ => 0)), .inr (0, 10, .inl (fun _ => 0)), .inr (0, 72, .inl (fun _ => 0)), .inr (0, 96, .inl (fun _ => 0)), .inl (0, [.ref 22, .ref 27, .ref 56, .int 0, .int 0, .ref 72, .long 0, .long 0]), .inr (0, 3, .inl (fun _ => 0)), .inl (8, [.ref 22, .ref 27, .ref 37, .ref 56, .ref 74, .ref 85, .int 0, .int 0, .ref 86, .ref 87, .ref 88, .ref 89, .ref 90, .ref 91, .ref 92]), .inr (2, 10, .inr 75), .inr (0, 72, .inl (fun _ => 0)), .inr (0, 72, .inl (fun _ => 0)), .inr (0, 72, .inl (fun _ => 0)), .inr (0, 72, .inl (fun _ => 0)), .inr (0, 72, .inl (fun _ => 0)), .inr (0, 72, .inl (fun _ => 0)), .inr (0, 72, .inl (fun _ => 0)), .inr (0, 72, .inl (fun _ => 0)), .inr (0, 72, .inl (fun _ => 0)), .inr (0, 72, .inl (fun _ => 0)), .inr (0, 10, .inl (fun _ => 0)), .inr (0, 10, .inl (fun _ => 0)), .inr (0, 10, .inl (fun _ => 0)), .inr (0, 3, .inl (fun _ => 0)), .inr (0, 4, .inl (fun _ => 0)), .inr (0, 24, .inl (fun _ => 0)), .inr (0, 1024, .inl (fun _ => 0)), .inr (0, 1024, .inl (fun _ => 0)), .inl (6, [.ref 22, .ref 27, .ref 56, .int 0, .ref 94, .ref 95, .ref 96, .int 0, .int 0]), .inr (0, 10, .inl (fun _ => 0)), .inr (0, 10, .inl (fun _ => 0)), .inr (0, 10, .inl (fun _ => 0)), .inl (12, [.ref 98, .int 0, .int 0, .int 0, .int 0, .int 0, .int 0, .ref 99, .ref 100, .int 0, .int 9999, .int 0, .int 0, .int 1, .ref 101, .ref 102, .ref 103, .ref 104, .ref 105, .ref 106, .ref 107, .ref 108, .int 0, .int 0, .int 0, .int 0, .int 0, .ref 109, .ref 110, .ref 111, .ref 112, .ref 113, .ref 114, .ref 115, .ref 116, .ref 117, .ref 118, .ref 119, .ref 120, .ref 121, .ref 122, .ref 123, .ref 124, .ref 125, .ref 126, .ref 127, .int 0, .int 0, .int 0, .int 0, .int 0, .int 0, .ref 128, .ref 129, .ref 130, .ref 131, .ref 132, .int 0, .ref 133, .ref 134, .ref 135, .int 0, .int 0, .int 0, .ref 136, .ref 137, .ref 138, .ref 139]), .inr (1, 200, .inl (fun _ => 0)), .inr (0, 864, .inl (fun _ => 0)), .inr (0, 72, .inl (fun _ => 0)), .inr (0, 10, .inl (fun _ => 0)), .inr (0, 3, .inl (fun _ => 0)), .inr (0, 3, .inl (fun _ => 0)), .inr (0, 4, .inl (fun _ => 0)), .inr (0, 10, .inl (fun _ => 0)), .inr (0, 10, .inl (fun _ => 0)), .inr (0, 10, .inl (fun _ => 0)), .inr (0, 10, .inl (fun _ => 0)), .inr (0, 180, .inl (fun _ => 0)), .inr (0, 180, .inl (fun _ => 0)), .inr (0, 12, .inl (fun _ => 0)), .inr (0, 12, .inl (fun _ => 0)), .inr (0, 12, .inl (fun _ => 0)), .inr (0, 12, .inl (fun _ => 0)), .inr (0, 180, .inl (fun _ => 0)), .inr (0, 12, .inl (fun _ => 0)), .inr (0, 12, .inl (fun _ => 0)), .inr (0, 12, .inl (fun _ => 0)), .inr (0, 12, .inl (fun _ => 0)), .inr (0, 180, .inl (fun _ => 0)), .inr (0, 9, .inl (fun _ => 0)), .inr (0, 10, .inl (fun _ => 0)), .inr (0, 10, .inl (fun _ => 0)), .inr (0, 3, .inl (fun _ => 0)), .inr (0, 4, .inl (fun _ => 0)), .inr (0, 720, .inl (fun _ => 0)), .inr (0, 10, .inl (fun _ => 0)), .inr (0, 10, .inl (fun _ => 0)), .inr (0, 6, .inl (fun _ => 0)), .inr (0, 10, .inl (fun _ => 0)), .inr (0, 10, .inl (fun _ => 0)), .inr (0, 6, .inl (fun _ => 0)), .inr (0, 24, .inl (fun _ => 0)), .inr (0, 3, .inl (fun _ => 0)), .inr (0, 3, .inl (fun _ => 0)), .inr (0, 10, .inl (fun _ => 0)), .inr (0, 10, .inl (fun _ => 0)), .inr (0, 10, .inl (fun _ => 0)), .inr (0, 10, .inl (fun _ => 0))]
def nx_240 : List nn_C := nx_239.set 104 (.inr (0, 4, .inl (upd (fun _ => 0) (0 : Int32).toNatClampNeg 999)))
def nx_241 : List nn_C := nx_240.set 104 (.inr (0, 4, .inl (upd (upd (fun _ => 0) (0 : Int32).toNatClampNeg 999) (1 : Int32).toNatClampNeg 999)))
def nx_242 : List nn_C := nx_241.set 104 (.inr (0, 4, .inl (upd (upd (upd (fun _ => 0) (0 : Int32).toNatClampNeg 999) (1 : Int32).toNatClampNeg 999) (2 : Int32).toNatClampNeg 999)))
def nx_243 : List nn_C := nx_242.set 104 (.inr (0, 4, .inl (upd (upd (upd (upd (fun _ => 0) (0 : Int32).toNatClampNeg 999) (1 : Int32).toNatClampNeg 999) (2 : Int32).toNatClampNeg 999) (3 : Int32).toNatClampNeg 999)))
set_option maxHeartbeats 4000000 in
set_option maxRecDepth 4000 in
theorem nc_1_X9_init (E : mm_E) (b : Nat) : nn_P E b Y_X9_init 2 1 200 [.ref 1] nx_2 nx_4 := by
  refine nn_entry (by decide +kernel) (Nat.le_of_ble_eq_true rfl) ?_
  show nn_W E b _ _ _ _ 0 [(0, .ref 1)] [] nx_2 0 0 _
  refine nn_aload_n 0 dX9_init_0 rfl ?_
  refine nn_objInit dX9_init_1 lo0_RX9_3 wd_obj ⟨by decide, by decide⟩ ?_
  refine nn_aload_n 0 dX9_init_4 rfl ?_
  refine nn_sipush (v := 200) dX9_init_5 rfl ?_
  refine nn_newarray (X2 := nx_3) (t := 0) (N := 200) dX9_init_8 (Or.inl ⟨rfl, rfl⟩) aw_0 (by decide) rfl (by decide) ⟨by decide, by decide⟩ (by decide +kernel) rfl ?_
  rw [show nx_2.length = 2 from rfl]
  refine nn_put (X2 := nx_4) dX9_init_10 np_RX9_9 rfl (by decide) (fun _ => ⟨rfl, rfl⟩) rfl (by decide +kernel) rfl ?_
  exact nn_vret dX9_init_13 rfl
set_option maxHeartbeats 4000000 in
set_option maxRecDepth 4000 in
theorem nc_2_X10_init (E : mm_E) (b : Nat) : nn_P E b Y_X10_init 2 0 0 [.ref 3, .ref 1] nx_6 nx_7 := by
  refine nn_entry (by decide +kernel) (Nat.le_of_ble_eq_true rfl) ?_
  show nn_W E b _ _ _ _ 0 [(0, .ref 3), (1, .ref 1)] [] nx_6 0 0 _
  refine nn_aload_n 0 dX10_init_0 rfl ?_
  refine nn_objInit dX10_init_1 lo0_RX10_3 wd_obj ⟨by decide, by decide⟩ ?_
  refine nn_aload_n 0 dX10_init_4 rfl ?_
  refine nn_aload_n 1 dX10_init_5 rfl ?_
  refine nn_put (X2 := nx_7) dX10_init_6 np_RX10_9 rfl (by decide) (fun _ => ⟨rfl, rfl⟩) rfl (by decide +kernel) rfl ?_
  exact nn_vret dX10_init_9 rfl
set_option maxHeartbeats 4000000 in
set_option maxRecDepth 4000 in
theorem nc_3_X1_init (E : mm_E) (b : Nat) : nn_P E b Y_X1_init 2 17 978 [.ref 4, .ref 3] nx_8 nx_19 := by
  refine nn_entry (by decide +kernel) (Nat.le_of_ble_eq_true rfl) ?_
  show nn_W E b _ _ _ _ 0 [(0, .ref 4), (1, .ref 3)] [] nx_8 0 0 _
  refine nn_aload_n 0 dX1_init_0 rfl ?_
  refine nn_objInit dX1_init_1 lo0_RX1_3 wd_obj ⟨by decide, by decide⟩ ?_
  refine nn_aload_n 0 dX1_init_4 rfl ?_
  refine nn_bipush (v := 12) dX1_init_5 rfl ?_
  refine nn_bipush (v := 72) dX1_init_7 rfl ?_
  refine nn_mna (X2 := nx_9) (N := 12) (K := 72) dX1_init_9 mw_RX1_9 (by decide) (by decide) rfl rfl (by decide) ⟨by decide, by decide⟩ (by decide +kernel) rfl ?_
  rw [show nx_8.length = 5 from rfl]
  refine nn_put (X2 := nx_10) dX1_init_13 np_RX1_11 rfl (by decide) (fun _ => ⟨rfl, rfl⟩) rfl (by decide +kernel) rfl ?_
  refine nn_aload_n 0 dX1_init_16 rfl ?_
  refine nn_bipush (v := 72) dX1_init_17 rfl ?_
  refine nn_newarray (X2 := nx_11) (t := 0) (N := 72) dX1_init_19 (Or.inl ⟨rfl, rfl⟩) aw_0 (by decide) rfl (by decide) ⟨by decide, by decide⟩ (by decide +kernel) rfl ?_
  rw [show nx_10.length = 18 from rfl]
  refine nn_put (X2 := nx_12) dX1_init_21 np_RX1_16 rfl (by decide) (fun _ => ⟨rfl, rfl⟩) rfl (by decide +kernel) rfl ?_
  refine nn_aload_n 0 dX1_init_24 rfl ?_
  refine nn_bipush (v := 24) dX1_init_25 rfl ?_
  refine nn_newarray (X2 := nx_13) (t := 0) (N := 24) dX1_init_27 (Or.inl ⟨rfl, rfl⟩) aw_0 (by decide) rfl (by decide) ⟨by decide, by decide⟩ (by decide +kernel) rfl ?_
  rw [show nx_12.length = 19 from rfl]
  refine nn_put (X2 := nx_14) dX1_init_29 np_RX1_20 rfl (by decide) (fun _ => ⟨rfl, rfl⟩) rfl (by decide +kernel) rfl ?_
  refine nn_aload_n 0 dX1_init_32 rfl ?_
  refine nn_iconst (v := 3) dX1_init_33 rfl ?_
  refine nn_newarray (X2 := nx_15) (t := 0) (N := 3) dX1_init_34 (Or.inl ⟨rfl, rfl⟩) aw_0 (by decide) rfl (by decide) ⟨by decide, by decide⟩ (by decide +kernel) rfl ?_
  rw [show nx_14.length = 20 from rfl]
  refine nn_put (X2 := nx_16) dX1_init_36 np_RX1_23 rfl (by decide) (fun _ => ⟨rfl, rfl⟩) rfl (by decide +kernel) rfl ?_
  refine nn_aload_n 0 dX1_init_39 rfl ?_
  refine nn_iconst (v := 3) dX1_init_40 rfl ?_
  refine nn_newarray (X2 := nx_17) (t := 0) (N := 3) dX1_init_41 (Or.inl ⟨rfl, rfl⟩) aw_0 (by decide) rfl (by decide) ⟨by decide, by decide⟩ (by decide +kernel) rfl ?_
  rw [show nx_16.length = 21 from rfl]
  refine nn_put (X2 := nx_18) dX1_init_43 np_RX1_26 rfl (by decide) (fun _ => ⟨rfl, rfl⟩) rfl (by decide +kernel) rfl ?_
  refine nn_aload_n 0 dX1_init_46 rfl ?_
  refine nn_aload_n 1 dX1_init_47 rfl ?_
  refine nn_put (X2 := nx_19) dX1_init_48 np_RX1_29 rfl (by decide) (fun _ => ⟨rfl, rfl⟩) rfl (by decide +kernel) rfl ?_
  exact nn_vret dX1_init_51 rfl
set_option maxHeartbeats 4000000 in
set_option maxRecDepth 4000 in
theorem nc_5_J7_fill_53178 (E : mm_E) (b : Nat) : nn_P E b Y_J7_fill_53178 1 0 0 [.ref 26, .int 999] nx_30 nx_34 := by
  refine nn_entry (by decide +kernel) (Nat.le_of_ble_eq_true rfl) ?_
  show nn_W E b _ _ _ _ 0 [(0, .ref 26), (1, .int 999)] [] nx_30 0 0 _
  refine nn_iconst (v := 0) dJ7_fill_53178_0 rfl ?_
  refine nn_istore_n [1, 2, 0] (lv2 := [(0, .ref 26), (1, .int 999), (2, .int 0)]) dJ7_fill_53178_1 (by decide) rfl ?_
  refine nn_aload_n 0 dJ7_fill_53178_2 rfl ?_
  refine nn_alen (v := 4) dJ7_fill_53178_3 rfl rfl ?_
  refine nn_istore_n [1, 2, 3, 0] (lv2 := [(0, .ref 26), (1, .int 999), (2, .int 0), (3, .int 4)]) dJ7_fill_53178_4 (by decide) rfl ?_
  refine nn_iload_n 2 dJ7_fill_53178_5 rfl ?_
  refine nn_iload_n 3 dJ7_fill_53178_6 rfl ?_
  refine nn_icmp_ge_f 20 dJ7_fill_53178_7 rfl (by decide) ?_
  refine nn_aload_n 0 dJ7_fill_53178_10 rfl ?_
  refine nn_iload_n 2 dJ7_fill_53178_11 rfl ?_
  refine nn_iload_n 1 dJ7_fill_53178_12 rfl ?_
  refine nn_iastore (X2 := nx_31) dJ7_fill_53178_13 rfl (by decide) (by decide +kernel) rfl ?_
  refine nn_iinc 2 [1, 2, 0, 3] (v := 1) (lv2 := [(0, .ref 26), (1, .int 999), (2, .int 1), (3, .int 4)]) dJ7_fill_53178_14 rfl (by decide) (by decide) rfl ?_
  refine nn_goto 5 dJ7_fill_53178_17 rfl ?_
  refine nn_iload_n 2 dJ7_fill_53178_5 rfl ?_
  refine nn_iload_n 3 dJ7_fill_53178_6 rfl ?_
  refine nn_icmp_ge_f 20 dJ7_fill_53178_7 rfl (by decide) ?_
  refine nn_aload_n 0 dJ7_fill_53178_10 rfl ?_
  refine nn_iload_n 2 dJ7_fill_53178_11 rfl ?_
  refine nn_iload_n 1 dJ7_fill_53178_12 rfl ?_
  refine nn_iastore (X2 := nx_32) dJ7_fill_53178_13 rfl (by decide) (by decide +kernel) rfl ?_
  refine nn_iinc 2 [1, 2, 0, 3] (v := 2) (lv2 := [(0, .ref 26), (1, .int 999), (2, .int 2), (3, .int 4)]) dJ7_fill_53178_14 rfl (by decide) (by decide) rfl ?_
  refine nn_goto 5 dJ7_fill_53178_17 rfl ?_
  refine nn_iload_n 2 dJ7_fill_53178_5 rfl ?_
  refine nn_iload_n 3 dJ7_fill_53178_6 rfl ?_
  refine nn_icmp_ge_f 20 dJ7_fill_53178_7 rfl (by decide) ?_
  refine nn_aload_n 0 dJ7_fill_53178_10 rfl ?_
  refine nn_iload_n 2 dJ7_fill_53178_11 rfl ?_
  refine nn_iload_n 1 dJ7_fill_53178_12 rfl ?_
  refine nn_iastore (X2 := nx_33) dJ7_fill_53178_13 rfl (by decide) (by decide +kernel) rfl ?_
  refine nn_iinc 2 [1, 2, 0, 3] (v := 3) (lv2 := [(0, .ref 26), (1, .int 999), (2, .int 3), (3, .int 4)]) dJ7_fill_53178_14 rfl (by decide) (by decide) rfl ?_
  refine nn_goto 5 dJ7_fill_53178_17 rfl ?_
  refine nn_iload_n 2 dJ7_fill_53178_5 rfl ?_
  refine nn_iload_n 3 dJ7_fill_53178_6 rfl ?_
  refine nn_icmp_ge_f 20 dJ7_fill_53178_7 rfl (by decide) ?_
  refine nn_aload_n 0 dJ7_fill_53178_10 rfl ?_
  refine nn_iload_n 2 dJ7_fill_53178_11 rfl ?_
  refine nn_iload_n 1 dJ7_fill_53178_12 rfl ?_
  refine nn_iastore (X2 := nx_34) dJ7_fill_53178_13 rfl (by decide) (by decide +kernel) rfl ?_
  refine nn_iinc 2 [1, 2, 0, 3] (v := 4) (lv2 := [(0, .ref 26), (1, .int 999), (2, .int 4), (3, .int 4)]) dJ7_fill_53178_14 rfl (by decide) (by decide) rfl ?_
  refine nn_goto 5 dJ7_fill_53178_17 rfl ?_
  refine nn_iload_n 2 dJ7_fill_53178_5 rfl ?_
  refine nn_iload_n 3 dJ7_fill_53178_6 rfl ?_
  refine nn_icmp_ge_t 20 dJ7_fill_53178_7 rfl (by decide) ?_
  exact nn_vret dJ7_fill_53178_20 rfl
set_option maxHeartbeats 4000000 in
set_option maxRecDepth 4000 in
theorem nc_4_X2_init (E : mm_E) (b : Nat) : nn_P E b Y_X2_init 2 4 20 [.ref 22] nx_21 nx_34 := by
  refine nn_entry (by decide +kernel) (Nat.le_of_ble_eq_true rfl) ?_
  show nn_W E b _ _ _ _ 0 [(0, .ref 22)] [] nx_21 0 0 _
  refine nn_aload_n 0 dX2_init_0 rfl ?_
  refine nn_objInit dX2_init_1 lo0_RX2_3 wd_obj ⟨by decide, by decide⟩ ?_
  refine nn_aload_n 0 dX2_init_4 rfl ?_
  refine nn_bipush (v := 10) dX2_init_5 rfl ?_
  refine nn_newarray (X2 := nx_22) (t := 0) (N := 10) dX2_init_7 (Or.inl ⟨rfl, rfl⟩) aw_0 (by decide) rfl (by decide) ⟨by decide, by decide⟩ (by decide +kernel) rfl ?_
  rw [show nx_21.length = 23 from rfl]
  refine nn_put (X2 := nx_23) dX2_init_9 np_RX2_9 rfl (by decide) (fun _ => ⟨rfl, rfl⟩) rfl (by decide +kernel) rfl ?_
  refine nn_aload_n 0 dX2_init_12 rfl ?_
  refine nn_iconst (v := 3) dX2_init_13 rfl ?_
  refine nn_newarray (X2 := nx_24) (t := 0) (N := 3) dX2_init_14 (Or.inl ⟨rfl, rfl⟩) aw_0 (by decide) rfl (by decide) ⟨by decide, by decide⟩ (by decide +kernel) rfl ?_
  rw [show nx_23.length = 24 from rfl]
  refine nn_put (X2 := nx_25) dX2_init_16 np_RX2_15 rfl (by decide) (fun _ => ⟨rfl, rfl⟩) rfl (by decide +kernel) rfl ?_
  refine nn_aload_n 0 dX2_init_19 rfl ?_
  refine nn_iconst (v := 3) dX2_init_20 rfl ?_
  refine nn_newarray (X2 := nx_26) (t := 0) (N := 3) dX2_init_21 (Or.inl ⟨rfl, rfl⟩) aw_0 (by decide) rfl (by decide) ⟨by decide, by decide⟩ (by decide +kernel) rfl ?_
  rw [show nx_25.length = 25 from rfl]
  refine nn_put (X2 := nx_27) dX2_init_23 np_RX2_18 rfl (by decide) (fun _ => ⟨rfl, rfl⟩) rfl (by decide +kernel) rfl ?_
  refine nn_aload_n 0 dX2_init_26 rfl ?_
  refine nn_iconst (v := 4) dX2_init_27 rfl ?_
  refine nn_newarray (X2 := nx_28) (t := 0) (N := 4) dX2_init_28 (Or.inl ⟨rfl, rfl⟩) aw_0 (by decide) rfl (by decide) ⟨by decide, by decide⟩ (by decide +kernel) rfl ?_
  rw [show nx_27.length = 26 from rfl]
  refine nn_put (X2 := nx_29) dX2_init_30 np_RX2_21 rfl (by decide) (fun _ => ⟨rfl, rfl⟩) rfl (by decide +kernel) rfl ?_
  refine nn_aload_n 0 dX2_init_33 rfl ?_
  refine nn_sipush (v := 9999) dX2_init_34 rfl ?_
  refine nn_put (X2 := nx_30) dX2_init_37 np_RX2_24 rfl (by decide) (fun _ => ⟨rfl, rfl⟩) rfl (by decide +kernel) rfl ?_
  refine nn_aload_n 0 dX2_init_40 rfl ?_
  refine nn_getf (v := .ref 26) dX2_init_41 fl_RX2_21 rfl rfl ?_
  refine nn_sipush (v := 999) dX2_init_44 rfl ?_
  refine nn_callS (as := [.ref 26, .int 999]) (st := []) (nc_5_J7_fill_53178 E b) dX2_init_47 mz_J7_fill_53178 lk_RX2_28 sm_J7_fill_53178 rfl ⟨by decide, by decide⟩ (by decide) ⟨by decide, by decide⟩ ?_
  exact nn_vret dX2_init_50 rfl
set_option maxHeartbeats 4000000 in
set_option maxRecDepth 4000 in
theorem nc_6_X7_init (E : mm_E) (b : Nat) : nn_P E b Y_X7_init 2 4 40 [.ref 27] nx_36 nx_45 := by
  refine nn_entry (by decide +kernel) (Nat.le_of_ble_eq_true rfl) ?_
  show nn_W E b _ _ _ _ 0 [(0, .ref 27)] [] nx_36 0 0 _
  refine nn_aload_n 0 dX7_init_0 rfl ?_
  refine nn_objInit dX7_init_1 lo0_RX7_3 wd_obj ⟨by decide, by decide⟩ ?_
  refine nn_aload_n 0 dX7_init_4 rfl ?_
  refine nn_bipush (v := 10) dX7_init_5 rfl ?_
  refine nn_newarray (X2 := nx_37) (t := 0) (N := 10) dX7_init_7 (Or.inl ⟨rfl, rfl⟩) aw_0 (by decide) rfl (by decide) ⟨by decide, by decide⟩ (by decide +kernel) rfl ?_
  rw [show nx_36.length = 28 from rfl]
  refine nn_put (X2 := nx_38) dX7_init_9 np_RX7_9 rfl (by decide) (fun _ => ⟨rfl, rfl⟩) rfl (by decide +kernel) rfl ?_
  refine nn_aload_n 0 dX7_init_12 rfl ?_
  refine nn_bipush (v := 10) dX7_init_13 rfl ?_
  refine nn_newarray (X2 := nx_39) (t := 0) (N := 10) dX7_init_15 (Or.inl ⟨rfl, rfl⟩) aw_0 (by decide) rfl (by decide) ⟨by decide, by decide⟩ (by decide +kernel) rfl ?_
  rw [show nx_38.length = 29 from rfl]
  refine nn_put (X2 := nx_40) dX7_init_17 np_RX7_15 rfl (by decide) (fun _ => ⟨rfl, rfl⟩) rfl (by decide +kernel) rfl ?_
  refine nn_aload_n 0 dX7_init_20 rfl ?_
  refine nn_bipush (v := 10) dX7_init_21 rfl ?_
  refine nn_newarray (X2 := nx_41) (t := 0) (N := 10) dX7_init_23 (Or.inl ⟨rfl, rfl⟩) aw_0 (by decide) rfl (by decide) ⟨by decide, by decide⟩ (by decide +kernel) rfl ?_
  rw [show nx_40.length = 30 from rfl]
  refine nn_put (X2 := nx_42) dX7_init_25 np_RX7_18 rfl (by decide) (fun _ => ⟨rfl, rfl⟩) rfl (by decide +kernel) rfl ?_
  refine nn_aload_n 0 dX7_init_28 rfl ?_
  refine nn_bipush (v := 10) dX7_init_29 rfl ?_
  refine nn_newarray (X2 := nx_43) (t := 0) (N := 10) dX7_init_31 (Or.inl ⟨rfl, rfl⟩) aw_0 (by decide) rfl (by decide) ⟨by decide, by decide⟩ (by decide +kernel) rfl ?_
  rw [show nx_42.length = 31 from rfl]
  refine nn_put (X2 := nx_44) dX7_init_33 np_RX7_21 rfl (by decide) (fun _ => ⟨rfl, rfl⟩) rfl (by decide +kernel) rfl ?_
  refine nn_aload_n 0 dX7_init_36 rfl ?_
  refine nn_iconst (v := 1) dX7_init_37 rfl ?_
  refine nn_put (X2 := nx_45) dX7_init_38 np_RX7_24 rfl (by decide) (fun _ => ⟨rfl, rfl⟩) rfl (by decide +kernel) rfl ?_
  exact nn_vret dX7_init_41 rfl
set_option maxHeartbeats 4000000 in
set_option maxRecDepth 4000 in
theorem nc_7_X7_init (E : mm_E) (b : Nat) : nn_P E b Y_X7_init 2 4 40 [.ref 32] nx_47 nx_56 := by
  refine nn_entry (by decide +kernel) (Nat.le_of_ble_eq_true rfl) ?_
  show nn_W E b _ _ _ _ 0 [(0, .ref 32)] [] nx_47 0 0 _
  refine nn_aload_n 0 dX7_init_0 rfl ?_
  refine nn_objInit dX7_init_1 lo0_RX7_3 wd_obj ⟨by decide, by decide⟩ ?_
  refine nn_aload_n 0 dX7_init_4 rfl ?_
  refine nn_bipush (v := 10) dX7_init_5 rfl ?_
  refine nn_newarray (X2 := nx_48) (t := 0) (N := 10) dX7_init_7 (Or.inl ⟨rfl, rfl⟩) aw_0 (by decide) rfl (by decide) ⟨by decide, by decide⟩ (by decide +kernel) rfl ?_
  rw [show nx_47.length = 33 from rfl]
  refine nn_put (X2 := nx_49) dX7_init_9 np_RX7_9 rfl (by decide) (fun _ => ⟨rfl, rfl⟩) rfl (by decide +kernel) rfl ?_
  refine nn_aload_n 0 dX7_init_12 rfl ?_
  refine nn_bipush (v := 10) dX7_init_13 rfl ?_
  refine nn_newarray (X2 := nx_50) (t := 0) (N := 10) dX7_init_15 (Or.inl ⟨rfl, rfl⟩) aw_0 (by decide) rfl (by decide) ⟨by decide, by decide⟩ (by decide +kernel) rfl ?_
  rw [show nx_49.length = 34 from rfl]
  refine nn_put (X2 := nx_51) dX7_init_17 np_RX7_15 rfl (by decide) (fun _ => ⟨rfl, rfl⟩) rfl (by decide +kernel) rfl ?_
  refine nn_aload_n 0 dX7_init_20 rfl ?_
  refine nn_bipush (v := 10) dX7_init_21 rfl ?_
  refine nn_newarray (X2 := nx_52) (t := 0) (N := 10) dX7_init_23 (Or.inl ⟨rfl, rfl⟩) aw_0 (by decide) rfl (by decide) ⟨by decide, by decide⟩ (by decide +kernel) rfl ?_
  rw [show nx_51.length = 35 from rfl]
  refine nn_put (X2 := nx_53) dX7_init_25 np_RX7_18 rfl (by decide) (fun _ => ⟨rfl, rfl⟩) rfl (by decide +kernel) rfl ?_
  refine nn_aload_n 0 dX7_init_28 rfl ?_
  refine nn_bipush (v := 10) dX7_init_29 rfl ?_
  refine nn_newarray (X2 := nx_54) (t := 0) (N := 10) dX7_init_31 (Or.inl ⟨rfl, rfl⟩) aw_0 (by decide) rfl (by decide) ⟨by decide, by decide⟩ (by decide +kernel) rfl ?_
  rw [show nx_53.length = 36 from rfl]
  refine nn_put (X2 := nx_55) dX7_init_33 np_RX7_21 rfl (by decide) (fun _ => ⟨rfl, rfl⟩) rfl (by decide +kernel) rfl ?_
  refine nn_aload_n 0 dX7_init_36 rfl ?_
  refine nn_iconst (v := 1) dX7_init_37 rfl ?_
  refine nn_put (X2 := nx_56) dX7_init_38 np_RX7_24 rfl (by decide) (fun _ => ⟨rfl, rfl⟩) rfl (by decide +kernel) rfl ?_
  exact nn_vret dX7_init_41 rfl
set_option maxHeartbeats 4000000 in
set_option maxRecDepth 4000 in
theorem nc_8_X3_init (E : mm_E) (b : Nat) : nn_P E b Y_X3_init 2 8 537 [.ref 37] nx_58 nx_74 := by
  refine nn_entry (by decide +kernel) (Nat.le_of_ble_eq_true rfl) ?_
  show nn_W E b _ _ _ _ 0 [(0, .ref 37)] [] nx_58 0 0 _
  refine nn_aload_n 0 dX3_init_0 rfl ?_
  refine nn_objInit dX3_init_1 lo0_RX3_3 wd_obj ⟨by decide, by decide⟩ ?_
  refine nn_aload_n 0 dX3_init_4 rfl ?_
  refine nn_sipush (v := 160) dX3_init_5 rfl ?_
  refine nn_newarray (X2 := nx_59) (t := 0) (N := 160) dX3_init_8 (Or.inl ⟨rfl, rfl⟩) aw_0 (by decide) rfl (by decide) ⟨by decide, by decide⟩ (by decide +kernel) rfl ?_
  rw [show nx_58.length = 38 from rfl]
  refine nn_put (X2 := nx_60) dX3_init_10 np_RX3_9 rfl (by decide) (fun _ => ⟨rfl, rfl⟩) rfl (by decide +kernel) rfl ?_
  refine nn_aload_n 0 dX3_init_13 rfl ?_
  refine nn_sipush (v := 160) dX3_init_14 rfl ?_
  refine nn_newarray (X2 := nx_61) (t := 0) (N := 160) dX3_init_17 (Or.inl ⟨rfl, rfl⟩) aw_0 (by decide) rfl (by decide) ⟨by decide, by decide⟩ (by decide +kernel) rfl ?_
  rw [show nx_60.length = 39 from rfl]
  refine nn_put (X2 := nx_62) dX3_init_19 np_RX3_15 rfl (by decide) (fun _ => ⟨rfl, rfl⟩) rfl (by decide +kernel) rfl ?_
  refine nn_aload_n 0 dX3_init_22 rfl ?_
  refine nn_bipush (v := 12) dX3_init_23 rfl ?_
  refine nn_newarray (X2 := nx_63) (t := 0) (N := 12) dX3_init_25 (Or.inl ⟨rfl, rfl⟩) aw_0 (by decide) rfl (by decide) ⟨by decide, by decide⟩ (by decide +kernel) rfl ?_
  rw [show nx_62.length = 40 from rfl]
  refine nn_put (X2 := nx_64) dX3_init_27 np_RX3_18 rfl (by decide) (fun _ => ⟨rfl, rfl⟩) rfl (by decide +kernel) rfl ?_
  refine nn_aload_n 0 dX3_init_30 rfl ?_
  refine nn_bipush (v := 12) dX3_init_31 rfl ?_
  refine nn_newarray (X2 := nx_65) (t := 0) (N := 12) dX3_init_33 (Or.inl ⟨rfl, rfl⟩) aw_0 (by decide) rfl (by decide) ⟨by decide, by decide⟩ (by decide +kernel) rfl ?_
  rw [show nx_64.length = 41 from rfl]
  refine nn_put (X2 := nx_66) dX3_init_35 np_RX3_21 rfl (by decide) (fun _ => ⟨rfl, rfl⟩) rfl (by decide +kernel) rfl ?_
  refine nn_aload_n 0 dX3_init_38 rfl ?_
  refine nn_bipush (v := 12) dX3_init_39 rfl ?_
  refine nn_newarray (X2 := nx_67) (t := 0) (N := 12) dX3_init_41 (Or.inl ⟨rfl, rfl⟩) aw_0 (by decide) rfl (by decide) ⟨by decide, by decide⟩ (by decide +kernel) rfl ?_
  rw [show nx_66.length = 42 from rfl]
  refine nn_put (X2 := nx_68) dX3_init_43 np_RX3_24 rfl (by decide) (fun _ => ⟨rfl, rfl⟩) rfl (by decide +kernel) rfl ?_
  refine nn_aload_n 0 dX3_init_46 rfl ?_
  refine nn_bipush (v := 12) dX3_init_47 rfl ?_
  refine nn_newarray (X2 := nx_69) (t := 0) (N := 12) dX3_init_49 (Or.inl ⟨rfl, rfl⟩) aw_0 (by decide) rfl (by decide) ⟨by decide, by decide⟩ (by decide +kernel) rfl ?_
  rw [show nx_68.length = 43 from rfl]
  refine nn_put (X2 := nx_70) dX3_init_51 np_RX3_27 rfl (by decide) (fun _ => ⟨rfl, rfl⟩) rfl (by decide +kernel) rfl ?_
  refine nn_aload_n 0 dX3_init_54 rfl ?_
  refine nn_bipush (v := 9) dX3_init_55 rfl ?_
  refine nn_newarray (X2 := nx_71) (t := 0) (N := 9) dX3_init_57 (Or.inl ⟨rfl, rfl⟩) aw_0 (by decide) rfl (by decide) ⟨by decide, by decide⟩ (by decide +kernel) rfl ?_
  rw [show nx_70.length = 44 from rfl]
  refine nn_put (X2 := nx_72) dX3_init_59 np_RX3_30 rfl (by decide) (fun _ => ⟨rfl, rfl⟩) rfl (by decide +kernel) rfl ?_
  refine nn_aload_n 0 dX3_init_62 rfl ?_
  refine nn_sipush (v := 160) dX3_init_63 rfl ?_
  refine nn_newarray (X2 := nx_73) (t := 0) (N := 160) dX3_init_66 (Or.inl ⟨rfl, rfl⟩) aw_0 (by decide) rfl (by decide) ⟨by decide, by decide⟩ (by decide +kernel) rfl ?_
  rw [show nx_72.length = 45 from rfl]
  refine nn_put (X2 := nx_74) dX3_init_68 np_RX3_33 rfl (by decide) (fun _ => ⟨rfl, rfl⟩) rfl (by decide +kernel) rfl ?_
  exact nn_vret dX3_init_71 rfl
set_option maxHeartbeats 4000000 in
set_option maxRecDepth 4000 in
theorem nc_9_X3_init (E : mm_E) (b : Nat) : nn_P E b Y_X3_init 2 8 537 [.ref 46] nx_76 nx_92 := by
  refine nn_entry (by decide +kernel) (Nat.le_of_ble_eq_true rfl) ?_
  show nn_W E b _ _ _ _ 0 [(0, .ref 46)] [] nx_76 0 0 _
  refine nn_aload_n 0 dX3_init_0 rfl ?_
  refine nn_objInit dX3_init_1 lo0_RX3_3 wd_obj ⟨by decide, by decide⟩ ?_
  refine nn_aload_n 0 dX3_init_4 rfl ?_
  refine nn_sipush (v := 160) dX3_init_5 rfl ?_
  refine nn_newarray (X2 := nx_77) (t := 0) (N := 160) dX3_init_8 (Or.inl ⟨rfl, rfl⟩) aw_0 (by decide) rfl (by decide) ⟨by decide, by decide⟩ (by decide +kernel) rfl ?_
  rw [show nx_76.length = 47 from rfl]
  refine nn_put (X2 := nx_78) dX3_init_10 np_RX3_9 rfl (by decide) (fun _ => ⟨rfl, rfl⟩) rfl (by decide +kernel) rfl ?_
  refine nn_aload_n 0 dX3_init_13 rfl ?_
  refine nn_sipush (v := 160) dX3_init_14 rfl ?_
  refine nn_newarray (X2 := nx_79) (t := 0) (N := 160) dX3_init_17 (Or.inl ⟨rfl, rfl⟩) aw_0 (by decide) rfl (by decide) ⟨by decide, by decide⟩ (by decide +kernel) rfl ?_
  rw [show nx_78.length = 48 from rfl]
  refine nn_put (X2 := nx_80) dX3_init_19 np_RX3_15 rfl (by decide) (fun _ => ⟨rfl, rfl⟩) rfl (by decide +kernel) rfl ?_
  refine nn_aload_n 0 dX3_init_22 rfl ?_
  refine nn_bipush (v := 12) dX3_init_23 rfl ?_
  refine nn_newarray (X2 := nx_81) (t := 0) (N := 12) dX3_init_25 (Or.inl ⟨rfl, rfl⟩) aw_0 (by decide) rfl (by decide) ⟨by decide, by decide⟩ (by decide +kernel) rfl ?_
  rw [show nx_80.length = 49 from rfl]
  refine nn_put (X2 := nx_82) dX3_init_27 np_RX3_18 rfl (by decide) (fun _ => ⟨rfl, rfl⟩) rfl (by decide +kernel) rfl ?_
  refine nn_aload_n 0 dX3_init_30 rfl ?_
  refine nn_bipush (v := 12) dX3_init_31 rfl ?_
  refine nn_newarray (X2 := nx_83) (t := 0) (N := 12) dX3_init_33 (Or.inl ⟨rfl, rfl⟩) aw_0 (by decide) rfl (by decide) ⟨by decide, by decide⟩ (by decide +kernel) rfl ?_
  rw [show nx_82.length = 50 from rfl]
  refine nn_put (X2 := nx_84) dX3_init_35 np_RX3_21 rfl (by decide) (fun _ => ⟨rfl, rfl⟩) rfl (by decide +kernel) rfl ?_
  refine nn_aload_n 0 dX3_init_38 rfl ?_
  refine nn_bipush (v := 12) dX3_init_39 rfl ?_
  refine nn_newarray (X2 := nx_85) (t := 0) (N := 12) dX3_init_41 (Or.inl ⟨rfl, rfl⟩) aw_0 (by decide) rfl (by decide) ⟨by decide, by decide⟩ (by decide +kernel) rfl ?_
  rw [show nx_84.length = 51 from rfl]
  refine nn_put (X2 := nx_86) dX3_init_43 np_RX3_24 rfl (by decide) (fun _ => ⟨rfl, rfl⟩) rfl (by decide +kernel) rfl ?_
  refine nn_aload_n 0 dX3_init_46 rfl ?_
  refine nn_bipush (v := 12) dX3_init_47 rfl ?_
  refine nn_newarray (X2 := nx_87) (t := 0) (N := 12) dX3_init_49 (Or.inl ⟨rfl, rfl⟩) aw_0 (by decide) rfl (by decide) ⟨by decide, by decide⟩ (by decide +kernel) rfl ?_
  rw [show nx_86.length = 52 from rfl]
  refine nn_put (X2 := nx_88) dX3_init_51 np_RX3_27 rfl (by decide) (fun _ => ⟨rfl, rfl⟩) rfl (by decide +kernel) rfl ?_
  refine nn_aload_n 0 dX3_init_54 rfl ?_
  refine nn_bipush (v := 9) dX3_init_55 rfl ?_
  refine nn_newarray (X2 := nx_89) (t := 0) (N := 9) dX3_init_57 (Or.inl ⟨rfl, rfl⟩) aw_0 (by decide) rfl (by decide) ⟨by decide, by decide⟩ (by decide +kernel) rfl ?_
  rw [show nx_88.length = 53 from rfl]
  refine nn_put (X2 := nx_90) dX3_init_59 np_RX3_30 rfl (by decide) (fun _ => ⟨rfl, rfl⟩) rfl (by decide +kernel) rfl ?_
  refine nn_aload_n 0 dX3_init_62 rfl ?_
  refine nn_sipush (v := 160) dX3_init_63 rfl ?_
  refine nn_newarray (X2 := nx_91) (t := 0) (N := 160) dX3_init_66 (Or.inl ⟨rfl, rfl⟩) aw_0 (by decide) rfl (by decide) ⟨by decide, by decide⟩ (by decide +kernel) rfl ?_
  rw [show nx_90.length = 54 from rfl]
  refine nn_put (X2 := nx_92) dX3_init_68 np_RX3_33 rfl (by decide) (fun _ => ⟨rfl, rfl⟩) rfl (by decide +kernel) rfl ?_
  exact nn_vret dX3_init_71 rfl
set_option maxHeartbeats 4000000 in
set_option maxRecDepth 4000 in
theorem nc_10_X4_init (E : mm_E) (b : Nat) : nn_P E b Y_X4_init 2 0 0 [.ref 55, .ref 3, .ref 46] nx_94 nx_96 := by
  refine nn_entry (by decide +kernel) (Nat.le_of_ble_eq_true rfl) ?_
  show nn_W E b _ _ _ _ 0 [(0, .ref 55), (1, .ref 3), (2, .ref 46)] [] nx_94 0 0 _
  refine nn_aload_n 0 dX4_init_0 rfl ?_
  refine nn_objInit dX4_init_1 lo0_RX4_3 wd_obj ⟨by decide, by decide⟩ ?_
  refine nn_aload_n 0 dX4_init_4 rfl ?_
  refine nn_aload_n 1 dX4_init_5 rfl ?_
  refine nn_put (X2 := nx_95) dX4_init_6 np_RX4_9 rfl (by decide) (fun _ => ⟨rfl, rfl⟩) rfl (by decide +kernel) rfl ?_
  refine nn_aload_n 0 dX4_init_9 rfl ?_
  refine nn_aload_n 2 dX4_init_10 rfl ?_
  refine nn_put (X2 := nx_96) dX4_init_11 np_RX4_15 rfl (by decide) (fun _ => ⟨rfl, rfl⟩) rfl (by decide +kernel) rfl ?_
  exact nn_vret dX4_init_14 rfl
set_option maxHeartbeats 4000000 in
set_option maxRecDepth 4000 in
theorem nc_11_X5_init (E : mm_E) (b : Nat) : nn_P E b Y_X5_init 2 14 908 [.ref 56, .ref 22, .ref 27, .ref 4] nx_98 nx_109 := by
  refine nn_entry (by decide +kernel) (Nat.le_of_ble_eq_true rfl) ?_
  show nn_W E b _ _ _ _ 0 [(0, .ref 56), (1, .ref 22), (2, .ref 27), (3, .ref 4)] [] nx_98 0 0 _
  refine nn_aload_n 0 dX5_init_0 rfl ?_
  refine nn_objInit dX5_init_1 lo0_RX5_3 wd_obj ⟨by decide, by decide⟩ ?_
  refine nn_aload_n 0 dX5_init_4 rfl ?_
  refine nn_bipush (v := 10) dX5_init_5 rfl ?_
  refine nn_bipush (v := 72) dX5_init_7 rfl ?_
  refine nn_mna (X2 := nx_99) (N := 10) (K := 72) dX5_init_9 mw_RX5_9 (by decide) (by decide) rfl rfl (by decide) ⟨by decide, by decide⟩ (by decide +kernel) rfl ?_
  rw [show nx_98.length = 57 from rfl]
  refine nn_put (X2 := nx_100) dX5_init_13 np_RX5_11 rfl (by decide) (fun _ => ⟨rfl, rfl⟩) rfl (by decide +kernel) rfl ?_
  refine nn_aload_n 0 dX5_init_16 rfl ?_
  refine nn_bipush (v := 10) dX5_init_17 rfl ?_
  refine nn_newarray (X2 := nx_101) (t := 0) (N := 10) dX5_init_19 (Or.inl ⟨rfl, rfl⟩) aw_0 (by decide) rfl (by decide) ⟨by decide, by decide⟩ (by decide +kernel) rfl ?_
  rw [show nx_100.length = 68 from rfl]
  refine nn_put (X2 := nx_102) dX5_init_21 np_RX5_16 rfl (by decide) (fun _ => ⟨rfl, rfl⟩) rfl (by decide +kernel) rfl ?_
  refine nn_aload_n 0 dX5_init_24 rfl ?_
  refine nn_bipush (v := 72) dX5_init_25 rfl ?_
  refine nn_newarray (X2 := nx_103) (t := 0) (N := 72) dX5_init_27 (Or.inl ⟨rfl, rfl⟩) aw_0 (by decide) rfl (by decide) ⟨by decide, by decide⟩ (by decide +kernel) rfl ?_
  rw [show nx_102.length = 69 from rfl]
  refine nn_put (X2 := nx_104) dX5_init_29 np_RX5_20 rfl (by decide) (fun _ => ⟨rfl, rfl⟩) rfl (by decide +kernel) rfl ?_
  refine nn_aload_n 0 dX5_init_32 rfl ?_
  refine nn_bipush (v := 96) dX5_init_33 rfl ?_
  refine nn_newarray (X2 := nx_105) (t := 0) (N := 96) dX5_init_35 (Or.inl ⟨rfl, rfl⟩) aw_0 (by decide) rfl (by decide) ⟨by decide, by decide⟩ (by decide +kernel) rfl ?_
  rw [show nx_104.length = 70 from rfl]
  refine nn_put (X2 := nx_106) dX5_init_37 np_RX5_23 rfl (by decide) (fun _ => ⟨rfl, rfl⟩) rfl (by decide +kernel) rfl ?_
  refine nn_aload_n 0 dX5_init_40 rfl ?_
  refine nn_aload_n 1 dX5_init_41 rfl ?_
  refine nn_put (X2 := nx_107) dX5_init_42 np_RX5_26 rfl (by decide) (fun _ => ⟨rfl, rfl⟩) rfl (by decide +kernel) rfl ?_
  refine nn_aload_n 0 dX5_init_45 rfl ?_
  refine nn_aload_n 2 dX5_init_46 rfl ?_
  refine nn_put (X2 := nx_108) dX5_init_47 np_RX5_30 rfl (by decide) (fun _ => ⟨rfl, rfl⟩) rfl (by decide +kernel) rfl ?_
  refine nn_aload_n 0 dX5_init_50 rfl ?_
  refine nn_aload_n 3 dX5_init_51 rfl ?_
  refine nn_put (X2 := nx_109) dX5_init_52 np_RX5_34 rfl (by decide) (fun _ => ⟨rfl, rfl⟩) rfl (by decide +kernel) rfl ?_
  exact nn_vret dX5_init_55 rfl
set_option maxHeartbeats 4000000 in
set_option maxRecDepth 4000 in
theorem nc_12_X0_init (E : mm_E) (b : Nat) : nn_P E b Y_X0_init 2 1 3 [.ref 71, .ref 22, .ref 27, .ref 56] nx_111 nx_116 := by
  refine nn_entry (by decide +kernel) (Nat.le_of_ble_eq_true rfl) ?_
  show nn_W E b _ _ _ _ 0 [(0, .ref 71), (1, .ref 22), (2, .ref 27), (3, .ref 56)] [] nx_111 0 0 _
  refine nn_aload_n 0 dX0_init_0 rfl ?_
  refine nn_objInit dX0_init_1 lo0_RX0_3 wd_obj ⟨by decide, by decide⟩ ?_
  refine nn_aload_n 0 dX0_init_4 rfl ?_
  refine nn_iconst (v := 3) dX0_init_5 rfl ?_
  refine nn_newarray (X2 := nx_112) (t := 0) (N := 3) dX0_init_6 (Or.inl ⟨rfl, rfl⟩) aw_0 (by decide) rfl (by decide) ⟨by decide, by decide⟩ (by decide +kernel) rfl ?_
  rw [show nx_111.length = 72 from rfl]
  refine nn_put (X2 := nx_113) dX0_init_8 np_RX0_9 rfl (by decide) (fun _ => ⟨rfl, rfl⟩) rfl (by decide +kernel) rfl ?_
  refine nn_aload_n 0 dX0_init_11 rfl ?_
  refine nn_aload_n 1 dX0_init_12 rfl ?_
  refine nn_put (X2 := nx_114) dX0_init_13 np_RX0_15 rfl (by decide) (fun _ => ⟨rfl, rfl⟩) rfl (by decide +kernel) rfl ?_
  refine nn_aload_n 0 dX0_init_16 rfl ?_
  refine nn_aload_n 2 dX0_init_17 rfl ?_
  refine nn_put (X2 := nx_115) dX0_init_18 np_RX0_19 rfl (by decide) (fun _ => ⟨rfl, rfl⟩) rfl (by decide +kernel) rfl ?_
  refine nn_aload_n 0 dX0_init_21 rfl ?_
  refine nn_aload_n 3 dX0_init_22 rfl ?_
  refine nn_put (X2 := nx_116) dX0_init_23 np_RX0_23 rfl (by decide) (fun _ => ⟨rfl, rfl⟩) rfl (by decide +kernel) rfl ?_
  exact nn_vret dX0_init_26 rfl
set_option maxHeartbeats 4000000 in
set_option maxRecDepth 4000 in
theorem nc_13_X8_init (E : mm_E) (b : Nat) : nn_P E b Y_X8_init 2 19 2839 [.ref 73, .ref 22, .ref 27, .ref 37, .ref 56] nx_118 nx_140 := by
  refine nn_entry (by decide +kernel) (Nat.le_of_ble_eq_true rfl) ?_
  show nn_W E b _ _ _ _ 0 [(0, .ref 73), (1, .ref 22), (2, .ref 27), (3, .ref 37), (4, .ref 56)] [] nx_118 0 0 _
  refine nn_aload_n 0 dX8_init_0 rfl ?_
  refine nn_objInit dX8_init_1 lo0_RX8_3 wd_obj ⟨by decide, by decide⟩ ?_
  refine nn_aload_n 0 dX8_init_4 rfl ?_
  refine nn_bipush (v := 10) dX8_init_5 rfl ?_
  refine nn_bipush (v := 72) dX8_init_7 rfl ?_
  refine nn_mna (X2 := nx_119) (N := 10) (K := 72) dX8_init_9 mw_RX8_9 (by decide) (by decide) rfl rfl (by decide) ⟨by decide, by decide⟩ (by decide +kernel) rfl ?_
  rw [show nx_118.length = 74 from rfl]
  refine nn_put (X2 := nx_120) dX8_init_13 np_RX8_11 rfl (by decide) (fun _ => ⟨rfl, rfl⟩) rfl (by decide +kernel) rfl ?_
  refine nn_aload_n 0 dX8_init_16 rfl ?_
  refine nn_bipush (v := 10) dX8_init_17 rfl ?_
  refine nn_newarray (X2 := nx_121) (t := 0) (N := 10) dX8_init_19 (Or.inl ⟨rfl, rfl⟩) aw_0 (by decide) rfl (by decide) ⟨by decide, by decide⟩ (by decide +kernel) rfl ?_
  rw [show nx_120.length = 85 from rfl]
  refine nn_put (X2 := nx_122) dX8_init_21 np_RX8_16 rfl (by decide) (fun _ => ⟨rfl, rfl⟩) rfl (by decide +kernel) rfl ?_
  refine nn_aload_n 0 dX8_init_24 rfl ?_
  refine nn_bipush (v := 10) dX8_init_25 rfl ?_
  refine nn_newarray (X2 := nx_123) (t := 0) (N := 10) dX8_init_27 (Or.inl ⟨rfl, rfl⟩) aw_0 (by decide) rfl (by decide) ⟨by decide, by decide⟩ (by decide +kernel) rfl ?_
  rw [show nx_122.length = 86 from rfl]
  refine nn_put (X2 := nx_124) dX8_init_29 np_RX8_20 rfl (by decide) (fun _ => ⟨rfl, rfl⟩) rfl (by decide +kernel) rfl ?_
  refine nn_aload_n 0 dX8_init_32 rfl ?_
  refine nn_bipush (v := 10) dX8_init_33 rfl ?_
  refine nn_newarray (X2 := nx_125) (t := 0) (N := 10) dX8_init_35 (Or.inl ⟨rfl, rfl⟩) aw_0 (by decide) rfl (by decide) ⟨by decide, by decide⟩ (by decide +kernel) rfl ?_
  rw [show nx_124.length = 87 from rfl]
  refine nn_put (X2 := nx_126) dX8_init_37 np_RX8_23 rfl (by decide) (fun _ => ⟨rfl, rfl⟩) rfl (by decide +kernel) rfl ?_
  refine nn_aload_n 0 dX8_init_40 rfl ?_
  refine nn_iconst (v := 3) dX8_init_41 rfl ?_
  refine nn_newarray (X2 := nx_127) (t := 0) (N := 3) dX8_init_42 (Or.inl ⟨rfl, rfl⟩) aw_0 (by decide) rfl (by decide) ⟨by decide, by decide⟩ (by decide +kernel) rfl ?_
  rw [show nx_126.length = 88 from rfl]
  refine nn_put (X2 := nx_128) dX8_init_44 np_RX8_26 rfl (by decide) (fun _ => ⟨rfl, rfl⟩) rfl (by decide +kernel) rfl ?_
  refine nn_aload_n 0 dX8_init_47 rfl ?_
  refine nn_iconst (v := 4) dX8_init_48 rfl ?_
  refine nn_newarray (X2 := nx_129) (t := 0) (N := 4) dX8_init_49 (Or.inl ⟨rfl, rfl⟩) aw_0 (by decide) rfl (by decide) ⟨by decide, by decide⟩ (by decide +kernel) rfl ?_
  rw [show nx_128.length = 89 from rfl]
  refine nn_put (X2 := nx_130) dX8_init_51 np_RX8_29 rfl (by decide) (fun _ => ⟨rfl, rfl⟩) rfl (by decide +kernel) rfl ?_
  refine nn_aload_n 0 dX8_init_54 rfl ?_
  refine nn_bipush (v := 24) dX8_init_55 rfl ?_
  refine nn_newarray (X2 := nx_131) (t := 0) (N := 24) dX8_init_57 (Or.inl ⟨rfl, rfl⟩) aw_0 (by decide) rfl (by decide) ⟨by decide, by decide⟩ (by decide +kernel) rfl ?_
  rw [show nx_130.length = 90 from rfl]
  refine nn_put (X2 := nx_132) dX8_init_59 np_RX8_32 rfl (by decide) (fun _ => ⟨rfl, rfl⟩) rfl (by decide +kernel) rfl ?_
  refine nn_aload_n 0 dX8_init_62 rfl ?_
  refine nn_sipush (v := 1024) dX8_init_63 rfl ?_
  refine nn_newarray (X2 := nx_133) (t := 0) (N := 1024) dX8_init_66 (Or.inl ⟨rfl, rfl⟩) aw_0 (by decide) rfl (by decide) ⟨by decide, by decide⟩ (by decide +kernel) rfl ?_
  rw [show nx_132.length = 91 from rfl]
  refine nn_put (X2 := nx_134) dX8_init_68 np_RX8_35 rfl (by decide) (fun _ => ⟨rfl, rfl⟩) rfl (by decide +kernel) rfl ?_
  refine nn_aload_n 0 dX8_init_71 rfl ?_
  refine nn_sipush (v := 1024) dX8_init_72 rfl ?_
  refine nn_newarray (X2 := nx_135) (t := 0) (N := 1024) dX8_init_75 (Or.inl ⟨rfl, rfl⟩) aw_0 (by decide) rfl (by decide) ⟨by decide, by decide⟩ (by decide +kernel) rfl ?_
  rw [show nx_134.length = 92 from rfl]
  refine nn_put (X2 := nx_136) dX8_init_77 np_RX8_38 rfl (by decide) (fun _ => ⟨rfl, rfl⟩) rfl (by decide +kernel) rfl ?_
  refine nn_aload_n 0 dX8_init_80 rfl ?_
  refine nn_aload_n 1 dX8_init_81 rfl ?_
  refine nn_put (X2 := nx_137) dX8_init_82 np_RX8_41 rfl (by decide) (fun _ => ⟨rfl, rfl⟩) rfl (by decide +kernel) rfl ?_
  refine nn_aload_n 0 dX8_init_85 rfl ?_
  refine nn_aload_n 2 dX8_init_86 rfl ?_
  refine nn_put (X2 := nx_138) dX8_init_87 np_RX8_45 rfl (by decide) (fun _ => ⟨rfl, rfl⟩) rfl (by decide +kernel) rfl ?_
  refine nn_aload_n 0 dX8_init_90 rfl ?_
  refine nn_aload_n 3 dX8_init_91 rfl ?_
  refine nn_put (X2 := nx_139) dX8_init_92 np_RX8_49 rfl (by decide) (fun _ => ⟨rfl, rfl⟩) rfl (by decide +kernel) rfl ?_
  refine nn_aload_n 0 dX8_init_95 rfl ?_
  refine nn_aload 4 dX8_init_96 rfl ?_
  refine nn_put (X2 := nx_140) dX8_init_98 np_RX8_53 rfl (by decide) (fun _ => ⟨rfl, rfl⟩) rfl (by decide +kernel) rfl ?_
  exact nn_vret dX8_init_101 rfl
set_option maxHeartbeats 4000000 in
set_option maxRecDepth 4000 in
theorem nc_14_X6_init (E : mm_E) (b : Nat) : nn_P E b Y_X6_init 2 3 30 [.ref 93, .ref 22, .ref 27, .ref 56] nx_142 nx_151 := by
  refine nn_entry (by decide +kernel) (Nat.le_of_ble_eq_true rfl) ?_
  show nn_W E b _ _ _ _ 0 [(0, .ref 93), (1, .ref 22), (2, .ref 27), (3, .ref 56)] [] nx_142 0 0 _
  refine nn_aload_n 0 dX6_init_0 rfl ?_
  refine nn_objInit dX6_init_1 lo0_RX6_3 wd_obj ⟨by decide, by decide⟩ ?_
  refine nn_aload_n 0 dX6_init_4 rfl ?_
  refine nn_bipush (v := 10) dX6_init_5 rfl ?_
  refine nn_newarray (X2 := nx_143) (t := 0) (N := 10) dX6_init_7 (Or.inl ⟨rfl, rfl⟩) aw_0 (by decide) rfl (by decide) ⟨by decide, by decide⟩ (by decide +kernel) rfl ?_
  rw [show nx_142.length = 94 from rfl]
  refine nn_put (X2 := nx_144) dX6_init_9 np_RX6_9 rfl (by decide) (fun _ => ⟨rfl, rfl⟩) rfl (by decide +kernel) rfl ?_
  refine nn_aload_n 0 dX6_init_12 rfl ?_
  refine nn_bipush (v := 10) dX6_init_13 rfl ?_
  refine nn_newarray (X2 := nx_145) (t := 0) (N := 10) dX6_init_15 (Or.inl ⟨rfl, rfl⟩) aw_0 (by decide) rfl (by decide) ⟨by decide, by decide⟩ (by decide +kernel) rfl ?_
  rw [show nx_144.length = 95 from rfl]
  refine nn_put (X2 := nx_146) dX6_init_17 np_RX6_15 rfl (by decide) (fun _ => ⟨rfl, rfl⟩) rfl (by decide +kernel) rfl ?_
  refine nn_aload_n 0 dX6_init_20 rfl ?_
  refine nn_bipush (v := 10) dX6_init_21 rfl ?_
  refine nn_newarray (X2 := nx_147) (t := 0) (N := 10) dX6_init_23 (Or.inl ⟨rfl, rfl⟩) aw_0 (by decide) rfl (by decide) ⟨by decide, by decide⟩ (by decide +kernel) rfl ?_
  rw [show nx_146.length = 96 from rfl]
  refine nn_put (X2 := nx_148) dX6_init_25 np_RX6_18 rfl (by decide) (fun _ => ⟨rfl, rfl⟩) rfl (by decide +kernel) rfl ?_
  refine nn_aload_n 0 dX6_init_28 rfl ?_
  refine nn_aload_n 1 dX6_init_29 rfl ?_
  refine nn_put (X2 := nx_149) dX6_init_30 np_RX6_21 rfl (by decide) (fun _ => ⟨rfl, rfl⟩) rfl (by decide +kernel) rfl ?_
  refine nn_aload_n 0 dX6_init_33 rfl ?_
  refine nn_aload_n 2 dX6_init_34 rfl ?_
  refine nn_put (X2 := nx_150) dX6_init_35 np_RX6_25 rfl (by decide) (fun _ => ⟨rfl, rfl⟩) rfl (by decide +kernel) rfl ?_
  refine nn_aload_n 0 dX6_init_38 rfl ?_
  refine nn_aload_n 3 dX6_init_39 rfl ?_
  refine nn_put (X2 := nx_151) dX6_init_40 np_RX6_29 rfl (by decide) (fun _ => ⟨rfl, rfl⟩) rfl (by decide +kernel) rfl ?_
  exact nn_vret dX6_init_43 rfl
set_option maxHeartbeats 4000000 in
set_option maxRecDepth 4000 in
theorem nc_0_X11_init (E : mm_E) (b : Nat) : nn_P E b Y_X11_init 3 96 6235 [.ref 0] nx_1 nx_152 := by
  refine nn_entry (by decide +kernel) (Nat.le_of_ble_eq_true rfl) ?_
  show nn_W E b _ _ _ _ 0 [(0, .ref 0)] [] nx_1 0 0 _
  refine nn_aload_n 0 dX11_init_0 rfl ?_
  refine nn_objInit dX11_init_1 lo0_RX11_3 wd_obj ⟨by decide, by decide⟩ ?_
  refine nn_aload_n 0 dX11_init_4 rfl ?_
  refine nn_new (X2 := nx_2) dX11_init_5 cf_9 nw_RX11_9 nf_9 (fun _ => rfl) ⟨by decide, by decide⟩ (by decide +kernel) rfl ?_
  rw [show nx_1.length = 1 from rfl]
  refine nn_dup dX11_init_8 rfl ?_
  refine nn_callIN (as := []) (st := [.ref 1, .ref 0]) (nc_1_X9_init E b) dX11_init_9 mz_X9_init lk_RX11_11 im_X9_init ⟨rfl, rfl⟩ rfl ⟨by decide, by decide⟩ (by decide) ⟨by decide, by decide⟩ ?_
  refine nn_put (X2 := nx_5) dX11_init_12 np_RX11_12 rfl (by decide) (fun _ => ⟨rfl, rfl⟩) rfl (by decide +kernel) rfl ?_
  refine nn_new (X2 := nx_6) dX11_init_15 cf_10 nw_RX11_16 nf_10 (fun _ => rfl) ⟨by decide, by decide⟩ (by decide +kernel) rfl ?_
  rw [show nx_5.length = 3 from rfl]
  refine nn_dup dX11_init_18 rfl ?_
  refine nn_aload_n 0 dX11_init_19 rfl ?_
  refine nn_getf (v := .ref 1) dX11_init_20 fl_RX11_12 rfl rfl ?_
  refine nn_callI (as := [.ref 1]) (st := [.ref 3]) (nc_2_X10_init E b) dX11_init_23 mz_X10_init lk_RX11_18 im_X10_init ⟨rfl, rfl⟩ rfl ⟨by decide, by decide⟩ (by decide) ⟨by decide, by decide⟩ ?_
  refine nn_astore_n [1, 0] (lv2 := [(0, .ref 0), (1, .ref 3)]) dX11_init_26 (by decide) rfl ?_
  refine nn_aload_n 0 dX11_init_27 rfl ?_
  refine nn_new (X2 := nx_8) dX11_init_28 cf_1 nw_RX11_21 nf_1 (fun _ => rfl) ⟨by decide, by decide⟩ (by decide +kernel) rfl ?_
  rw [show nx_7.length = 4 from rfl]
  refine nn_dup dX11_init_31 rfl ?_
  refine nn_aload_n 1 dX11_init_32 rfl ?_
  refine nn_callI (as := [.ref 3]) (st := [.ref 4, .ref 0]) (nc_3_X1_init E b) dX11_init_33 mz_X1_init lk_RX11_23 im_X1_init ⟨rfl, rfl⟩ rfl ⟨by decide, by decide⟩ (by decide) ⟨by decide, by decide⟩ ?_
  refine nn_put (X2 := nx_20) dX11_init_36 np_RX11_26 rfl (by decide) (fun _ => ⟨rfl, rfl⟩) rfl (by decide +kernel) rfl ?_
  refine nn_aload_n 0 dX11_init_39 rfl ?_
  refine nn_new (X2 := nx_21) dX11_init_40 cf_2 nw_RX11_30 nf_2 (fun _ => rfl) ⟨by decide, by decide⟩ (by decide +kernel) rfl ?_
  rw [show nx_20.length = 22 from rfl]
  refine nn_dup dX11_init_43 rfl ?_
  refine nn_callI (as := []) (st := [.ref 22, .ref 0]) (nc_4_X2_init E b) dX11_init_44 mz_X2_init lk_RX11_32 im_X2_init ⟨rfl, rfl⟩ rfl ⟨by decide, by decide⟩ (by decide) ⟨by decide, by decide⟩ ?_
  refine nn_put (X2 := nx_35) dX11_init_47 np_RX11_33 rfl (by decide) (fun _ => ⟨rfl, rfl⟩) rfl (by decide +kernel) rfl ?_
  refine nn_aload_n 0 dX11_init_50 rfl ?_
  refine nn_new (X2 := nx_36) dX11_init_51 cf_7 nw_RX11_37 nf_7 (fun _ => rfl) ⟨by decide, by decide⟩ (by decide +kernel) rfl ?_
  rw [show nx_35.length = 27 from rfl]
  refine nn_dup dX11_init_54 rfl ?_
  refine nn_callIN (as := []) (st := [.ref 27, .ref 0]) (nc_6_X7_init E b) dX11_init_55 mz_X7_init lk_RX11_39 im_X7_init ⟨rfl, rfl⟩ rfl ⟨by decide, by decide⟩ (by decide) ⟨by decide, by decide⟩ ?_
  refine nn_put (X2 := nx_46) dX11_init_58 np_RX11_40 rfl (by decide) (fun _ => ⟨rfl, rfl⟩) rfl (by decide +kernel) rfl ?_
  refine nn_aload_n 0 dX11_init_61 rfl ?_
  refine nn_new (X2 := nx_47) dX11_init_62 cf_7 nw_RX11_37 nf_7 (fun _ => rfl) ⟨by decide, by decide⟩ (by decide +kernel) rfl ?_
  rw [show nx_46.length = 32 from rfl]
  refine nn_dup dX11_init_65 rfl ?_
  refine nn_callIN (as := []) (st := [.ref 32, .ref 0]) (nc_7_X7_init E b) dX11_init_66 mz_X7_init lk_RX11_39 im_X7_init ⟨rfl, rfl⟩ rfl ⟨by decide, by decide⟩ (by decide) ⟨by decide, by decide⟩ ?_
  refine nn_put (X2 := nx_57) dX11_init_69 np_RX11_44 rfl (by decide) (fun _ => ⟨rfl, rfl⟩) rfl (by decide +kernel) rfl ?_
  refine nn_aload_n 0 dX11_init_72 rfl ?_
  refine nn_new (X2 := nx_58) dX11_init_73 cf_3 nw_RX11_47 nf_3 (fun _ => rfl) ⟨by decide, by decide⟩ (by decide +kernel) rfl ?_
  rw [show nx_57.length = 37 from rfl]
  refine nn_dup dX11_init_76 rfl ?_
  refine nn_callIN (as := []) (st := [.ref 37, .ref 0]) (nc_8_X3_init E b) dX11_init_77 mz_X3_init lk_RX11_49 im_X3_init ⟨rfl, rfl⟩ rfl ⟨by decide, by decide⟩ (by decide) ⟨by decide, by decide⟩ ?_
  refine nn_put (X2 := nx_75) dX11_init_80 np_RX11_50 rfl (by decide) (fun _ => ⟨rfl, rfl⟩) rfl (by decide +kernel) rfl ?_
  refine nn_aload_n 0 dX11_init_83 rfl ?_
  refine nn_new (X2 := nx_76) dX11_init_84 cf_3 nw_RX11_47 nf_3 (fun _ => rfl) ⟨by decide, by decide⟩ (by decide +kernel) rfl ?_
  rw [show nx_75.length = 46 from rfl]
  refine nn_dup dX11_init_87 rfl ?_
  refine nn_callIN (as := []) (st := [.ref 46, .ref 0]) (nc_9_X3_init E b) dX11_init_88 mz_X3_init lk_RX11_49 im_X3_init ⟨rfl, rfl⟩ rfl ⟨by decide, by decide⟩ (by decide) ⟨by decide, by decide⟩ ?_
  refine nn_put (X2 := nx_93) dX11_init_91 np_RX11_54 rfl (by decide) (fun _ => ⟨rfl, rfl⟩) rfl (by decide +kernel) rfl ?_
  refine nn_aload_n 0 dX11_init_94 rfl ?_
  refine nn_new (X2 := nx_94) dX11_init_95 cf_4 nw_RX11_57 nf_4 (fun _ => rfl) ⟨by decide, by decide⟩ (by decide +kernel) rfl ?_
  rw [show nx_93.length = 55 from rfl]
  refine nn_dup dX11_init_98 rfl ?_
  refine nn_aload_n 1 dX11_init_99 rfl ?_
  refine nn_aload_n 0 dX11_init_100 rfl ?_
  refine nn_getf (v := .ref 46) dX11_init_101 fl_RX11_54 rfl rfl ?_
  refine nn_callI (as := [.ref 3, .ref 46]) (st := [.ref 55, .ref 0]) (nc_10_X4_init E b) dX11_init_104 mz_X4_init lk_RX11_59 im_X4_init ⟨rfl, rfl⟩ rfl ⟨by decide, by decide⟩ (by decide) ⟨by decide, by decide⟩ ?_
  refine nn_put (X2 := nx_97) dX11_init_107 np_RX11_62 rfl (by decide) (fun _ => ⟨rfl, rfl⟩) rfl (by decide +kernel) rfl ?_
  refine nn_aload_n 0 dX11_init_110 rfl ?_
  refine nn_new (X2 := nx_98) dX11_init_111 cf_5 nw_RX11_66 nf_5 (fun _ => rfl) ⟨by decide, by decide⟩ (by decide +kernel) rfl ?_
  rw [show nx_97.length = 56 from rfl]
  refine nn_dup dX11_init_114 rfl ?_
  refine nn_aload_n 0 dX11_init_115 rfl ?_
  refine nn_getf (v := .ref 22) dX11_init_116 fl_RX11_33 rfl rfl ?_
  refine nn_aload_n 0 dX11_init_119 rfl ?_
  refine nn_getf (v := .ref 27) dX11_init_120 fl_RX11_40 rfl rfl ?_
  refine nn_aload_n 0 dX11_init_123 rfl ?_
  refine nn_getf (v := .ref 4) dX11_init_124 fl_RX11_26 rfl rfl ?_
  refine nn_callI (as := [.ref 22, .ref 27, .ref 4]) (st := [.ref 56, .ref 0]) (nc_11_X5_init E b) dX11_init_127 mz_X5_init lk_RX11_68 im_X5_init ⟨rfl, rfl⟩ rfl ⟨by decide, by decide⟩ (by decide) ⟨by decide, by decide⟩ ?_
  refine nn_put (X2 := nx_110) dX11_init_130 np_RX11_71 rfl (by decide) (fun _ => ⟨rfl, rfl⟩) rfl (by decide +kernel) rfl ?_
  refine nn_aload_n 0 dX11_init_133 rfl ?_
  refine nn_new (X2 := nx_111) dX11_init_134 cf_0 nw_RX11_75 nf_0 (fun _ => rfl) ⟨by decide, by decide⟩ (by decide +kernel) rfl ?_
  rw [show nx_110.length = 71 from rfl]
  refine nn_dup dX11_init_137 rfl ?_
  refine nn_aload_n 0 dX11_init_138 rfl ?_
  refine nn_getf (v := .ref 22) dX11_init_139 fl_RX11_33 rfl rfl ?_
  refine nn_aload_n 0 dX11_init_142 rfl ?_
  refine nn_getf (v := .ref 27) dX11_init_143 fl_RX11_40 rfl rfl ?_
  refine nn_aload_n 0 dX11_init_146 rfl ?_
  refine nn_getf (v := .ref 56) dX11_init_147 fl_RX11_71 rfl rfl ?_
  refine nn_callI (as := [.ref 22, .ref 27, .ref 56]) (st := [.ref 71, .ref 0]) (nc_12_X0_init E b) dX11_init_150 mz_X0_init lk_RX11_77 im_X0_init ⟨rfl, rfl⟩ rfl ⟨by decide, by decide⟩ (by decide) ⟨by decide, by decide⟩ ?_
  refine nn_put (X2 := nx_117) dX11_init_153 np_RX11_80 rfl (by decide) (fun _ => ⟨rfl, rfl⟩) rfl (by decide +kernel) rfl ?_
  refine nn_aload_n 0 dX11_init_156 rfl ?_
  refine nn_new (X2 := nx_118) dX11_init_157 cf_8 nw_RX11_84 nf_8 (fun _ => rfl) ⟨by decide, by decide⟩ (by decide +kernel) rfl ?_
  rw [show nx_117.length = 73 from rfl]
  refine nn_dup dX11_init_160 rfl ?_
  refine nn_aload_n 0 dX11_init_161 rfl ?_
  refine nn_getf (v := .ref 22) dX11_init_162 fl_RX11_33 rfl rfl ?_
  refine nn_aload_n 0 dX11_init_165 rfl ?_
  refine nn_getf (v := .ref 27) dX11_init_166 fl_RX11_40 rfl rfl ?_
  refine nn_aload_n 0 dX11_init_169 rfl ?_
  refine nn_getf (v := .ref 37) dX11_init_170 fl_RX11_50 rfl rfl ?_
  refine nn_aload_n 0 dX11_init_173 rfl ?_
  refine nn_getf (v := .ref 56) dX11_init_174 fl_RX11_71 rfl rfl ?_
  refine nn_callI (as := [.ref 22, .ref 27, .ref 37, .ref 56]) (st := [.ref 73, .ref 0]) (nc_13_X8_init E b) dX11_init_177 mz_X8_init lk_RX11_86 im_X8_init ⟨rfl, rfl⟩ rfl ⟨by decide, by decide⟩ (by decide) ⟨by decide, by decide⟩ ?_
  refine nn_put (X2 := nx_141) dX11_init_180 np_RX11_89 rfl (by decide) (fun _ => ⟨rfl, rfl⟩) rfl (by decide +kernel) rfl ?_
  refine nn_aload_n 0 dX11_init_183 rfl ?_
  refine nn_new (X2 := nx_142) dX11_init_184 cf_6 nw_RX11_93 nf_6 (fun _ => rfl) ⟨by decide, by decide⟩ (by decide +kernel) rfl ?_
  rw [show nx_141.length = 93 from rfl]
  refine nn_dup dX11_init_187 rfl ?_
  refine nn_aload_n 0 dX11_init_188 rfl ?_
  refine nn_getf (v := .ref 22) dX11_init_189 fl_RX11_33 rfl rfl ?_
  refine nn_aload_n 0 dX11_init_192 rfl ?_
  refine nn_getf (v := .ref 27) dX11_init_193 fl_RX11_40 rfl rfl ?_
  refine nn_aload_n 0 dX11_init_196 rfl ?_
  refine nn_getf (v := .ref 56) dX11_init_197 fl_RX11_71 rfl rfl ?_
  refine nn_callI (as := [.ref 22, .ref 27, .ref 56]) (st := [.ref 93, .ref 0]) (nc_14_X6_init E b) dX11_init_200 mz_X6_init lk_RX11_95 im_X6_init ⟨rfl, rfl⟩ rfl ⟨by decide, by decide⟩ (by decide) ⟨by decide, by decide⟩ ?_
  refine nn_put (X2 := nx_152) dX11_init_203 np_RX11_96 rfl (by decide) (fun _ => ⟨rfl, rfl⟩) rfl (by decide +kernel) rfl ?_
  exact nn_vret dX11_init_206 rfl
set_option maxHeartbeats 4000000 in
set_option maxRecDepth 4000 in
theorem nc_15_X12_init (E : mm_E) (b : Nat) : nn_P E b Y_X12_init 2 42 2890 [.ref 97] nx_153 nx_243 := by
  refine nn_entry (by decide +kernel) (Nat.le_of_ble_eq_true rfl) ?_
  show nn_W E b _ _ _ _ 0 [(0, .ref 97)] [] nx_153 0 0 _
  refine nn_aload_n 0 dX12_init_0 rfl ?_
  refine nn_objInit dX12_init_1 lo0_RX12_1 wd_obj ⟨by decide, by decide⟩ ?_
  refine nn_aload_n 0 dX12_init_4 rfl ?_
  refine nn_sipush (v := 200) dX12_init_5 rfl ?_
  refine nn_newarray (X2 := nx_154) (t := 1) (N := 200) dX12_init_8 (Or.inr ⟨rfl, rfl⟩) aw_1 (by decide) rfl (by decide) ⟨by decide, by decide⟩ (by decide +kernel) rfl ?_
  rw [show nx_153.length = 98 from rfl]
  refine nn_put (X2 := nx_155) dX12_init_10 np_RX12_7 rfl (by decide) (fun _ => ⟨rfl, rfl⟩) rfl (by decide +kernel) rfl ?_
  refine nn_aload_n 0 dX12_init_13 rfl ?_
  refine nn_sipush (v := 864) dX12_init_14 rfl ?_
  refine nn_newarray (X2 := nx_156) (t := 0) (N := 864) dX12_init_17 (Or.inl ⟨rfl, rfl⟩) aw_0 (by decide) rfl (by decide) ⟨by decide, by decide⟩ (by decide +kernel) rfl ?_
  rw [show nx_155.length = 99 from rfl]
  refine nn_put (X2 := nx_157) dX12_init_19 np_RX12_13 rfl (by decide) (fun _ => ⟨rfl, rfl⟩) rfl (by decide +kernel) rfl ?_
  refine nn_aload_n 0 dX12_init_22 rfl ?_
  refine nn_bipush (v := 72) dX12_init_23 rfl ?_
  refine nn_newarray (X2 := nx_158) (t := 0) (N := 72) dX12_init_25 (Or.inl ⟨rfl, rfl⟩) aw_0 (by decide) rfl (by decide) ⟨by decide, by decide⟩ (by decide +kernel) rfl ?_
  rw [show nx_157.length = 100 from rfl]
  refine nn_put (X2 := nx_159) dX12_init_27 np_RX12_17 rfl (by decide) (fun _ => ⟨rfl, rfl⟩) rfl (by decide +kernel) rfl ?_
  refine nn_aload_n 0 dX12_init_30 rfl ?_
  refine nn_bipush (v := 10) dX12_init_31 rfl ?_
  refine nn_newarray (X2 := nx_160) (t := 0) (N := 10) dX12_init_33 (Or.inl ⟨rfl, rfl⟩) aw_0 (by decide) rfl (by decide) ⟨by decide, by decide⟩ (by decide +kernel) rfl ?_
  rw [show nx_159.length = 101 from rfl]
  refine nn_put (X2 := nx_161) dX12_init_35 np_RX12_20 rfl (by decide) (fun _ => ⟨rfl, rfl⟩) rfl (by decide +kernel) rfl ?_
  refine nn_aload_n 0 dX12_init_38 rfl ?_
  refine nn_iconst (v := 3) dX12_init_39 rfl ?_
  refine nn_newarray (X2 := nx_162) (t := 0) (N := 3) dX12_init_40 (Or.inl ⟨rfl, rfl⟩) aw_0 (by decide) rfl (by decide) ⟨by decide, by decide⟩ (by decide +kernel) rfl ?_
  rw [show nx_161.length = 102 from rfl]
  refine nn_put (X2 := nx_163) dX12_init_42 np_RX12_23 rfl (by decide) (fun _ => ⟨rfl, rfl⟩) rfl (by decide +kernel) rfl ?_
  refine nn_aload_n 0 dX12_init_45 rfl ?_
  refine nn_iconst (v := 3) dX12_init_46 rfl ?_
  refine nn_newarray (X2 := nx_164) (t := 0) (N := 3) dX12_init_47 (Or.inl ⟨rfl, rfl⟩) aw_0 (by decide) rfl (by decide) ⟨by decide, by decide⟩ (by decide +kernel) rfl ?_
  rw [show nx_163.length = 103 from rfl]
  refine nn_put (X2 := nx_165) dX12_init_49 np_RX12_26 rfl (by decide) (fun _ => ⟨rfl, rfl⟩) rfl (by decide +kernel) rfl ?_
  refine nn_aload_n 0 dX12_init_52 rfl ?_
  refine nn_iconst (v := 4) dX12_init_53 rfl ?_
  refine nn_newarray (X2 := nx_166) (t := 0) (N := 4) dX12_init_54 (Or.inl ⟨rfl, rfl⟩) aw_0 (by decide) rfl (by decide) ⟨by decide, by decide⟩ (by decide +kernel) rfl ?_
  rw [show nx_165.length = 104 from rfl]
  refine nn_put (X2 := nx_167) dX12_init_56 np_RX12_29 rfl (by decide) (fun _ => ⟨rfl, rfl⟩) rfl (by decide +kernel) rfl ?_
  refine nn_aload_n 0 dX12_init_59 rfl ?_
  refine nn_bipush (v := 10) dX12_init_60 rfl ?_
  refine nn_newarray (X2 := nx_168) (t := 0) (N := 10) dX12_init_62 (Or.inl ⟨rfl, rfl⟩) aw_0 (by decide) rfl (by decide) ⟨by decide, by decide⟩ (by decide +kernel) rfl ?_
  rw [show nx_167.length = 105 from rfl]
  refine nn_put (X2 := nx_169) dX12_init_64 np_RX12_32 rfl (by decide) (fun _ => ⟨rfl, rfl⟩) rfl (by decide +kernel) rfl ?_
  refine nn_aload_n 0 dX12_init_67 rfl ?_
  refine nn_bipush (v := 10) dX12_init_68 rfl ?_
  refine nn_newarray (X2 := nx_170) (t := 0) (N := 10) dX12_init_70 (Or.inl ⟨rfl, rfl⟩) aw_0 (by decide) rfl (by decide) ⟨by decide, by decide⟩ (by decide +kernel) rfl ?_
  rw [show nx_169.length = 106 from rfl]
  refine nn_put (X2 := nx_171) dX12_init_72 np_RX12_35 rfl (by decide) (fun _ => ⟨rfl, rfl⟩) rfl (by decide +kernel) rfl ?_
  refine nn_aload_n 0 dX12_init_75 rfl ?_
  refine nn_bipush (v := 10) dX12_init_76 rfl ?_
  refine nn_newarray (X2 := nx_172) (t := 0) (N := 10) dX12_init_78 (Or.inl ⟨rfl, rfl⟩) aw_0 (by decide) rfl (by decide) ⟨by decide, by decide⟩ (by decide +kernel) rfl ?_
  rw [show nx_171.length = 107 from rfl]
  refine nn_put (X2 := nx_173) dX12_init_80 np_RX12_38 rfl (by decide) (fun _ => ⟨rfl, rfl⟩) rfl (by decide +kernel) rfl ?_
  refine nn_aload_n 0 dX12_init_83 rfl ?_
  refine nn_bipush (v := 10) dX12_init_84 rfl ?_
  refine nn_newarray (X2 := nx_174) (t := 0) (N := 10) dX12_init_86 (Or.inl ⟨rfl, rfl⟩) aw_0 (by decide) rfl (by decide) ⟨by decide, by decide⟩ (by decide +kernel) rfl ?_
  rw [show nx_173.length = 108 from rfl]
  refine nn_put (X2 := nx_175) dX12_init_88 np_RX12_41 rfl (by decide) (fun _ => ⟨rfl, rfl⟩) rfl (by decide +kernel) rfl ?_
  refine nn_aload_n 0 dX12_init_91 rfl ?_
  refine nn_sipush (v := 180) dX12_init_92 rfl ?_
  refine nn_newarray (X2 := nx_176) (t := 0) (N := 180) dX12_init_95 (Or.inl ⟨rfl, rfl⟩) aw_0 (by decide) rfl (by decide) ⟨by decide, by decide⟩ (by decide +kernel) rfl ?_
  rw [show nx_175.length = 109 from rfl]
  refine nn_put (X2 := nx_177) dX12_init_97 np_RX12_44 rfl (by decide) (fun _ => ⟨rfl, rfl⟩) rfl (by decide +kernel) rfl ?_
  refine nn_aload_n 0 dX12_init_100 rfl ?_
  refine nn_sipush (v := 180) dX12_init_101 rfl ?_
  refine nn_newarray (X2 := nx_178) (t := 0) (N := 180) dX12_init_104 (Or.inl ⟨rfl, rfl⟩) aw_0 (by decide) rfl (by decide) ⟨by decide, by decide⟩ (by decide +kernel) rfl ?_
  rw [show nx_177.length = 110 from rfl]
  refine nn_put (X2 := nx_179) dX12_init_106 np_RX12_47 rfl (by decide) (fun _ => ⟨rfl, rfl⟩) rfl (by decide +kernel) rfl ?_
  refine nn_aload_n 0 dX12_init_109 rfl ?_
  refine nn_bipush (v := 12) dX12_init_110 rfl ?_
  refine nn_newarray (X2 := nx_180) (t := 0) (N := 12) dX12_init_112 (Or.inl ⟨rfl, rfl⟩) aw_0 (by decide) rfl (by decide) ⟨by decide, by decide⟩ (by decide +kernel) rfl ?_
  rw [show nx_179.length = 111 from rfl]
  refine nn_put (X2 := nx_181) dX12_init_114 np_RX12_50 rfl (by decide) (fun _ => ⟨rfl, rfl⟩) rfl (by decide +kernel) rfl ?_
  refine nn_aload_n 0 dX12_init_117 rfl ?_
  refine nn_bipush (v := 12) dX12_init_118 rfl ?_
  refine nn_newarray (X2 := nx_182) (t := 0) (N := 12) dX12_init_120 (Or.inl ⟨rfl, rfl⟩) aw_0 (by decide) rfl (by decide) ⟨by decide, by decide⟩ (by decide +kernel) rfl ?_
  rw [show nx_181.length = 112 from rfl]
  refine nn_put (X2 := nx_183) dX12_init_122 np_RX12_53 rfl (by decide) (fun _ => ⟨rfl, rfl⟩) rfl (by decide +kernel) rfl ?_
  refine nn_aload_n 0 dX12_init_125 rfl ?_
  refine nn_bipush (v := 12) dX12_init_126 rfl ?_
  refine nn_newarray (X2 := nx_184) (t := 0) (N := 12) dX12_init_128 (Or.inl ⟨rfl, rfl⟩) aw_0 (by decide) rfl (by decide) ⟨by decide, by decide⟩ (by decide +kernel) rfl ?_
  rw [show nx_183.length = 113 from rfl]
  refine nn_put (X2 := nx_185) dX12_init_130 np_RX12_56 rfl (by decide) (fun _ => ⟨rfl, rfl⟩) rfl (by decide +kernel) rfl ?_
  refine nn_aload_n 0 dX12_init_133 rfl ?_
  refine nn_bipush (v := 12) dX12_init_134 rfl ?_
  refine nn_newarray (X2 := nx_186) (t := 0) (N := 12) dX12_init_136 (Or.inl ⟨rfl, rfl⟩) aw_0 (by decide) rfl (by decide) ⟨by decide, by decide⟩ (by decide +kernel) rfl ?_
  rw [show nx_185.length = 114 from rfl]
  refine nn_put (X2 := nx_187) dX12_init_138 np_RX12_59 rfl (by decide) (fun _ => ⟨rfl, rfl⟩) rfl (by decide +kernel) rfl ?_
  refine nn_aload_n 0 dX12_init_141 rfl ?_
  refine nn_sipush (v := 180) dX12_init_142 rfl ?_
  refine nn_newarray (X2 := nx_188) (t := 0) (N := 180) dX12_init_145 (Or.inl ⟨rfl, rfl⟩) aw_0 (by decide) rfl (by decide) ⟨by decide, by decide⟩ (by decide +kernel) rfl ?_
  rw [show nx_187.length = 115 from rfl]
  refine nn_put (X2 := nx_189) dX12_init_147 np_RX12_62 rfl (by decide) (fun _ => ⟨rfl, rfl⟩) rfl (by decide +kernel) rfl ?_
  refine nn_aload_n 0 dX12_init_150 rfl ?_
  refine nn_bipush (v := 12) dX12_init_151 rfl ?_
  refine nn_newarray (X2 := nx_190) (t := 0) (N := 12) dX12_init_153 (Or.inl ⟨rfl, rfl⟩) aw_0 (by decide) rfl (by decide) ⟨by decide, by decide⟩ (by decide +kernel) rfl ?_
  rw [show nx_189.length = 116 from rfl]
  refine nn_put (X2 := nx_191) dX12_init_155 np_RX12_65 rfl (by decide) (fun _ => ⟨rfl, rfl⟩) rfl (by decide +kernel) rfl ?_
  refine nn_aload_n 0 dX12_init_158 rfl ?_
  refine nn_bipush (v := 12) dX12_init_159 rfl ?_
  refine nn_newarray (X2 := nx_192) (t := 0) (N := 12) dX12_init_161 (Or.inl ⟨rfl, rfl⟩) aw_0 (by decide) rfl (by decide) ⟨by decide, by decide⟩ (by decide +kernel) rfl ?_
  rw [show nx_191.length = 117 from rfl]
  refine nn_put (X2 := nx_193) dX12_init_163 np_RX12_68 rfl (by decide) (fun _ => ⟨rfl, rfl⟩) rfl (by decide +kernel) rfl ?_
  refine nn_aload_n 0 dX12_init_166 rfl ?_
  refine nn_bipush (v := 12) dX12_init_167 rfl ?_
  refine nn_newarray (X2 := nx_194) (t := 0) (N := 12) dX12_init_169 (Or.inl ⟨rfl, rfl⟩) aw_0 (by decide) rfl (by decide) ⟨by decide, by decide⟩ (by decide +kernel) rfl ?_
  rw [show nx_193.length = 118 from rfl]
  refine nn_put (X2 := nx_195) dX12_init_171 np_RX12_71 rfl (by decide) (fun _ => ⟨rfl, rfl⟩) rfl (by decide +kernel) rfl ?_
  refine nn_aload_n 0 dX12_init_174 rfl ?_
  refine nn_bipush (v := 12) dX12_init_175 rfl ?_
  refine nn_newarray (X2 := nx_196) (t := 0) (N := 12) dX12_init_177 (Or.inl ⟨rfl, rfl⟩) aw_0 (by decide) rfl (by decide) ⟨by decide, by decide⟩ (by decide +kernel) rfl ?_
  rw [show nx_195.length = 119 from rfl]
  refine nn_put (X2 := nx_197) dX12_init_179 np_RX12_74 rfl (by decide) (fun _ => ⟨rfl, rfl⟩) rfl (by decide +kernel) rfl ?_
  refine nn_aload_n 0 dX12_init_182 rfl ?_
  refine nn_sipush (v := 180) dX12_init_183 rfl ?_
  refine nn_newarray (X2 := nx_198) (t := 0) (N := 180) dX12_init_186 (Or.inl ⟨rfl, rfl⟩) aw_0 (by decide) rfl (by decide) ⟨by decide, by decide⟩ (by decide +kernel) rfl ?_
  rw [show nx_197.length = 120 from rfl]
  refine nn_put (X2 := nx_199) dX12_init_188 np_RX12_77 rfl (by decide) (fun _ => ⟨rfl, rfl⟩) rfl (by decide +kernel) rfl ?_
  refine nn_aload_n 0 dX12_init_191 rfl ?_
  refine nn_bipush (v := 9) dX12_init_192 rfl ?_
  refine nn_newarray (X2 := nx_200) (t := 0) (N := 9) dX12_init_194 (Or.inl ⟨rfl, rfl⟩) aw_0 (by decide) rfl (by decide) ⟨by decide, by decide⟩ (by decide +kernel) rfl ?_
  rw [show nx_199.length = 121 from rfl]
  refine nn_put (X2 := nx_201) dX12_init_196 np_RX12_80 rfl (by decide) (fun _ => ⟨rfl, rfl⟩) rfl (by decide +kernel) rfl ?_
  refine nn_aload_n 0 dX12_init_199 rfl ?_
  refine nn_bipush (v := 10) dX12_init_200 rfl ?_
  refine nn_newarray (X2 := nx_202) (t := 0) (N := 10) dX12_init_202 (Or.inl ⟨rfl, rfl⟩) aw_0 (by decide) rfl (by decide) ⟨by decide, by decide⟩ (by decide +kernel) rfl ?_
  rw [show nx_201.length = 122 from rfl]
  refine nn_put (X2 := nx_203) dX12_init_204 np_RX12_83 rfl (by decide) (fun _ => ⟨rfl, rfl⟩) rfl (by decide +kernel) rfl ?_
  refine nn_aload_n 0 dX12_init_207 rfl ?_
  refine nn_bipush (v := 10) dX12_init_208 rfl ?_
  refine nn_newarray (X2 := nx_204) (t := 0) (N := 10) dX12_init_210 (Or.inl ⟨rfl, rfl⟩) aw_0 (by decide) rfl (by decide) ⟨by decide, by decide⟩ (by decide +kernel) rfl ?_
  rw [show nx_203.length = 123 from rfl]
  refine nn_put (X2 := nx_205) dX12_init_212 np_RX12_86 rfl (by decide) (fun _ => ⟨rfl, rfl⟩) rfl (by decide +kernel) rfl ?_
  refine nn_aload_n 0 dX12_init_215 rfl ?_
  refine nn_iconst (v := 3) dX12_init_216 rfl ?_
  refine nn_newarray (X2 := nx_206) (t := 0) (N := 3) dX12_init_217 (Or.inl ⟨rfl, rfl⟩) aw_0 (by decide) rfl (by decide) ⟨by decide, by decide⟩ (by decide +kernel) rfl ?_
  rw [show nx_205.length = 124 from rfl]
  refine nn_put (X2 := nx_207) dX12_init_219 np_RX12_89 rfl (by decide) (fun _ => ⟨rfl, rfl⟩) rfl (by decide +kernel) rfl ?_
  refine nn_aload_n 0 dX12_init_222 rfl ?_
  refine nn_iconst (v := 4) dX12_init_223 rfl ?_
  refine nn_newarray (X2 := nx_208) (t := 0) (N := 4) dX12_init_224 (Or.inl ⟨rfl, rfl⟩) aw_0 (by decide) rfl (by decide) ⟨by decide, by decide⟩ (by decide +kernel) rfl ?_
  rw [show nx_207.length = 125 from rfl]
  refine nn_put (X2 := nx_209) dX12_init_226 np_RX12_92 rfl (by decide) (fun _ => ⟨rfl, rfl⟩) rfl (by decide +kernel) rfl ?_
  refine nn_aload_n 0 dX12_init_229 rfl ?_
  refine nn_sipush (v := 720) dX12_init_230 rfl ?_
  refine nn_newarray (X2 := nx_210) (t := 0) (N := 720) dX12_init_233 (Or.inl ⟨rfl, rfl⟩) aw_0 (by decide) rfl (by decide) ⟨by decide, by decide⟩ (by decide +kernel) rfl ?_
  rw [show nx_209.length = 126 from rfl]
  refine nn_put (X2 := nx_211) dX12_init_235 np_RX12_95 rfl (by decide) (fun _ => ⟨rfl, rfl⟩) rfl (by decide +kernel) rfl ?_
  refine nn_aload_n 0 dX12_init_238 rfl ?_
  refine nn_bipush (v := 10) dX12_init_239 rfl ?_
  refine nn_newarray (X2 := nx_212) (t := 0) (N := 10) dX12_init_241 (Or.inl ⟨rfl, rfl⟩) aw_0 (by decide) rfl (by decide) ⟨by decide, by decide⟩ (by decide +kernel) rfl ?_
  rw [show nx_211.length = 127 from rfl]
  refine nn_put (X2 := nx_213) dX12_init_243 np_RX12_98 rfl (by decide) (fun _ => ⟨rfl, rfl⟩) rfl (by decide +kernel) rfl ?_
  refine nn_aload_n 0 dX12_init_246 rfl ?_
  refine nn_bipush (v := 10) dX12_init_247 rfl ?_
  refine nn_newarray (X2 := nx_214) (t := 0) (N := 10) dX12_init_249 (Or.inl ⟨rfl, rfl⟩) aw_0 (by decide) rfl (by decide) ⟨by decide, by decide⟩ (by decide +kernel) rfl ?_
  rw [show nx_213.length = 128 from rfl]
  refine nn_put (X2 := nx_215) dX12_init_251 np_RX12_101 rfl (by decide) (fun _ => ⟨rfl, rfl⟩) rfl (by decide +kernel) rfl ?_
  refine nn_aload_n 0 dX12_init_254 rfl ?_
  refine nn_bipush (v := 6) dX12_init_255 rfl ?_
  refine nn_newarray (X2 := nx_216) (t := 0) (N := 6) dX12_init_257 (Or.inl ⟨rfl, rfl⟩) aw_0 (by decide) rfl (by decide) ⟨by decide, by decide⟩ (by decide +kernel) rfl ?_
  rw [show nx_215.length = 129 from rfl]
  refine nn_put (X2 := nx_217) dX12_init_259 np_RX12_104 rfl (by decide) (fun _ => ⟨rfl, rfl⟩) rfl (by decide +kernel) rfl ?_
  refine nn_aload_n 0 dX12_init_262 rfl ?_
  refine nn_bipush (v := 10) dX12_init_263 rfl ?_
  refine nn_newarray (X2 := nx_218) (t := 0) (N := 10) dX12_init_265 (Or.inl ⟨rfl, rfl⟩) aw_0 (by decide) rfl (by decide) ⟨by decide, by decide⟩ (by decide +kernel) rfl ?_
  rw [show nx_217.length = 130 from rfl]
  refine nn_put (X2 := nx_219) dX12_init_267 np_RX12_107 rfl (by decide) (fun _ => ⟨rfl, rfl⟩) rfl (by decide +kernel) rfl ?_
  refine nn_aload_n 0 dX12_init_270 rfl ?_
  refine nn_bipush (v := 10) dX12_init_271 rfl ?_
  refine nn_newarray (X2 := nx_220) (t := 0) (N := 10) dX12_init_273 (Or.inl ⟨rfl, rfl⟩) aw_0 (by decide) rfl (by decide) ⟨by decide, by decide⟩ (by decide +kernel) rfl ?_
  rw [show nx_219.length = 131 from rfl]
  refine nn_put (X2 := nx_221) dX12_init_275 np_RX12_110 rfl (by decide) (fun _ => ⟨rfl, rfl⟩) rfl (by decide +kernel) rfl ?_
  refine nn_aload_n 0 dX12_init_278 rfl ?_
  refine nn_bipush (v := 6) dX12_init_279 rfl ?_
  refine nn_newarray (X2 := nx_222) (t := 0) (N := 6) dX12_init_281 (Or.inl ⟨rfl, rfl⟩) aw_0 (by decide) rfl (by decide) ⟨by decide, by decide⟩ (by decide +kernel) rfl ?_
  rw [show nx_221.length = 132 from rfl]
  refine nn_put (X2 := nx_223) dX12_init_283 np_RX12_113 rfl (by decide) (fun _ => ⟨rfl, rfl⟩) rfl (by decide +kernel) rfl ?_
  refine nn_aload_n 0 dX12_init_286 rfl ?_
  refine nn_bipush (v := 24) dX12_init_287 rfl ?_
  refine nn_newarray (X2 := nx_224) (t := 0) (N := 24) dX12_init_289 (Or.inl ⟨rfl, rfl⟩) aw_0 (by decide) rfl (by decide) ⟨by decide, by decide⟩ (by decide +kernel) rfl ?_
  rw [show nx_223.length = 133 from rfl]
  refine nn_put (X2 := nx_225) dX12_init_291 np_RX12_116 rfl (by decide) (fun _ => ⟨rfl, rfl⟩) rfl (by decide +kernel) rfl ?_
  refine nn_aload_n 0 dX12_init_294 rfl ?_
  refine nn_iconst (v := 3) dX12_init_295 rfl ?_
  refine nn_newarray (X2 := nx_226) (t := 0) (N := 3) dX12_init_296 (Or.inl ⟨rfl, rfl⟩) aw_0 (by decide) rfl (by decide) ⟨by decide, by decide⟩ (by decide +kernel) rfl ?_
  rw [show nx_225.length = 134 from rfl]
  refine nn_put (X2 := nx_227) dX12_init_298 np_RX12_119 rfl (by decide) (fun _ => ⟨rfl, rfl⟩) rfl (by decide +kernel) rfl ?_
  refine nn_aload_n 0 dX12_init_301 rfl ?_
  refine nn_iconst (v := 3) dX12_init_302 rfl ?_
  refine nn_newarray (X2 := nx_228) (t := 0) (N := 3) dX12_init_303 (Or.inl ⟨rfl, rfl⟩) aw_0 (by decide) rfl (by decide) ⟨by decide, by decide⟩ (by decide +kernel) rfl ?_
  rw [show nx_227.length = 135 from rfl]
  refine nn_put (X2 := nx_229) dX12_init_305 np_RX12_122 rfl (by decide) (fun _ => ⟨rfl, rfl⟩) rfl (by decide +kernel) rfl ?_
  refine nn_aload_n 0 dX12_init_308 rfl ?_
  refine nn_bipush (v := 10) dX12_init_309 rfl ?_
  refine nn_newarray (X2 := nx_230) (t := 0) (N := 10) dX12_init_311 (Or.inl ⟨rfl, rfl⟩) aw_0 (by decide) rfl (by decide) ⟨by decide, by decide⟩ (by decide +kernel) rfl ?_
  rw [show nx_229.length = 136 from rfl]
  refine nn_put (X2 := nx_231) dX12_init_313 np_RX12_125 rfl (by decide) (fun _ => ⟨rfl, rfl⟩) rfl (by decide +kernel) rfl ?_
  refine nn_aload_n 0 dX12_init_316 rfl ?_
  refine nn_bipush (v := 10) dX12_init_317 rfl ?_
  refine nn_newarray (X2 := nx_232) (t := 0) (N := 10) dX12_init_319 (Or.inl ⟨rfl, rfl⟩) aw_0 (by decide) rfl (by decide) ⟨by decide, by decide⟩ (by decide +kernel) rfl ?_
  rw [show nx_231.length = 137 from rfl]
  refine nn_put (X2 := nx_233) dX12_init_321 np_RX12_128 rfl (by decide) (fun _ => ⟨rfl, rfl⟩) rfl (by decide +kernel) rfl ?_
  refine nn_aload_n 0 dX12_init_324 rfl ?_
  refine nn_bipush (v := 10) dX12_init_325 rfl ?_
  refine nn_newarray (X2 := nx_234) (t := 0) (N := 10) dX12_init_327 (Or.inl ⟨rfl, rfl⟩) aw_0 (by decide) rfl (by decide) ⟨by decide, by decide⟩ (by decide +kernel) rfl ?_
  rw [show nx_233.length = 138 from rfl]
  refine nn_put (X2 := nx_235) dX12_init_329 np_RX12_131 rfl (by decide) (fun _ => ⟨rfl, rfl⟩) rfl (by decide +kernel) rfl ?_
  refine nn_aload_n 0 dX12_init_332 rfl ?_
  refine nn_bipush (v := 10) dX12_init_333 rfl ?_
  refine nn_newarray (X2 := nx_236) (t := 0) (N := 10) dX12_init_335 (Or.inl ⟨rfl, rfl⟩) aw_0 (by decide) rfl (by decide) ⟨by decide, by decide⟩ (by decide +kernel) rfl ?_
  rw [show nx_235.length = 139 from rfl]
  refine nn_put (X2 := nx_237) dX12_init_337 np_RX12_134 rfl (by decide) (fun _ => ⟨rfl, rfl⟩) rfl (by decide +kernel) rfl ?_
  refine nn_aload_n 0 dX12_init_340 rfl ?_
  refine nn_iconst (v := 1) dX12_init_341 rfl ?_
  refine nn_put (X2 := nx_238) dX12_init_342 np_RX12_137 rfl (by decide) (fun _ => ⟨rfl, rfl⟩) rfl (by decide +kernel) rfl ?_
  refine nn_aload_n 0 dX12_init_345 rfl ?_
  refine nn_sipush (v := 9999) dX12_init_346 rfl ?_
  refine nn_put (X2 := nx_239) dX12_init_349 np_RX12_141 rfl (by decide) (fun _ => ⟨rfl, rfl⟩) rfl (by decide +kernel) rfl ?_
  refine nn_iconst (v := 0) dX12_init_352 rfl ?_
  refine nn_istore_n [1, 0] (lv2 := [(0, .ref 97), (1, .int 0)]) dX12_init_353 (by decide) rfl ?_
  refine nn_iload_n 1 dX12_init_354 rfl ?_
  refine nn_iconst (v := 4) dX12_init_355 rfl ?_
  refine nn_icmp_ge_f 374 dX12_init_356 rfl (by decide) ?_
  refine nn_aload_n 0 dX12_init_359 rfl ?_
  refine nn_getf (v := .ref 104) dX12_init_360 fl_RX12_29 rfl rfl ?_
  refine nn_iload_n 1 dX12_init_363 rfl ?_
  refine nn_sipush (v := 999) dX12_init_364 rfl ?_
  refine nn_iastore (X2 := nx_240) dX12_init_367 rfl (by decide) (by decide +kernel) rfl ?_
  refine nn_iinc 1 [1, 0] (v := 1) (lv2 := [(0, .ref 97), (1, .int 1)]) dX12_init_368 rfl (by decide) (by decide) rfl ?_
  refine nn_goto 354 dX12_init_371 rfl ?_
  refine nn_iload_n 1 dX12_init_354 rfl ?_
  refine nn_iconst (v := 4) dX12_init_355 rfl ?_
  refine nn_icmp_ge_f 374 dX12_init_356 rfl (by decide) ?_
  refine nn_aload_n 0 dX12_init_359 rfl ?_
  refine nn_getf (v := .ref 104) dX12_init_360 fl_RX12_29 rfl rfl ?_
  refine nn_iload_n 1 dX12_init_363 rfl ?_
  refine nn_sipush (v := 999) dX12_init_364 rfl ?_
  refine nn_iastore (X2 := nx_241) dX12_init_367 rfl (by decide) (by decide +kernel) rfl ?_
  refine nn_iinc 1 [1, 0] (v := 2) (lv2 := [(0, .ref 97), (1, .int 2)]) dX12_init_368 rfl (by decide) (by decide) rfl ?_
  refine nn_goto 354 dX12_init_371 rfl ?_
  refine nn_iload_n 1 dX12_init_354 rfl ?_
  refine nn_iconst (v := 4) dX12_init_355 rfl ?_
  refine nn_icmp_ge_f 374 dX12_init_356 rfl (by decide) ?_
  refine nn_aload_n 0 dX12_init_359 rfl ?_
  refine nn_getf (v := .ref 104) dX12_init_360 fl_RX12_29 rfl rfl ?_
  refine nn_iload_n 1 dX12_init_363 rfl ?_
  refine nn_sipush (v := 999) dX12_init_364 rfl ?_
  refine nn_iastore (X2 := nx_242) dX12_init_367 rfl (by decide) (by decide +kernel) rfl ?_
  refine nn_iinc 1 [1, 0] (v := 3) (lv2 := [(0, .ref 97), (1, .int 3)]) dX12_init_368 rfl (by decide) (by decide) rfl ?_
  refine nn_goto 354 dX12_init_371 rfl ?_
  refine nn_iload_n 1 dX12_init_354 rfl ?_
  refine nn_iconst (v := 4) dX12_init_355 rfl ?_
  refine nn_icmp_ge_f 374 dX12_init_356 rfl (by decide) ?_
  refine nn_aload_n 0 dX12_init_359 rfl ?_
  refine nn_getf (v := .ref 104) dX12_init_360 fl_RX12_29 rfl rfl ?_
  refine nn_iload_n 1 dX12_init_363 rfl ?_
  refine nn_sipush (v := 999) dX12_init_364 rfl ?_
  refine nn_iastore (X2 := nx_243) dX12_init_367 rfl (by decide) (by decide +kernel) rfl ?_
  refine nn_iinc 1 [1, 0] (v := 4) (lv2 := [(0, .ref 97), (1, .int 4)]) dX12_init_368 rfl (by decide) (by decide) rfl ?_
  refine nn_goto 354 dX12_init_371 rfl ?_
  refine nn_iload_n 1 dX12_init_354 rfl ?_
  refine nn_iconst (v := 4) dX12_init_355 rfl ?_
  refine nn_icmp_ge_t 374 dX12_init_356 rfl (by decide) ?_
  exact nn_vret dX12_init_374 rfl
