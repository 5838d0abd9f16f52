/-! the constructor of the reference -/
def Lm_0 : List DS := lay 70 [(c_mo, .inl (12, [.inl true, .inr none, .inl true, .inl true, .inr none, .inr none, .inr none, .inl true, .inl true, .inr none, .inr none, .inr none, .inr none, .inr none, .inr none, .inl true, .inr none, .inr none, .inl true, .inl true, .inl true, .inl true, .inl true, .inr none, .inr none, .inr none, .inr none, .inl true, .inr none, .inr none, .inl true, .inl true, .inr none, .inl true, .inl true, .inr none, .inr none, .inr none, .inr none, .inl true, .inr none]))]
def Lm_1 : List DS := lay 71 [(c_mo, .inl (12, [.inl true, .inr none, .inl true, .inl true, .inr none, .inr none, .inr none, .inl true, .inl true, .inr none, .inr none, .inr none, .inr none, .inr none, .inr none, .inl true, .inr none, .inr none, .inl true, .inl true, .inl true, .inl true, .inl true, .inr none, .inr none, .inr none, .inr none, .inl true, .inr none, .inr none, .inl true, .inl true, .inr none, .inl true, .inl true, .inr none, .inr none, .inr none, .inr none, .inl true, .inr none]))]
def Lm_2 : List DS := lay 71 [(c_mo, .inl (12, [.inl true, .inr (some c_mo_tape), .inl true, .inl true, .inr none, .inr none, .inr none, .inl true, .inl true, .inr none, .inr none, .inr none, .inr none, .inr none, .inr none, .inl true, .inr none, .inr none, .inl true, .inl true, .inl true, .inl true, .inl true, .inr none, .inr none, .inr none, .inr none, .inl true, .inr none, .inr none, .inl true, .inl true, .inr none, .inl true, .inl true, .inr none, .inr none, .inr none, .inr none, .inl true, .inr none]))]
def Lm_3 : List DS := lay 72 [(c_mo, .inl (12, [.inl true, .inr (some c_mo_tape), .inl true, .inl true, .inr none, .inr none, .inr none, .inl true, .inl true, .inr none, .inr none, .inr none, .inr none, .inr none, .inr none, .inl true, .inr none, .inr none, .inl true, .inl true, .inl true, .inl true, .inl true, .inr none, .inr none, .inr none, .inr none, .inl true, .inr none, .inr none, .inl true, .inl true, .inr none, .inl true, .inl true, .inr none, .inr none, .inr none, .inr none, .inl true, .inr none]))]
def Lm_4 : List DS := lay 72 [(c_mo, .inl (12, [.inl true, .inr (some c_mo_tape), .inl true, .inl true, .inr (some c_mo_sort), .inr none, .inr none, .inl true, .inl true, .inr none, .inr none, .inr none, .inr none, .inr none, .inr none, .inl true, .inr none, .inr none, .inl true, .inl true, .inl true, .inl true, .inl true, .inr none, .inr none, .inr none, .inr none, .inl true, .inr none, .inr none, .inl true, .inl true, .inr none, .inl true, .inl true, .inr none, .inr none, .inr none, .inr none, .inl true, .inr none]))]
def Lm_5 : List DS := lay 73 [(c_mo, .inl (12, [.inl true, .inr (some c_mo_tape), .inl true, .inl true, .inr (some c_mo_sort), .inr none, .inr none, .inl true, .inl true, .inr none, .inr none, .inr none, .inr none, .inr none, .inr none, .inl true, .inr none, .inr none, .inl true, .inl true, .inl true, .inl true, .inl true, .inr none, .inr none, .inr none, .inr none, .inl true, .inr none, .inr none, .inl true, .inl true, .inr none, .inl true, .inl true, .inr none, .inr none, .inr none, .inr none, .inl true, .inr none]))]
def Lm_6 : List DS := lay 73 [(c_mo, .inl (12, [.inl true, .inr (some c_mo_tape), .inl true, .inl true, .inr (some c_mo_sort), .inr (some c_mo_place), .inr none, .inl true, .inl true, .inr none, .inr none, .inr none, .inr none, .inr none, .inr none, .inl true, .inr none, .inr none, .inl true, .inl true, .inl true, .inl true, .inl true, .inr none, .inr none, .inr none, .inr none, .inl true, .inr none, .inr none, .inl true, .inl true, .inr none, .inl true, .inl true, .inr none, .inr none, .inr none, .inr none, .inl true, .inr none]))]
def Lm_7 : List DS := lay 74 [(c_mo, .inl (12, [.inl true, .inr (some c_mo_tape), .inl true, .inl true, .inr (some c_mo_sort), .inr (some c_mo_place), .inr none, .inl true, .inl true, .inr none, .inr none, .inr none, .inr none, .inr none, .inr none, .inl true, .inr none, .inr none, .inl true, .inl true, .inl true, .inl true, .inl true, .inr none, .inr none, .inr none, .inr none, .inl true, .inr none, .inr none, .inl true, .inl true, .inr none, .inl true, .inl true, .inr none, .inr none, .inr none, .inr none, .inl true, .inr none]))]
def Lm_8 : List DS := lay 74 [(c_mo, .inl (12, [.inl true, .inr (some c_mo_tape), .inl true, .inl true, .inr (some c_mo_sort), .inr (some c_mo_place), .inr (some c_mo_value), .inl true, .inl true, .inr none, .inr none, .inr none, .inr none, .inr none, .inr none, .inl true, .inr none, .inr none, .inl true, .inl true, .inl true, .inl true, .inl true, .inr none, .inr none, .inr none, .inr none, .inl true, .inr none, .inr none, .inl true, .inl true, .inr none, .inl true, .inl true, .inr none, .inr none, .inr none, .inr none, .inl true, .inr none]))]
def Lm_9 : List DS := lay 75 [(c_mo, .inl (12, [.inl true, .inr (some c_mo_tape), .inl true, .inl true, .inr (some c_mo_sort), .inr (some c_mo_place), .inr (some c_mo_value), .inl true, .inl true, .inr none, .inr none, .inr none, .inr none, .inr none, .inr none, .inl true, .inr none, .inr none, .inl true, .inl true, .inl true, .inl true, .inl true, .inr none, .inr none, .inr none, .inr none, .inl true, .inr none, .inr none, .inl true, .inl true, .inr none, .inl true, .inl true, .inr none, .inr none, .inr none, .inr none, .inl true, .inr none]))]
def Lm_10 : List DS := lay 75 [(c_mo, .inl (12, [.inl true, .inr (some c_mo_tape), .inl true, .inl true, .inr (some c_mo_sort), .inr (some c_mo_place), .inr (some c_mo_value), .inl true, .inl true, .inr (some c_mo_words), .inr none, .inr none, .inr none, .inr none, .inr none, .inl true, .inr none, .inr none, .inl true, .inl true, .inl true, .inl true, .inl true, .inr none, .inr none, .inr none, .inr none, .inl true, .inr none, .inr none, .inl true, .inl true, .inr none, .inl true, .inl true, .inr none, .inr none, .inr none, .inr none, .inl true, .inr none]))]
def Lm_11 : List DS := lay 76 [(c_mo, .inl (12, [.inl true, .inr (some c_mo_tape), .inl true, .inl true, .inr (some c_mo_sort), .inr (some c_mo_place), .inr (some c_mo_value), .inl true, .inl true, .inr (some c_mo_words), .inr none, .inr none, .inr none, .inr none, .inr none, .inl true, .inr none, .inr none, .inl true, .inl true, .inl true, .inl true, .inl true, .inr none, .inr none, .inr none, .inr none, .inl true, .inr none, .inr none, .inl true, .inl true, .inr none, .inl true, .inl true, .inr none, .inr none, .inr none, .inr none, .inl true, .inr none]))]
def Lm_12 : List DS := lay 76 [(c_mo, .inl (12, [.inl true, .inr (some c_mo_tape), .inl true, .inl true, .inr (some c_mo_sort), .inr (some c_mo_place), .inr (some c_mo_value), .inl true, .inl true, .inr (some c_mo_words), .inr (some c_mo_lands), .inr none, .inr none, .inr none, .inr none, .inl true, .inr none, .inr none, .inl true, .inl true, .inl true, .inl true, .inl true, .inr none, .inr none, .inr none, .inr none, .inl true, .inr none, .inr none, .inl true, .inl true, .inr none, .inl true, .inl true, .inr none, .inr none, .inr none, .inr none, .inl true, .inr none]))]
def Lm_13 : List DS := lay 77 [(c_mo, .inl (12, [.inl true, .inr (some c_mo_tape), .inl true, .inl true, .inr (some c_mo_sort), .inr (some c_mo_place), .inr (some c_mo_value), .inl true, .inl true, .inr (some c_mo_words), .inr (some c_mo_lands), .inr none, .inr none, .inr none, .inr none, .inl true, .inr none, .inr none, .inl true, .inl true, .inl true, .inl true, .inl true, .inr none, .inr none, .inr none, .inr none, .inl true, .inr none, .inr none, .inl true, .inl true, .inr none, .inl true, .inl true, .inr none, .inr none, .inr none, .inr none, .inl true, .inr none]))]
def Lm_14 : List DS := lay 77 [(c_mo, .inl (12, [.inl true, .inr (some c_mo_tape), .inl true, .inl true, .inr (some c_mo_sort), .inr (some c_mo_place), .inr (some c_mo_value), .inl true, .inl true, .inr (some c_mo_words), .inr (some c_mo_lands), .inr (some c_mo_readCalls), .inr none, .inr none, .inr none, .inl true, .inr none, .inr none, .inl true, .inl true, .inl true, .inl true, .inl true, .inr none, .inr none, .inr none, .inr none, .inl true, .inr none, .inr none, .inl true, .inl true, .inr none, .inl true, .inl true, .inr none, .inr none, .inr none, .inr none, .inl true, .inr none]))]
def Lm_15 : List DS := lay 78 [(c_mo, .inl (12, [.inl true, .inr (some c_mo_tape), .inl true, .inl true, .inr (some c_mo_sort), .inr (some c_mo_place), .inr (some c_mo_value), .inl true, .inl true, .inr (some c_mo_words), .inr (some c_mo_lands), .inr (some c_mo_readCalls), .inr none, .inr none, .inr none, .inl true, .inr none, .inr none, .inl true, .inl true, .inl true, .inl true, .inl true, .inr none, .inr none, .inr none, .inr none, .inl true, .inr none, .inr none, .inl true, .inl true, .inr none, .inl true, .inl true, .inr none, .inr none, .inr none, .inr none, .inl true, .inr none]))]
def Lm_16 : List DS := lay 78 [(c_mo, .inl (12, [.inl true, .inr (some c_mo_tape), .inl true, .inl true, .inr (some c_mo_sort), .inr (some c_mo_place), .inr (some c_mo_value), .inl true, .inl true, .inr (some c_mo_words), .inr (some c_mo_lands), .inr (some c_mo_readCalls), .inr (some c_mo_goes), .inr none, .inr none, .inl true, .inr none, .inr none, .inl true, .inl true, .inl true, .inl true, .inl true, .inr none, .inr none, .inr none, .inr none, .inl true, .inr none, .inr none, .inl true, .inl true, .inr none, .inl true, .inl true, .inr none, .inr none, .inr none, .inr none, .inl true, .inr none]))]
def Lm_17 : List DS := lay 79 [(c_mo, .inl (12, [.inl true, .inr (some c_mo_tape), .inl true, .inl true, .inr (some c_mo_sort), .inr (some c_mo_place), .inr (some c_mo_value), .inl true, .inl true, .inr (some c_mo_words), .inr (some c_mo_lands), .inr (some c_mo_readCalls), .inr (some c_mo_goes), .inr none, .inr none, .inl true, .inr none, .inr none, .inl true, .inl true, .inl true, .inl true, .inl true, .inr none, .inr none, .inr none, .inr none, .inl true, .inr none, .inr none, .inl true, .inl true, .inr none, .inl true, .inl true, .inr none, .inr none, .inr none, .inr none, .inl true, .inr none]))]
def Lm_18 : List DS := lay 79 [(c_mo, .inl (12, [.inl true, .inr (some c_mo_tape), .inl true, .inl true, .inr (some c_mo_sort), .inr (some c_mo_place), .inr (some c_mo_value), .inl true, .inl true, .inr (some c_mo_words), .inr (some c_mo_lands), .inr (some c_mo_readCalls), .inr (some c_mo_goes), .inr (some c_mo_op), .inr none, .inl true, .inr none, .inr none, .inl true, .inl true, .inl true, .inl true, .inl true, .inr none, .inr none, .inr none, .inr none, .inl true, .inr none, .inr none, .inl true, .inl true, .inr none, .inl true, .inl true, .inr none, .inr none, .inr none, .inr none, .inl true, .inr none]))]
def Lm_19 : List DS := lay 80 [(c_mo, .inl (12, [.inl true, .inr (some c_mo_tape), .inl true, .inl true, .inr (some c_mo_sort), .inr (some c_mo_place), .inr (some c_mo_value), .inl true, .inl true, .inr (some c_mo_words), .inr (some c_mo_lands), .inr (some c_mo_readCalls), .inr (some c_mo_goes), .inr (some c_mo_op), .inr none, .inl true, .inr none, .inr none, .inl true, .inl true, .inl true, .inl true, .inl true, .inr none, .inr none, .inr none, .inr none, .inl true, .inr none, .inr none, .inl true, .inl true, .inr none, .inl true, .inl true, .inr none, .inr none, .inr none, .inr none, .inl true, .inr none]))]
def Lm_20 : List DS := lay 80 [(c_mo, .inl (12, [.inl true, .inr (some c_mo_tape), .inl true, .inl true, .inr (some c_mo_sort), .inr (some c_mo_place), .inr (some c_mo_value), .inl true, .inl true, .inr (some c_mo_words), .inr (some c_mo_lands), .inr (some c_mo_readCalls), .inr (some c_mo_goes), .inr (some c_mo_op), .inr (some c_mo_arg), .inl true, .inr none, .inr none, .inl true, .inl true, .inl true, .inl true, .inl true, .inr none, .inr none, .inr none, .inr none, .inl true, .inr none, .inr none, .inl true, .inl true, .inr none, .inl true, .inl true, .inr none, .inr none, .inr none, .inr none, .inl true, .inr none]))]
def Lm_21 : List DS := lay 81 [(c_mo, .inl (12, [.inl true, .inr (some c_mo_tape), .inl true, .inl true, .inr (some c_mo_sort), .inr (some c_mo_place), .inr (some c_mo_value), .inl true, .inl true, .inr (some c_mo_words), .inr (some c_mo_lands), .inr (some c_mo_readCalls), .inr (some c_mo_goes), .inr (some c_mo_op), .inr (some c_mo_arg), .inl true, .inr none, .inr none, .inl true, .inl true, .inl true, .inl true, .inl true, .inr none, .inr none, .inr none, .inr none, .inl true, .inr none, .inr none, .inl true, .inl true, .inr none, .inl true, .inl true, .inr none, .inr none, .inr none, .inr none, .inl true, .inr none]))]
def Lm_22 : List DS := lay 81 [(c_mo, .inl (12, [.inl true, .inr (some c_mo_tape), .inl true, .inl true, .inr (some c_mo_sort), .inr (some c_mo_place), .inr (some c_mo_value), .inl true, .inl true, .inr (some c_mo_words), .inr (some c_mo_lands), .inr (some c_mo_readCalls), .inr (some c_mo_goes), .inr (some c_mo_op), .inr (some c_mo_arg), .inl true, .inr (some c_mo_names), .inr none, .inl true, .inl true, .inl true, .inl true, .inl true, .inr none, .inr none, .inr none, .inr none, .inl true, .inr none, .inr none, .inl true, .inl true, .inr none, .inl true, .inl true, .inr none, .inr none, .inr none, .inr none, .inl true, .inr none]))]
def Lm_23 : List DS := lay 82 [(c_mo, .inl (12, [.inl true, .inr (some c_mo_tape), .inl true, .inl true, .inr (some c_mo_sort), .inr (some c_mo_place), .inr (some c_mo_value), .inl true, .inl true, .inr (some c_mo_words), .inr (some c_mo_lands), .inr (some c_mo_readCalls), .inr (some c_mo_goes), .inr (some c_mo_op), .inr (some c_mo_arg), .inl true, .inr (some c_mo_names), .inr none, .inl true, .inl true, .inl true, .inl true, .inl true, .inr none, .inr none, .inr none, .inr none, .inl true, .inr none, .inr none, .inl true, .inl true, .inr none, .inl true, .inl true, .inr none, .inr none, .inr none, .inr none, .inl true, .inr none]))]
def Lm_24 : List DS := lay 82 [(c_mo, .inl (12, [.inl true, .inr (some c_mo_tape), .inl true, .inl true, .inr (some c_mo_sort), .inr (some c_mo_place), .inr (some c_mo_value), .inl true, .inl true, .inr (some c_mo_words), .inr (some c_mo_lands), .inr (some c_mo_readCalls), .inr (some c_mo_goes), .inr (some c_mo_op), .inr (some c_mo_arg), .inl true, .inr (some c_mo_names), .inr (some c_mo_nameOf), .inl true, .inl true, .inl true, .inl true, .inl true, .inr none, .inr none, .inr none, .inr none, .inl true, .inr none, .inr none, .inl true, .inl true, .inr none, .inl true, .inl true, .inr none, .inr none, .inr none, .inr none, .inl true, .inr none]))]
def Lm_25 : List DS := lay 83 [(c_mo, .inl (12, [.inl true, .inr (some c_mo_tape), .inl true, .inl true, .inr (some c_mo_sort), .inr (some c_mo_place), .inr (some c_mo_value), .inl true, .inl true, .inr (some c_mo_words), .inr (some c_mo_lands), .inr (some c_mo_readCalls), .inr (some c_mo_goes), .inr (some c_mo_op), .inr (some c_mo_arg), .inl true, .inr (some c_mo_names), .inr (some c_mo_nameOf), .inl true, .inl true, .inl true, .inl true, .inl true, .inr none, .inr none, .inr none, .inr none, .inl true, .inr none, .inr none, .inl true, .inl true, .inr none, .inl true, .inl true, .inr none, .inr none, .inr none, .inr none, .inl true, .inr none]))]
def Lm_26 : List DS := lay 83 [(c_mo, .inl (12, [.inl true, .inr (some c_mo_tape), .inl true, .inl true, .inr (some c_mo_sort), .inr (some c_mo_place), .inr (some c_mo_value), .inl true, .inl true, .inr (some c_mo_words), .inr (some c_mo_lands), .inr (some c_mo_readCalls), .inr (some c_mo_goes), .inr (some c_mo_op), .inr (some c_mo_arg), .inl true, .inr (some c_mo_names), .inr (some c_mo_nameOf), .inl true, .inl true, .inl true, .inl true, .inl true, .inr (some c_mo_factWords), .inr none, .inr none, .inr none, .inl true, .inr none, .inr none, .inl true, .inl true, .inr none, .inl true, .inl true, .inr none, .inr none, .inr none, .inr none, .inl true, .inr none]))]
def Lm_27 : List DS := lay 84 [(c_mo, .inl (12, [.inl true, .inr (some c_mo_tape), .inl true, .inl true, .inr (some c_mo_sort), .inr (some c_mo_place), .inr (some c_mo_value), .inl true, .inl true, .inr (some c_mo_words), .inr (some c_mo_lands), .inr (some c_mo_readCalls), .inr (some c_mo_goes), .inr (some c_mo_op), .inr (some c_mo_arg), .inl true, .inr (some c_mo_names), .inr (some c_mo_nameOf), .inl true, .inl true, .inl true, .inl true, .inl true, .inr (some c_mo_factWords), .inr none, .inr none, .inr none, .inl true, .inr none, .inr none, .inl true, .inl true, .inr none, .inl true, .inl true, .inr none, .inr none, .inr none, .inr none, .inl true, .inr none]))]
def Lm_28 : List DS := lay 84 [(c_mo, .inl (12, [.inl true, .inr (some c_mo_tape), .inl true, .inl true, .inr (some c_mo_sort), .inr (some c_mo_place), .inr (some c_mo_value), .inl true, .inl true, .inr (some c_mo_words), .inr (some c_mo_lands), .inr (some c_mo_readCalls), .inr (some c_mo_goes), .inr (some c_mo_op), .inr (some c_mo_arg), .inl true, .inr (some c_mo_names), .inr (some c_mo_nameOf), .inl true, .inl true, .inl true, .inl true, .inl true, .inr (some c_mo_factWords), .inr (some c_mo_facts), .inr none, .inr none, .inl true, .inr none, .inr none, .inl true, .inl true, .inr none, .inl true, .inl true, .inr none, .inr none, .inr none, .inr none, .inl true, .inr none]))]
def Lm_29 : List DS := lay 85 [(c_mo, .inl (12, [.inl true, .inr (some c_mo_tape), .inl true, .inl true, .inr (some c_mo_sort), .inr (some c_mo_place), .inr (some c_mo_value), .inl true, .inl true, .inr (some c_mo_words), .inr (some c_mo_lands), .inr (some c_mo_readCalls), .inr (some c_mo_goes), .inr (some c_mo_op), .inr (some c_mo_arg), .inl true, .inr (some c_mo_names), .inr (some c_mo_nameOf), .inl true, .inl true, .inl true, .inl true, .inl true, .inr (some c_mo_factWords), .inr (some c_mo_facts), .inr none, .inr none, .inl true, .inr none, .inr none, .inl true, .inl true, .inr none, .inl true, .inl true, .inr none, .inr none, .inr none, .inr none, .inl true, .inr none]))]
def Lm_30 : List DS := lay 85 [(c_mo, .inl (12, [.inl true, .inr (some c_mo_tape), .inl true, .inl true, .inr (some c_mo_sort), .inr (some c_mo_place), .inr (some c_mo_value), .inl true, .inl true, .inr (some c_mo_words), .inr (some c_mo_lands), .inr (some c_mo_readCalls), .inr (some c_mo_goes), .inr (some c_mo_op), .inr (some c_mo_arg), .inl true, .inr (some c_mo_names), .inr (some c_mo_nameOf), .inl true, .inl true, .inl true, .inl true, .inl true, .inr (some c_mo_factWords), .inr (some c_mo_facts), .inr (some c_mo_pile), .inr none, .inl true, .inr none, .inr none, .inl true, .inl true, .inr none, .inl true, .inl true, .inr none, .inr none, .inr none, .inr none, .inl true, .inr none]))]
def Lm_31 : List DS := lay 86 [(c_mo, .inl (12, [.inl true, .inr (some c_mo_tape), .inl true, .inl true, .inr (some c_mo_sort), .inr (some c_mo_place), .inr (some c_mo_value), .inl true, .inl true, .inr (some c_mo_words), .inr (some c_mo_lands), .inr (some c_mo_readCalls), .inr (some c_mo_goes), .inr (some c_mo_op), .inr (some c_mo_arg), .inl true, .inr (some c_mo_names), .inr (some c_mo_nameOf), .inl true, .inl true, .inl true, .inl true, .inl true, .inr (some c_mo_factWords), .inr (some c_mo_facts), .inr (some c_mo_pile), .inr none, .inl true, .inr none, .inr none, .inl true, .inl true, .inr none, .inl true, .inl true, .inr none, .inr none, .inr none, .inr none, .inl true, .inr none]))]
def Lm_32 : List DS := lay 86 [(c_mo, .inl (12, [.inl true, .inr (some c_mo_tape), .inl true, .inl true, .inr (some c_mo_sort), .inr (some c_mo_place), .inr (some c_mo_value), .inl true, .inl true, .inr (some c_mo_words), .inr (some c_mo_lands), .inr (some c_mo_readCalls), .inr (some c_mo_goes), .inr (some c_mo_op), .inr (some c_mo_arg), .inl true, .inr (some c_mo_names), .inr (some c_mo_nameOf), .inl true, .inl true, .inl true, .inl true, .inl true, .inr (some c_mo_factWords), .inr (some c_mo_facts), .inr (some c_mo_pile), .inr (some c_mo_state), .inl true, .inr none, .inr none, .inl true, .inl true, .inr none, .inl true, .inl true, .inr none, .inr none, .inr none, .inr none, .inl true, .inr none]))]
def Lm_33 : List DS := lay 87 [(c_mo, .inl (12, [.inl true, .inr (some c_mo_tape), .inl true, .inl true, .inr (some c_mo_sort), .inr (some c_mo_place), .inr (some c_mo_value), .inl true, .inl true, .inr (some c_mo_words), .inr (some c_mo_lands), .inr (some c_mo_readCalls), .inr (some c_mo_goes), .inr (some c_mo_op), .inr (some c_mo_arg), .inl true, .inr (some c_mo_names), .inr (some c_mo_nameOf), .inl true, .inl true, .inl true, .inl true, .inl true, .inr (some c_mo_factWords), .inr (some c_mo_facts), .inr (some c_mo_pile), .inr (some c_mo_state), .inl true, .inr none, .inr none, .inl true, .inl true, .inr none, .inl true, .inl true, .inr none, .inr none, .inr none, .inr none, .inl true, .inr none]))]
def Lm_34 : List DS := lay 87 [(c_mo, .inl (12, [.inl true, .inr (some c_mo_tape), .inl true, .inl true, .inr (some c_mo_sort), .inr (some c_mo_place), .inr (some c_mo_value), .inl true, .inl true, .inr (some c_mo_words), .inr (some c_mo_lands), .inr (some c_mo_readCalls), .inr (some c_mo_goes), .inr (some c_mo_op), .inr (some c_mo_arg), .inl true, .inr (some c_mo_names), .inr (some c_mo_nameOf), .inl true, .inl true, .inl true, .inl true, .inl true, .inr (some c_mo_factWords), .inr (some c_mo_facts), .inr (some c_mo_pile), .inr (some c_mo_state), .inl true, .inr (some c_mo_isMarked), .inr none, .inl true, .inl true, .inr none, .inl true, .inl true, .inr none, .inr none, .inr none, .inr none, .inl true, .inr none]))]
def Lm_35 : List DS := lay 88 [(c_mo, .inl (12, [.inl true, .inr (some c_mo_tape), .inl true, .inl true, .inr (some c_mo_sort), .inr (some c_mo_place), .inr (some c_mo_value), .inl true, .inl true, .inr (some c_mo_words), .inr (some c_mo_lands), .inr (some c_mo_readCalls), .inr (some c_mo_goes), .inr (some c_mo_op), .inr (some c_mo_arg), .inl true, .inr (some c_mo_names), .inr (some c_mo_nameOf), .inl true, .inl true, .inl true, .inl true, .inl true, .inr (some c_mo_factWords), .inr (some c_mo_facts), .inr (some c_mo_pile), .inr (some c_mo_state), .inl true, .inr (some c_mo_isMarked), .inr none, .inl true, .inl true, .inr none, .inl true, .inl true, .inr none, .inr none, .inr none, .inr none, .inl true, .inr none]))]
def Lm_36 : List DS := lay 88 [(c_mo, .inl (12, [.inl true, .inr (some c_mo_tape), .inl true, .inl true, .inr (some c_mo_sort), .inr (some c_mo_place), .inr (some c_mo_value), .inl true, .inl true, .inr (some c_mo_words), .inr (some c_mo_lands), .inr (some c_mo_readCalls), .inr (some c_mo_goes), .inr (some c_mo_op), .inr (some c_mo_arg), .inl true, .inr (some c_mo_names), .inr (some c_mo_nameOf), .inl true, .inl true, .inl true, .inl true, .inl true, .inr (some c_mo_factWords), .inr (some c_mo_facts), .inr (some c_mo_pile), .inr (some c_mo_state), .inl true, .inr (some c_mo_isMarked), .inr (some c_mo_standing), .inl true, .inl true, .inr none, .inl true, .inl true, .inr none, .inr none, .inr none, .inr none, .inl true, .inr none]))]
def Lm_37 : List DS := lay 89 [(c_mo, .inl (12, [.inl true, .inr (some c_mo_tape), .inl true, .inl true, .inr (some c_mo_sort), .inr (some c_mo_place), .inr (some c_mo_value), .inl true, .inl true, .inr (some c_mo_words), .inr (some c_mo_lands), .inr (some c_mo_readCalls), .inr (some c_mo_goes), .inr (some c_mo_op), .inr (some c_mo_arg), .inl true, .inr (some c_mo_names), .inr (some c_mo_nameOf), .inl true, .inl true, .inl true, .inl true, .inl true, .inr (some c_mo_factWords), .inr (some c_mo_facts), .inr (some c_mo_pile), .inr (some c_mo_state), .inl true, .inr (some c_mo_isMarked), .inr (some c_mo_standing), .inl true, .inl true, .inr none, .inl true, .inl true, .inr none, .inr none, .inr none, .inr none, .inl true, .inr none]))]
def Lm_38 : List DS := lay 89 [(c_mo, .inl (12, [.inl true, .inr (some c_mo_tape), .inl true, .inl true, .inr (some c_mo_sort), .inr (some c_mo_place), .inr (some c_mo_value), .inl true, .inl true, .inr (some c_mo_words), .inr (some c_mo_lands), .inr (some c_mo_readCalls), .inr (some c_mo_goes), .inr (some c_mo_op), .inr (some c_mo_arg), .inl true, .inr (some c_mo_names), .inr (some c_mo_nameOf), .inl true, .inl true, .inl true, .inl true, .inl true, .inr (some c_mo_factWords), .inr (some c_mo_facts), .inr (some c_mo_pile), .inr (some c_mo_state), .inl true, .inr (some c_mo_isMarked), .inr (some c_mo_standing), .inl true, .inl true, .inr (some c_mo_owes), .inl true, .inl true, .inr none, .inr none, .inr none, .inr none, .inl true, .inr none]))]
def Lm_39 : List DS := lay 90 [(c_mo, .inl (12, [.inl true, .inr (some c_mo_tape), .inl true, .inl true, .inr (some c_mo_sort), .inr (some c_mo_place), .inr (some c_mo_value), .inl true, .inl true, .inr (some c_mo_words), .inr (some c_mo_lands), .inr (some c_mo_readCalls), .inr (some c_mo_goes), .inr (some c_mo_op), .inr (some c_mo_arg), .inl true, .inr (some c_mo_names), .inr (some c_mo_nameOf), .inl true, .inl true, .inl true, .inl true, .inl true, .inr (some c_mo_factWords), .inr (some c_mo_facts), .inr (some c_mo_pile), .inr (some c_mo_state), .inl true, .inr (some c_mo_isMarked), .inr (some c_mo_standing), .inl true, .inl true, .inr (some c_mo_owes), .inl true, .inl true, .inr none, .inr none, .inr none, .inr none, .inl true, .inr none]))]
def Lm_40 : List DS := lay 90 [(c_mo, .inl (12, [.inl true, .inr (some c_mo_tape), .inl true, .inl true, .inr (some c_mo_sort), .inr (some c_mo_place), .inr (some c_mo_value), .inl true, .inl true, .inr (some c_mo_words), .inr (some c_mo_lands), .inr (some c_mo_readCalls), .inr (some c_mo_goes), .inr (some c_mo_op), .inr (some c_mo_arg), .inl true, .inr (some c_mo_names), .inr (some c_mo_nameOf), .inl true, .inl true, .inl true, .inl true, .inl true, .inr (some c_mo_factWords), .inr (some c_mo_facts), .inr (some c_mo_pile), .inr (some c_mo_state), .inl true, .inr (some c_mo_isMarked), .inr (some c_mo_standing), .inl true, .inl true, .inr (some c_mo_owes), .inl true, .inl true, .inr (some c_mo_rows), .inr none, .inr none, .inr none, .inl true, .inr none]))]
def Lm_41 : List DS := lay 91 [(c_mo, .inl (12, [.inl true, .inr (some c_mo_tape), .inl true, .inl true, .inr (some c_mo_sort), .inr (some c_mo_place), .inr (some c_mo_value), .inl true, .inl true, .inr (some c_mo_words), .inr (some c_mo_lands), .inr (some c_mo_readCalls), .inr (some c_mo_goes), .inr (some c_mo_op), .inr (some c_mo_arg), .inl true, .inr (some c_mo_names), .inr (some c_mo_nameOf), .inl true, .inl true, .inl true, .inl true, .inl true, .inr (some c_mo_factWords), .inr (some c_mo_facts), .inr (some c_mo_pile), .inr (some c_mo_state), .inl true, .inr (some c_mo_isMarked), .inr (some c_mo_standing), .inl true, .inl true, .inr (some c_mo_owes), .inl true, .inl true, .inr (some c_mo_rows), .inr none, .inr none, .inr none, .inl true, .inr none]))]
def Lm_42 : List DS := lay 91 [(c_mo, .inl (12, [.inl true, .inr (some c_mo_tape), .inl true, .inl true, .inr (some c_mo_sort), .inr (some c_mo_place), .inr (some c_mo_value), .inl true, .inl true, .inr (some c_mo_words), .inr (some c_mo_lands), .inr (some c_mo_readCalls), .inr (some c_mo_goes), .inr (some c_mo_op), .inr (some c_mo_arg), .inl true, .inr (some c_mo_names), .inr (some c_mo_nameOf), .inl true, .inl true, .inl true, .inl true, .inl true, .inr (some c_mo_factWords), .inr (some c_mo_facts), .inr (some c_mo_pile), .inr (some c_mo_state), .inl true, .inr (some c_mo_isMarked), .inr (some c_mo_standing), .inl true, .inl true, .inr (some c_mo_owes), .inl true, .inl true, .inr (some c_mo_rows), .inr (some c_mo_owesBy), .inr none, .inr none, .inl true, .inr none]))]
def Lm_43 : List DS := lay 92 [(c_mo, .inl (12, [.inl true, .inr (some c_mo_tape), .inl true, .inl true, .inr (some c_mo_sort), .inr (some c_mo_place), .inr (some c_mo_value), .inl true, .inl true, .inr (some c_mo_words), .inr (some c_mo_lands), .inr (some c_mo_readCalls), .inr (some c_mo_goes), .inr (some c_mo_op), .inr (some c_mo_arg), .inl true, .inr (some c_mo_names), .inr (some c_mo_nameOf), .inl true, .inl true, .inl true, .inl true, .inl true, .inr (some c_mo_factWords), .inr (some c_mo_facts), .inr (some c_mo_pile), .inr (some c_mo_state), .inl true, .inr (some c_mo_isMarked), .inr (some c_mo_standing), .inl true, .inl true, .inr (some c_mo_owes), .inl true, .inl true, .inr (some c_mo_rows), .inr (some c_mo_owesBy), .inr none, .inr none, .inl true, .inr none]))]
def Lm_44 : List DS := lay 92 [(c_mo, .inl (12, [.inl true, .inr (some c_mo_tape), .inl true, .inl true, .inr (some c_mo_sort), .inr (some c_mo_place), .inr (some c_mo_value), .inl true, .inl true, .inr (some c_mo_words), .inr (some c_mo_lands), .inr (some c_mo_readCalls), .inr (some c_mo_goes), .inr (some c_mo_op), .inr (some c_mo_arg), .inl true, .inr (some c_mo_names), .inr (some c_mo_nameOf), .inl true, .inl true, .inl true, .inl true, .inl true, .inr (some c_mo_factWords), .inr (some c_mo_facts), .inr (some c_mo_pile), .inr (some c_mo_state), .inl true, .inr (some c_mo_isMarked), .inr (some c_mo_standing), .inl true, .inl true, .inr (some c_mo_owes), .inl true, .inl true, .inr (some c_mo_rows), .inr (some c_mo_owesBy), .inr (some c_mo_sung), .inr none, .inl true, .inr none]))]
def Lm_45 : List DS := lay 93 [(c_mo, .inl (12, [.inl true, .inr (some c_mo_tape), .inl true, .inl true, .inr (some c_mo_sort), .inr (some c_mo_place), .inr (some c_mo_value), .inl true, .inl true, .inr (some c_mo_words), .inr (some c_mo_lands), .inr (some c_mo_readCalls), .inr (some c_mo_goes), .inr (some c_mo_op), .inr (some c_mo_arg), .inl true, .inr (some c_mo_names), .inr (some c_mo_nameOf), .inl true, .inl true, .inl true, .inl true, .inl true, .inr (some c_mo_factWords), .inr (some c_mo_facts), .inr (some c_mo_pile), .inr (some c_mo_state), .inl true, .inr (some c_mo_isMarked), .inr (some c_mo_standing), .inl true, .inl true, .inr (some c_mo_owes), .inl true, .inl true, .inr (some c_mo_rows), .inr (some c_mo_owesBy), .inr (some c_mo_sung), .inr none, .inl true, .inr none]))]
def Lm_46 : List DS := lay 93 [(c_mo, .inl (12, [.inl true, .inr (some c_mo_tape), .inl true, .inl true, .inr (some c_mo_sort), .inr (some c_mo_place), .inr (some c_mo_value), .inl true, .inl true, .inr (some c_mo_words), .inr (some c_mo_lands), .inr (some c_mo_readCalls), .inr (some c_mo_goes), .inr (some c_mo_op), .inr (some c_mo_arg), .inl true, .inr (some c_mo_names), .inr (some c_mo_nameOf), .inl true, .inl true, .inl true, .inl true, .inl true, .inr (some c_mo_factWords), .inr (some c_mo_facts), .inr (some c_mo_pile), .inr (some c_mo_state), .inl true, .inr (some c_mo_isMarked), .inr (some c_mo_standing), .inl true, .inl true, .inr (some c_mo_owes), .inl true, .inl true, .inr (some c_mo_rows), .inr (some c_mo_owesBy), .inr (some c_mo_sung), .inr (some c_mo_asked), .inl true, .inr none]))]
def Lm_47 : List DS := lay 94 [(c_mo, .inl (12, [.inl true, .inr (some c_mo_tape), .inl true, .inl true, .inr (some c_mo_sort), .inr (some c_mo_place), .inr (some c_mo_value), .inl true, .inl true, .inr (some c_mo_words), .inr (some c_mo_lands), .inr (some c_mo_readCalls), .inr (some c_mo_goes), .inr (some c_mo_op), .inr (some c_mo_arg), .inl true, .inr (some c_mo_names), .inr (some c_mo_nameOf), .inl true, .inl true, .inl true, .inl true, .inl true, .inr (some c_mo_factWords), .inr (some c_mo_facts), .inr (some c_mo_pile), .inr (some c_mo_state), .inl true, .inr (some c_mo_isMarked), .inr (some c_mo_standing), .inl true, .inl true, .inr (some c_mo_owes), .inl true, .inl true, .inr (some c_mo_rows), .inr (some c_mo_owesBy), .inr (some c_mo_sung), .inr (some c_mo_asked), .inl true, .inr none]))]
def Lm_48 : List DS := lay 94 []
theorem lyimo_c_mo : Lm_48[c_mo]? = some (.inl (12, [.inl true, .inr (some c_mo_tape), .inl true, .inl true, .inr (some c_mo_sort), .inr (some c_mo_place), .inr (some c_mo_value), .inl true, .inl true, .inr (some c_mo_words), .inr (some c_mo_lands), .inr (some c_mo_readCalls), .inr (some c_mo_goes), .inr (some c_mo_op), .inr (some c_mo_arg), .inl true, .inr (some c_mo_names), .inr (some c_mo_nameOf), .inl true, .inl true, .inl true, .inl true, .inl true, .inr (some c_mo_factWords), .inr (some c_mo_facts), .inr (some c_mo_pile), .inr (some c_mo_state), .inl true, .inr (some c_mo_isMarked), .inr (some c_mo_standing), .inl true, .inl true, .inr (some c_mo_owes), .inl true, .inl true, .inr (some c_mo_rows), .inr (some c_mo_owesBy), .inr (some c_mo_sung), .inr (some c_mo_asked), .inl true, .inr (some c_mo_purse)])) := rfl
theorem lyimo_c_mo_lands : Lm_48[c_mo_lands]? = some (.inr (0, 360, [])) := rfl
def w_Mo_standsAsAlways_L2_imo (l1 : Int32) (K : Mem → Prop) (Q : Mem → Prop) : Nat → Int32 → Mem → Prop
  | 0, _, _ => False
  | n + 1, l2, M => ((180 ≤ l2 → K M) ∧ (¬ 180 ≤ l2 → (vp_in (l1 + l2) 360 ∧ w_Mo_standsAsAlways_L2_imo l1 K Q n (l2 + 1) (si M c_mo_lands (Int32.toNatClampNeg (l1 + l2)) 0))))
set_option maxHeartbeats 4000000 in
theorem t_Mo_standsAsAlways_L2_imo {X : Cx} (hX : Cok X cX12_standsAsAlways RX12 3 none 1 0 0) {Q : Mem → Prop} (hq : RV X 0 0 Lm_48 Q) {l1 : Int32} {K : Mem → Prop} (hK : ∀ (M : Mem), K M → Wat X 0 0 Lm_48 24 [some (vr c_mo), some (vi l1), none] [] M) : ∀ (n : Nat) (l2 : Int32) (M : Mem), w_Mo_standsAsAlways_L2_imo l1 K Q n l2 M → Wat X 0 0 Lm_48 2 [some (vr c_mo), some (vi l1), some (vi l2)] [] M := by
  intro n
  induction n with
  | zero => intro _ _ h; exact h.elim
  | succ n ih =>
    intro l2 M h
    refine s_iload_n hX dX12_standsAsAlways_2 rfl ?_
    refine s_sipush (v := 180) hX dX12_standsAsAlways_3 rfl ?_
    refine s_icmp_ge (tgt := 24) hX dX12_standsAsAlways_6 (by decide) (fun c => ?_) (fun c => ?_)
    · replace h := h.1 c
      refine s_mask [true, true, false] (lv' := [some (vr c_mo), some (vi l1), none]) rfl rfl ?_
      exact hK _ h
    · replace h := h.2 c
      refine s_aload_n hX dX12_standsAsAlways_9 rfl ?_
      refine s_getr hX fi_X12_85 lyimo_c_mo rfl dX12_standsAsAlways_10 ?_
      refine s_iload_n hX dX12_standsAsAlways_13 rfl ?_
      refine s_iload_n hX dX12_standsAsAlways_14 rfl ?_
      refine s_iadd hX dX12_standsAsAlways_15 ?_
      refine s_iconst (v := 0) hX dX12_standsAsAlways_16 rfl ?_
      have hi := h.1
      replace h := h.2
      refine s_iast hX lyimo_c_mo_lands hi dX12_standsAsAlways_17 ?_
      refine s_iinc (v := (l2 + 1)) (lv' := [some (vr c_mo), some (vi l1), some (vi (l2 + 1))]) hX dX12_standsAsAlways_18 rfl rfl rfl rfl ?_
      refine s_goto (tgt := 2) hX dX12_standsAsAlways_21 (by decide) ?_
      exact ih _ _ h
def w_Mo_standsAsAlways_imo (a0 : Int32) (M : Mem) (Q : Mem → Prop) : Prop :=
  (∃ n645, w_Mo_standsAsAlways_L2_imo a0 (fun M644 => (vp_in (a0 + 4) 360 ∧ (vp_in (a0 + 5) 360 ∧ (vp_in ((a0 + 5) + 1) 360 ∧ Q (si (si (si M644 c_mo_lands (Int32.toNatClampNeg (a0 + 4)) 14) c_mo_lands (Int32.toNatClampNeg (a0 + 5)) (-1)) c_mo_lands (Int32.toNatClampNeg ((a0 + 5) + 1)) (-1)))))) Q n645 0 M)
set_option maxHeartbeats 4000000 in
theorem t_Mo_standsAsAlways_imo {X : Cx} (hX : Cok X cX12_standsAsAlways RX12 3 none 1 0 0) {Q : Mem → Prop} (hq : RV X 0 0 Lm_48 Q) {M : Mem} {a0 : Int32} (h : w_Mo_standsAsAlways_imo a0 M Q) : Wat X 0 0 Lm_48 0 [some (vr c_mo), some (vi a0), none] [] M := by
  refine s_iconst (v := 0) hX dX12_standsAsAlways_0 rfl ?_
  refine s_istore_n (lv' := [some (vr c_mo), some (vi a0), some (vi 0)]) hX dX12_standsAsAlways_1 rfl rfl (Nat.le_of_ble_eq_true rfl) ?_
  obtain ⟨n645, h⟩ := h
  refine t_Mo_standsAsAlways_L2_imo hX hq ?_ n645 _ _ h
  intro M644 h
  refine s_aload_n hX dX12_standsAsAlways_24 rfl ?_
  refine s_getr hX fi_X12_85 lyimo_c_mo rfl dX12_standsAsAlways_25 ?_
  refine s_iload_n hX dX12_standsAsAlways_28 rfl ?_
  refine s_iconst (v := 4) hX dX12_standsAsAlways_29 rfl ?_
  refine s_iadd hX dX12_standsAsAlways_30 ?_
  refine s_bipush (v := 14) hX dX12_standsAsAlways_31 rfl ?_
  have hi := h.1
  replace h := h.2
  refine s_iast hX lyimo_c_mo_lands hi dX12_standsAsAlways_33 ?_
  refine s_aload_n hX dX12_standsAsAlways_34 rfl ?_
  refine s_getr hX fi_X12_85 lyimo_c_mo rfl dX12_standsAsAlways_35 ?_
  refine s_iload_n hX dX12_standsAsAlways_38 rfl ?_
  refine s_iconst (v := 5) hX dX12_standsAsAlways_39 rfl ?_
  refine s_iadd hX dX12_standsAsAlways_40 ?_
  refine s_iconst (v := (-1)) hX dX12_standsAsAlways_41 rfl ?_
  have hi := h.1
  replace h := h.2
  refine s_iast hX lyimo_c_mo_lands hi dX12_standsAsAlways_42 ?_
  refine s_aload_n hX dX12_standsAsAlways_43 rfl ?_
  refine s_getr hX fi_X12_85 lyimo_c_mo rfl dX12_standsAsAlways_44 ?_
  refine s_iload_n hX dX12_standsAsAlways_47 rfl ?_
  refine s_iconst (v := 5) hX dX12_standsAsAlways_48 rfl ?_
  refine s_iadd hX dX12_standsAsAlways_49 ?_
  refine s_iconst (v := 1) hX dX12_standsAsAlways_50 rfl ?_
  refine s_iadd hX dX12_standsAsAlways_51 ?_
  refine s_iconst (v := (-1)) hX dX12_standsAsAlways_52 rfl ?_
  have hi := h.1
  replace h := h.2
  refine s_iast hX lyimo_c_mo_lands hi dX12_standsAsAlways_53 ?_
  exact s_vret hX hq rfl dX12_standsAsAlways_54 h
theorem c_Mo_standsAsAlways_imo {a0 : Int32} {M : Mem} {Q : Mem → Prop} (h : w_Mo_standsAsAlways_imo a0 M Q) : CV yX12_standsAsAlways cX12_standsAsAlways 3 none 1 0 0 Lm_48 Lm_48 [vr c_mo, vi a0] M Q := mk_v rfl wd_co_X12_standsAsAlways rfl rfl (Nat.le_of_ble_eq_true rfl) (fun X hX hq => t_Mo_standsAsAlways_imo hX hq h)
def v_mo (M : Mem) (Q : Mem → Prop) : Prop := w_Mo_standsAsAlways_imo (nI 0) (si (si (si (si (si (si (si (si (sl (sl (sl (sl (sl (sl (sl (sl (sl (sl (sl (sl (sl (sl (sl (sl (sl (sl (sl (sl (sl (sl (sl (sl M c_mo_words (Int32.toNatClampNeg (nI 0)) 15466056) c_mo_words (Int32.toNatClampNeg (nI 1)) 1119812451) c_mo_words (Int32.toNatClampNeg (nI 2)) 57) c_mo_words (Int32.toNatClampNeg (nI 3)) 31075639) c_mo_words (Int32.toNatClampNeg (nI 4)) 274) c_mo_words (Int32.toNatClampNeg (nI 5)) 426554) c_mo_words (Int32.toNatClampNeg (nI 6)) 114297) c_mo_words (Int32.toNatClampNeg (nI 7)) 153784) c_mo_words (Int32.toNatClampNeg (nI 8)) 37957098) c_mo_words (Int32.toNatClampNeg (nI 9)) 21391) c_mo_words (Int32.toNatClampNeg (nI 10)) 8776) c_mo_words (Int32.toNatClampNeg (nI 11)) 412124) c_mo_words (Int32.toNatClampNeg (nI 12)) 30596128) c_mo_words (Int32.toNatClampNeg (nI 13)) 209500) c_mo_words (Int32.toNatClampNeg (nI 14)) 6040476) c_mo_words (Int32.toNatClampNeg (nI 15)) 924194) c_mo_words (Int32.toNatClampNeg (nI 16)) 26332) c_mo_words (Int32.toNatClampNeg (nI 17)) 19741) c_mo_words (Int32.toNatClampNeg (nI 18)) 1891) c_mo_words (Int32.toNatClampNeg (nI 19)) 573) c_mo_words (Int32.toNatClampNeg (nI 20)) 8269) c_mo_words (Int32.toNatClampNeg (nI 21)) 716042) c_mo_words (Int32.toNatClampNeg (nI 22)) 24) c_mo_words (Int32.toNatClampNeg (nI 23)) 25) c_mo_factWords (Int32.toNatClampNeg (nI 0)) (nI 5)) c_mo_factWords (Int32.toNatClampNeg (nI 1)) (nI 20)) c_mo_factWords (Int32.toNatClampNeg (nI 2)) (nI 21)) c_mo_factWords (Int32.toNatClampNeg (nI 3)) (nI 8)) c_mo_factWords (Int32.toNatClampNeg (nI 4)) (nI 22)) c_mo_factWords (Int32.toNatClampNeg (nI 5)) (nI 23)) c_mo 30 (nI 24)) c_mo 31 (-1)) (fun M1 => Q (si (si (si (si (si (si (si (si M1 c_mo_lands (Int32.toNatClampNeg (nI 0)) (nI 2)) c_mo_lands (Int32.toNatClampNeg (nI 1)) (nI 2)) c_mo_state (Int32.toNatClampNeg (nI 121)) (-1)) c_mo_state (Int32.toNatClampNeg (nI 122)) (-1)) c_mo_state (Int32.toNatClampNeg (nI 123)) (-1)) c_mo_state (Int32.toNatClampNeg (nI 124)) (-1)) c_mo_state (Int32.toNatClampNeg (nI 125)) (-1)) c_mo_state (Int32.toNatClampNeg (nI 126)) (-1)))
set_option maxRecDepth 20000 in
set_option maxHeartbeats 1000000 in
theorem n_mo {M : Mem} {Q : Mem → Prop} (hz : Z0 70 M) (h : v_mo M Q) : CNE yX12_init cX12_init 2 4 24 13936 Lm_0 Lm_48 [vr c_mo] M Q := mk_ne (lv0 := [some (vr c_mo), none]) (by decide +kernel) rfl rfl rfl (Nat.le_of_ble_eq_true rfl) (fun X ad0 hX hT hq => by
  refine s_aload_n hX dX12_init_0 rfl ?_
  refine s_obj hX (tb_m5 160 rfl rfl) wd_im_objectInit wd_co_objectInit rfl (Nat.le_of_ble_eq_true rfl) (Nat.le_of_ble_eq_true rfl) dX12_init_1 ?_
  refine s_aload_n hX dX12_init_4 rfl ?_
  refine s_sipush (v := nI 1000) hX dX12_init_5 rfl ?_
  refine s_nwi (n := 1000) (L' := Lm_1) hX (hz.mono (Nat.le_of_ble_eq_true rfl)) rfl (by decide) rfl rfl rfl (Nat.le_of_ble_eq_true rfl) (Nat.le_of_ble_eq_true rfl) dX12_init_8 rfl (fun X1 hE => ?_)
  replace hT := hT.go hE (Nat.le_of_ble_eq_true rfl)
  replace hq := hq.go hE (Nat.le_of_ble_eq_true rfl) (Nat.le_of_ble_eq_true rfl)
  replace hX := hX.go hE
  clear hE
  refine s_putF (L' := Lm_2) hX hq.ni (show FI RX12 14 12 1 RX12 TX12 41 from ⟨rfl, by decide, fw_X12, wd_fl_X12_14⟩) fp_X12 rfl rfl rfl (fun _ => ⟨rfl, rfl⟩) (f := .inr none) rfl rfl rfl dX12_init_10 ?_
  refine s_aload_n hX dX12_init_13 rfl ?_
  refine s_sipush (v := nI 1002) hX dX12_init_14 rfl ?_
  refine s_nwi (n := 1002) (L' := Lm_3) hX (hz.mono (Nat.le_of_ble_eq_true rfl)) rfl (by decide) rfl rfl rfl (Nat.le_of_ble_eq_true rfl) (Nat.le_of_ble_eq_true rfl) dX12_init_17 rfl (fun X1 hE => ?_)
  replace hT := hT.go hE (Nat.le_of_ble_eq_true rfl)
  replace hq := hq.go hE (Nat.le_of_ble_eq_true rfl) (Nat.le_of_ble_eq_true rfl)
  replace hX := hX.go hE
  clear hE
  refine s_putF (L' := Lm_4) hX hq.ni (show FI RX12 24 12 4 RX12 TX12 41 from ⟨rfl, by decide, fw_X12, wd_fl_X12_24⟩) fp_X12 rfl rfl rfl (fun _ => ⟨rfl, rfl⟩) (f := .inr none) rfl rfl rfl dX12_init_19 ?_
  refine s_aload_n hX dX12_init_22 rfl ?_
  refine s_sipush (v := nI 1002) hX dX12_init_23 rfl ?_
  refine s_nwi (n := 1002) (L' := Lm_5) hX (hz.mono (Nat.le_of_ble_eq_true rfl)) rfl (by decide) rfl rfl rfl (Nat.le_of_ble_eq_true rfl) (Nat.le_of_ble_eq_true rfl) dX12_init_26 rfl (fun X1 hE => ?_)
  replace hT := hT.go hE (Nat.le_of_ble_eq_true rfl)
  replace hq := hq.go hE (Nat.le_of_ble_eq_true rfl) (Nat.le_of_ble_eq_true rfl)
  replace hX := hX.go hE
  clear hE
  refine s_putF (L' := Lm_6) hX hq.ni (show FI RX12 27 12 5 RX12 TX12 41 from ⟨rfl, by decide, fw_X12, wd_fl_X12_27⟩) fp_X12 rfl rfl rfl (fun _ => ⟨rfl, rfl⟩) (f := .inr none) rfl rfl rfl dX12_init_28 ?_
  refine s_aload_n hX dX12_init_31 rfl ?_
  refine s_sipush (v := nI 1002) hX dX12_init_32 rfl ?_
  refine s_nwl (n := 1002) (L' := Lm_7) hX (hz.mono (Nat.le_of_ble_eq_true rfl)) rfl (by decide) rfl rfl rfl (Nat.le_of_ble_eq_true rfl) (Nat.le_of_ble_eq_true rfl) dX12_init_35 rfl (fun X1 hE => ?_)
  replace hT := hT.go hE (Nat.le_of_ble_eq_true rfl)
  replace hq := hq.go hE (Nat.le_of_ble_eq_true rfl) (Nat.le_of_ble_eq_true rfl)
  replace hX := hX.go hE
  clear hE
  refine s_putF (L' := Lm_8) hX hq.ni (show FI RX12 30 12 6 RX12 TX12 41 from ⟨rfl, by decide, fw_X12, wd_fl_X12_30⟩) fp_X12 rfl rfl rfl (fun _ => ⟨rfl, rfl⟩) (f := .inr none) rfl rfl rfl dX12_init_37 ?_
  refine s_aload_n hX dX12_init_40 rfl ?_
  refine s_bipush (v := nI 24) hX dX12_init_41 rfl ?_
  refine s_nwl (n := 24) (L' := Lm_9) hX (hz.mono (Nat.le_of_ble_eq_true rfl)) rfl (by decide) rfl rfl rfl (Nat.le_of_ble_eq_true rfl) (Nat.le_of_ble_eq_true rfl) dX12_init_43 rfl (fun X1 hE => ?_)
  replace hT := hT.go hE (Nat.le_of_ble_eq_true rfl)
  replace hq := hq.go hE (Nat.le_of_ble_eq_true rfl) (Nat.le_of_ble_eq_true rfl)
  replace hX := hX.go hE
  clear hE
  refine s_dup hX dX12_init_45 rfl ?_
  refine s_iconst (v := (nI 0)) hX dX12_init_46 rfl ?_
  refine s_ldc2 hX wd_cj_X12_34 dX12_init_47 ?_
  refine s_last (n := 24) (rs := []) hX rfl (vp_in_nI (n := 0) (by decide) (by decide)) dX12_init_50 ?_
  replace hz := (hz.mono (b := 75) (Nat.le_of_ble_eq_true rfl)).sl (k := c_mo_words) (j := Int32.toNatClampNeg (nI 0)) (v := 15466056) (by decide)
  refine s_dup hX dX12_init_51 rfl ?_
  refine s_iconst (v := (nI 1)) hX dX12_init_52 rfl ?_
  refine s_ldc2 hX wd_cj_X12_36 dX12_init_53 ?_
  refine s_last (n := 24) (rs := []) hX rfl (vp_in_nI (n := 1) (by decide) (by decide)) dX12_init_56 ?_
  replace hz := (hz.mono (b := 75) (Nat.le_of_ble_eq_true rfl)).sl (k := c_mo_words) (j := Int32.toNatClampNeg (nI 1)) (v := 1119812451) (by decide)
  refine s_dup hX dX12_init_57 rfl ?_
  refine s_iconst (v := (nI 2)) hX dX12_init_58 rfl ?_
  refine s_ldc2 hX wd_cj_X12_38 dX12_init_59 ?_
  refine s_last (n := 24) (rs := []) hX rfl (vp_in_nI (n := 2) (by decide) (by decide)) dX12_init_62 ?_
  replace hz := (hz.mono (b := 75) (Nat.le_of_ble_eq_true rfl)).sl (k := c_mo_words) (j := Int32.toNatClampNeg (nI 2)) (v := 57) (by decide)
  refine s_dup hX dX12_init_63 rfl ?_
  refine s_iconst (v := (nI 3)) hX dX12_init_64 rfl ?_
  refine s_ldc2 hX wd_cj_X12_40 dX12_init_65 ?_
  refine s_last (n := 24) (rs := []) hX rfl (vp_in_nI (n := 3) (by decide) (by decide)) dX12_init_68 ?_
  replace hz := (hz.mono (b := 75) (Nat.le_of_ble_eq_true rfl)).sl (k := c_mo_words) (j := Int32.toNatClampNeg (nI 3)) (v := 31075639) (by decide)
  refine s_dup hX dX12_init_69 rfl ?_
  refine s_iconst (v := (nI 4)) hX dX12_init_70 rfl ?_
  refine s_ldc2 hX wd_cj_X12_42 dX12_init_71 ?_
  refine s_last (n := 24) (rs := []) hX rfl (vp_in_nI (n := 4) (by decide) (by decide)) dX12_init_74 ?_
  replace hz := (hz.mono (b := 75) (Nat.le_of_ble_eq_true rfl)).sl (k := c_mo_words) (j := Int32.toNatClampNeg (nI 4)) (v := 274) (by decide)
  refine s_dup hX dX12_init_75 rfl ?_
  refine s_iconst (v := (nI 5)) hX dX12_init_76 rfl ?_
  refine s_ldc2 hX wd_cj_X12_44 dX12_init_77 ?_
  refine s_last (n := 24) (rs := []) hX rfl (vp_in_nI (n := 5) (by decide) (by decide)) dX12_init_80 ?_
  replace hz := (hz.mono (b := 75) (Nat.le_of_ble_eq_true rfl)).sl (k := c_mo_words) (j := Int32.toNatClampNeg (nI 5)) (v := 426554) (by decide)
  refine s_dup hX dX12_init_81 rfl ?_
  refine s_bipush (v := nI 6) hX dX12_init_82 rfl ?_
  refine s_ldc2 hX wd_cj_X12_46 dX12_init_84 ?_
  refine s_last (n := 24) (rs := []) hX rfl (vp_in_nI (n := 6) (by decide) (by decide)) dX12_init_87 ?_
  replace hz := (hz.mono (b := 75) (Nat.le_of_ble_eq_true rfl)).sl (k := c_mo_words) (j := Int32.toNatClampNeg (nI 6)) (v := 114297) (by decide)
  refine s_dup hX dX12_init_88 rfl ?_
  refine s_bipush (v := nI 7) hX dX12_init_89 rfl ?_
  refine s_ldc2 hX wd_cj_X12_48 dX12_init_91 ?_
  refine s_last (n := 24) (rs := []) hX rfl (vp_in_nI (n := 7) (by decide) (by decide)) dX12_init_94 ?_
  replace hz := (hz.mono (b := 75) (Nat.le_of_ble_eq_true rfl)).sl (k := c_mo_words) (j := Int32.toNatClampNeg (nI 7)) (v := 153784) (by decide)
  refine s_dup hX dX12_init_95 rfl ?_
  refine s_bipush (v := nI 8) hX dX12_init_96 rfl ?_
  refine s_ldc2 hX wd_cj_X12_50 dX12_init_98 ?_
  refine s_last (n := 24) (rs := []) hX rfl (vp_in_nI (n := 8) (by decide) (by decide)) dX12_init_101 ?_
  replace hz := (hz.mono (b := 75) (Nat.le_of_ble_eq_true rfl)).sl (k := c_mo_words) (j := Int32.toNatClampNeg (nI 8)) (v := 37957098) (by decide)
  refine s_dup hX dX12_init_102 rfl ?_
  refine s_bipush (v := nI 9) hX dX12_init_103 rfl ?_
  refine s_ldc2 hX wd_cj_X12_52 dX12_init_105 ?_
  refine s_last (n := 24) (rs := []) hX rfl (vp_in_nI (n := 9) (by decide) (by decide)) dX12_init_108 ?_
  replace hz := (hz.mono (b := 75) (Nat.le_of_ble_eq_true rfl)).sl (k := c_mo_words) (j := Int32.toNatClampNeg (nI 9)) (v := 21391) (by decide)
  refine s_dup hX dX12_init_109 rfl ?_
  refine s_bipush (v := nI 10) hX dX12_init_110 rfl ?_
  refine s_ldc2 hX wd_cj_X12_54 dX12_init_112 ?_
  refine s_last (n := 24) (rs := []) hX rfl (vp_in_nI (n := 10) (by decide) (by decide)) dX12_init_115 ?_
  replace hz := (hz.mono (b := 75) (Nat.le_of_ble_eq_true rfl)).sl (k := c_mo_words) (j := Int32.toNatClampNeg (nI 10)) (v := 8776) (by decide)
  refine s_dup hX dX12_init_116 rfl ?_
  refine s_bipush (v := nI 11) hX dX12_init_117 rfl ?_
  refine s_ldc2 hX wd_cj_X12_56 dX12_init_119 ?_
  refine s_last (n := 24) (rs := []) hX rfl (vp_in_nI (n := 11) (by decide) (by decide)) dX12_init_122 ?_
  replace hz := (hz.mono (b := 75) (Nat.le_of_ble_eq_true rfl)).sl (k := c_mo_words) (j := Int32.toNatClampNeg (nI 11)) (v := 412124) (by decide)
  refine s_dup hX dX12_init_123 rfl ?_
  refine s_bipush (v := nI 12) hX dX12_init_124 rfl ?_
  refine s_ldc2 hX wd_cj_X12_58 dX12_init_126 ?_
  refine s_last (n := 24) (rs := []) hX rfl (vp_in_nI (n := 12) (by decide) (by decide)) dX12_init_129 ?_
  replace hz := (hz.mono (b := 75) (Nat.le_of_ble_eq_true rfl)).sl (k := c_mo_words) (j := Int32.toNatClampNeg (nI 12)) (v := 30596128) (by decide)
  refine s_dup hX dX12_init_130 rfl ?_
  refine s_bipush (v := nI 13) hX dX12_init_131 rfl ?_
  refine s_ldc2 hX wd_cj_X12_60 dX12_init_133 ?_
  refine s_last (n := 24) (rs := []) hX rfl (vp_in_nI (n := 13) (by decide) (by decide)) dX12_init_136 ?_
  replace hz := (hz.mono (b := 75) (Nat.le_of_ble_eq_true rfl)).sl (k := c_mo_words) (j := Int32.toNatClampNeg (nI 13)) (v := 209500) (by decide)
  refine s_dup hX dX12_init_137 rfl ?_
  refine s_bipush (v := nI 14) hX dX12_init_138 rfl ?_
  refine s_ldc2 hX wd_cj_X12_62 dX12_init_140 ?_
  refine s_last (n := 24) (rs := []) hX rfl (vp_in_nI (n := 14) (by decide) (by decide)) dX12_init_143 ?_
  replace hz := (hz.mono (b := 75) (Nat.le_of_ble_eq_true rfl)).sl (k := c_mo_words) (j := Int32.toNatClampNeg (nI 14)) (v := 6040476) (by decide)
  refine s_dup hX dX12_init_144 rfl ?_
  refine s_bipush (v := nI 15) hX dX12_init_145 rfl ?_
  refine s_ldc2 hX wd_cj_X12_64 dX12_init_147 ?_
  refine s_last (n := 24) (rs := []) hX rfl (vp_in_nI (n := 15) (by decide) (by decide)) dX12_init_150 ?_
  replace hz := (hz.mono (b := 75) (Nat.le_of_ble_eq_true rfl)).sl (k := c_mo_words) (j := Int32.toNatClampNeg (nI 15)) (v := 924194) (by decide)
  refine s_dup hX dX12_init_151 rfl ?_
  refine s_bipush (v := nI 16) hX dX12_init_152 rfl ?_
  refine s_ldc2 hX wd_cj_X12_66 dX12_init_154 ?_
  refine s_last (n := 24) (rs := []) hX rfl (vp_in_nI (n := 16) (by decide) (by decide)) dX12_init_157 ?_
  replace hz := (hz.mono (b := 75) (Nat.le_of_ble_eq_true rfl)).sl (k := c_mo_words) (j := Int32.toNatClampNeg (nI 16)) (v := 26332) (by decide)
  refine s_dup hX dX12_init_158 rfl ?_
  refine s_bipush (v := nI 17) hX dX12_init_159 rfl ?_
  refine s_ldc2 hX wd_cj_X12_68 dX12_init_161 ?_
  refine s_last (n := 24) (rs := []) hX rfl (vp_in_nI (n := 17) (by decide) (by decide)) dX12_init_164 ?_
  replace hz := (hz.mono (b := 75) (Nat.le_of_ble_eq_true rfl)).sl (k := c_mo_words) (j := Int32.toNatClampNeg (nI 17)) (v := 19741) (by decide)
  refine s_dup hX dX12_init_165 rfl ?_
  refine s_bipush (v := nI 18) hX dX12_init_166 rfl ?_
  refine s_ldc2 hX wd_cj_X12_70 dX12_init_168 ?_
  refine s_last (n := 24) (rs := []) hX rfl (vp_in_nI (n := 18) (by decide) (by decide)) dX12_init_171 ?_
  replace hz := (hz.mono (b := 75) (Nat.le_of_ble_eq_true rfl)).sl (k := c_mo_words) (j := Int32.toNatClampNeg (nI 18)) (v := 1891) (by decide)
  refine s_dup hX dX12_init_172 rfl ?_
  refine s_bipush (v := nI 19) hX dX12_init_173 rfl ?_
  refine s_ldc2 hX wd_cj_X12_72 dX12_init_175 ?_
  refine s_last (n := 24) (rs := []) hX rfl (vp_in_nI (n := 19) (by decide) (by decide)) dX12_init_178 ?_
  replace hz := (hz.mono (b := 75) (Nat.le_of_ble_eq_true rfl)).sl (k := c_mo_words) (j := Int32.toNatClampNeg (nI 19)) (v := 573) (by decide)
  refine s_dup hX dX12_init_179 rfl ?_
  refine s_bipush (v := nI 20) hX dX12_init_180 rfl ?_
  refine s_ldc2 hX wd_cj_X12_74 dX12_init_182 ?_
  refine s_last (n := 24) (rs := []) hX rfl (vp_in_nI (n := 20) (by decide) (by decide)) dX12_init_185 ?_
  replace hz := (hz.mono (b := 75) (Nat.le_of_ble_eq_true rfl)).sl (k := c_mo_words) (j := Int32.toNatClampNeg (nI 20)) (v := 8269) (by decide)
  refine s_dup hX dX12_init_186 rfl ?_
  refine s_bipush (v := nI 21) hX dX12_init_187 rfl ?_
  refine s_ldc2 hX wd_cj_X12_76 dX12_init_189 ?_
  refine s_last (n := 24) (rs := []) hX rfl (vp_in_nI (n := 21) (by decide) (by decide)) dX12_init_192 ?_
  replace hz := (hz.mono (b := 75) (Nat.le_of_ble_eq_true rfl)).sl (k := c_mo_words) (j := Int32.toNatClampNeg (nI 21)) (v := 716042) (by decide)
  refine s_dup hX dX12_init_193 rfl ?_
  refine s_bipush (v := nI 22) hX dX12_init_194 rfl ?_
  refine s_ldc2 hX wd_cj_X12_78 dX12_init_196 ?_
  refine s_last (n := 24) (rs := []) hX rfl (vp_in_nI (n := 22) (by decide) (by decide)) dX12_init_199 ?_
  replace hz := (hz.mono (b := 75) (Nat.le_of_ble_eq_true rfl)).sl (k := c_mo_words) (j := Int32.toNatClampNeg (nI 22)) (v := 24) (by decide)
  refine s_dup hX dX12_init_200 rfl ?_
  refine s_bipush (v := nI 23) hX dX12_init_201 rfl ?_
  refine s_ldc2 hX wd_cj_X12_80 dX12_init_203 ?_
  refine s_last (n := 24) (rs := []) hX rfl (vp_in_nI (n := 23) (by decide) (by decide)) dX12_init_206 ?_
  replace hz := (hz.mono (b := 75) (Nat.le_of_ble_eq_true rfl)).sl (k := c_mo_words) (j := Int32.toNatClampNeg (nI 23)) (v := 25) (by decide)
  refine s_putF (L' := Lm_10) hX hq.ni (show FI RX12 82 12 9 RX12 TX12 41 from ⟨rfl, by decide, fw_X12, wd_fl_X12_82⟩) fp_X12 rfl rfl rfl (fun _ => ⟨rfl, rfl⟩) (f := .inr none) rfl rfl rfl dX12_init_207 ?_
  refine s_aload_n hX dX12_init_210 rfl ?_
  refine s_sipush (v := nI 360) hX dX12_init_211 rfl ?_
  refine s_nwi (n := 360) (L' := Lm_11) hX (hz.mono (Nat.le_of_ble_eq_true rfl)) rfl (by decide) rfl rfl rfl (Nat.le_of_ble_eq_true rfl) (Nat.le_of_ble_eq_true rfl) dX12_init_214 rfl (fun X1 hE => ?_)
  replace hT := hT.go hE (Nat.le_of_ble_eq_true rfl)
  replace hq := hq.go hE (Nat.le_of_ble_eq_true rfl) (Nat.le_of_ble_eq_true rfl)
  replace hX := hX.go hE
  clear hE
  refine s_putF (L' := Lm_12) hX hq.ni (show FI RX12 85 12 10 RX12 TX12 41 from ⟨rfl, by decide, fw_X12, wd_fl_X12_85⟩) fp_X12 rfl rfl rfl (fun _ => ⟨rfl, rfl⟩) (f := .inr none) rfl rfl rfl dX12_init_216 ?_
  refine s_aload_n hX dX12_init_219 rfl ?_
  refine s_bipush (v := nI 120) hX dX12_init_220 rfl ?_
  refine s_nwi (n := 120) (L' := Lm_13) hX (hz.mono (Nat.le_of_ble_eq_true rfl)) rfl (by decide) rfl rfl rfl (Nat.le_of_ble_eq_true rfl) (Nat.le_of_ble_eq_true rfl) dX12_init_222 rfl (fun X1 hE => ?_)
  replace hT := hT.go hE (Nat.le_of_ble_eq_true rfl)
  replace hq := hq.go hE (Nat.le_of_ble_eq_true rfl) (Nat.le_of_ble_eq_true rfl)
  replace hX := hX.go hE
  clear hE
  refine s_putF (L' := Lm_14) hX hq.ni (show FI RX12 88 12 11 RX12 TX12 41 from ⟨rfl, by decide, fw_X12, wd_fl_X12_88⟩) fp_X12 rfl rfl rfl (fun _ => ⟨rfl, rfl⟩) (f := .inr none) rfl rfl rfl dX12_init_224 ?_
  refine s_aload_n hX dX12_init_227 rfl ?_
  refine s_sipush (v := nI 144) hX dX12_init_228 rfl ?_
  refine s_nwi (n := 144) (L' := Lm_15) hX (hz.mono (Nat.le_of_ble_eq_true rfl)) rfl (by decide) rfl rfl rfl (Nat.le_of_ble_eq_true rfl) (Nat.le_of_ble_eq_true rfl) dX12_init_231 rfl (fun X1 hE => ?_)
  replace hT := hT.go hE (Nat.le_of_ble_eq_true rfl)
  replace hq := hq.go hE (Nat.le_of_ble_eq_true rfl) (Nat.le_of_ble_eq_true rfl)
  replace hX := hX.go hE
  clear hE
  refine s_putF (L' := Lm_16) hX hq.ni (show FI RX12 91 12 12 RX12 TX12 41 from ⟨rfl, by decide, fw_X12, wd_fl_X12_91⟩) fp_X12 rfl rfl rfl (fun _ => ⟨rfl, rfl⟩) (f := .inr none) rfl rfl rfl dX12_init_233 ?_
  refine s_aload_n hX dX12_init_236 rfl ?_
  refine s_sipush (v := nI 2200) hX dX12_init_237 rfl ?_
  refine s_nwi (n := 2200) (L' := Lm_17) hX (hz.mono (Nat.le_of_ble_eq_true rfl)) rfl (by decide) rfl rfl rfl (Nat.le_of_ble_eq_true rfl) (Nat.le_of_ble_eq_true rfl) dX12_init_240 rfl (fun X1 hE => ?_)
  replace hT := hT.go hE (Nat.le_of_ble_eq_true rfl)
  replace hq := hq.go hE (Nat.le_of_ble_eq_true rfl) (Nat.le_of_ble_eq_true rfl)
  replace hX := hX.go hE
  clear hE
  refine s_putF (L' := Lm_18) hX hq.ni (show FI RX12 94 12 13 RX12 TX12 41 from ⟨rfl, by decide, fw_X12, wd_fl_X12_94⟩) fp_X12 rfl rfl rfl (fun _ => ⟨rfl, rfl⟩) (f := .inr none) rfl rfl rfl dX12_init_242 ?_
  refine s_aload_n hX dX12_init_245 rfl ?_
  refine s_sipush (v := nI 2200) hX dX12_init_246 rfl ?_
  refine s_nwi (n := 2200) (L' := Lm_19) hX (hz.mono (Nat.le_of_ble_eq_true rfl)) rfl (by decide) rfl rfl rfl (Nat.le_of_ble_eq_true rfl) (Nat.le_of_ble_eq_true rfl) dX12_init_249 rfl (fun X1 hE => ?_)
  replace hT := hT.go hE (Nat.le_of_ble_eq_true rfl)
  replace hq := hq.go hE (Nat.le_of_ble_eq_true rfl) (Nat.le_of_ble_eq_true rfl)
  replace hX := hX.go hE
  clear hE
  refine s_putF (L' := Lm_20) hX hq.ni (show FI RX12 97 12 14 RX12 TX12 41 from ⟨rfl, by decide, fw_X12, wd_fl_X12_97⟩) fp_X12 rfl rfl rfl (fun _ => ⟨rfl, rfl⟩) (f := .inr none) rfl rfl rfl dX12_init_251 ?_
  refine s_aload_n hX dX12_init_254 rfl ?_
  refine s_bipush (v := nI 11) hX dX12_init_255 rfl ?_
  refine s_nwl (n := 11) (L' := Lm_21) hX (hz.mono (Nat.le_of_ble_eq_true rfl)) rfl (by decide) rfl rfl rfl (Nat.le_of_ble_eq_true rfl) (Nat.le_of_ble_eq_true rfl) dX12_init_257 rfl (fun X1 hE => ?_)
  replace hT := hT.go hE (Nat.le_of_ble_eq_true rfl)
  replace hq := hq.go hE (Nat.le_of_ble_eq_true rfl) (Nat.le_of_ble_eq_true rfl)
  replace hX := hX.go hE
  clear hE
  refine s_putF (L' := Lm_22) hX hq.ni (show FI RX12 100 12 16 RX12 TX12 41 from ⟨rfl, by decide, fw_X12, wd_fl_X12_100⟩) fp_X12 rfl rfl rfl (fun _ => ⟨rfl, rfl⟩) (f := .inr none) rfl rfl rfl dX12_init_259 ?_
  refine s_aload_n hX dX12_init_262 rfl ?_
  refine s_bipush (v := nI 11) hX dX12_init_263 rfl ?_
  refine s_nwi (n := 11) (L' := Lm_23) hX (hz.mono (Nat.le_of_ble_eq_true rfl)) rfl (by decide) rfl rfl rfl (Nat.le_of_ble_eq_true rfl) (Nat.le_of_ble_eq_true rfl) dX12_init_265 rfl (fun X1 hE => ?_)
  replace hT := hT.go hE (Nat.le_of_ble_eq_true rfl)
  replace hq := hq.go hE (Nat.le_of_ble_eq_true rfl) (Nat.le_of_ble_eq_true rfl)
  replace hX := hX.go hE
  clear hE
  refine s_putF (L' := Lm_24) hX hq.ni (show FI RX12 103 12 17 RX12 TX12 41 from ⟨rfl, by decide, fw_X12, wd_fl_X12_103⟩) fp_X12 rfl rfl rfl (fun _ => ⟨rfl, rfl⟩) (f := .inr none) rfl rfl rfl dX12_init_267 ?_
  refine s_aload_n hX dX12_init_270 rfl ?_
  refine s_bipush (v := nI 6) hX dX12_init_271 rfl ?_
  refine s_nwi (n := 6) (L' := Lm_25) hX (hz.mono (Nat.le_of_ble_eq_true rfl)) rfl (by decide) rfl rfl rfl (Nat.le_of_ble_eq_true rfl) (Nat.le_of_ble_eq_true rfl) dX12_init_273 rfl (fun X1 hE => ?_)
  replace hT := hT.go hE (Nat.le_of_ble_eq_true rfl)
  replace hq := hq.go hE (Nat.le_of_ble_eq_true rfl) (Nat.le_of_ble_eq_true rfl)
  replace hX := hX.go hE
  clear hE
  refine s_dup hX dX12_init_275 rfl ?_
  refine s_iconst (v := (nI 0)) hX dX12_init_276 rfl ?_
  refine s_iconst (v := (nI 5)) hX dX12_init_277 rfl ?_
  refine s_iast (n := 6) (rs := []) hX rfl (vp_in_nI (n := 0) (by decide) (by decide)) dX12_init_278 ?_
  replace hz := (hz.mono (b := 83) (Nat.le_of_ble_eq_true rfl)).si (k := c_mo_factWords) (j := Int32.toNatClampNeg (nI 0)) (v := (nI 5)) (by decide)
  refine s_dup hX dX12_init_279 rfl ?_
  refine s_iconst (v := (nI 1)) hX dX12_init_280 rfl ?_
  refine s_bipush (v := nI 20) hX dX12_init_281 rfl ?_
  refine s_iast (n := 6) (rs := []) hX rfl (vp_in_nI (n := 1) (by decide) (by decide)) dX12_init_283 ?_
  replace hz := (hz.mono (b := 83) (Nat.le_of_ble_eq_true rfl)).si (k := c_mo_factWords) (j := Int32.toNatClampNeg (nI 1)) (v := (nI 20)) (by decide)
  refine s_dup hX dX12_init_284 rfl ?_
  refine s_iconst (v := (nI 2)) hX dX12_init_285 rfl ?_
  refine s_bipush (v := nI 21) hX dX12_init_286 rfl ?_
  refine s_iast (n := 6) (rs := []) hX rfl (vp_in_nI (n := 2) (by decide) (by decide)) dX12_init_288 ?_
  replace hz := (hz.mono (b := 83) (Nat.le_of_ble_eq_true rfl)).si (k := c_mo_factWords) (j := Int32.toNatClampNeg (nI 2)) (v := (nI 21)) (by decide)
  refine s_dup hX dX12_init_289 rfl ?_
  refine s_iconst (v := (nI 3)) hX dX12_init_290 rfl ?_
  refine s_bipush (v := nI 8) hX dX12_init_291 rfl ?_
  refine s_iast (n := 6) (rs := []) hX rfl (vp_in_nI (n := 3) (by decide) (by decide)) dX12_init_293 ?_
  replace hz := (hz.mono (b := 83) (Nat.le_of_ble_eq_true rfl)).si (k := c_mo_factWords) (j := Int32.toNatClampNeg (nI 3)) (v := (nI 8)) (by decide)
  refine s_dup hX dX12_init_294 rfl ?_
  refine s_iconst (v := (nI 4)) hX dX12_init_295 rfl ?_
  refine s_bipush (v := nI 22) hX dX12_init_296 rfl ?_
  refine s_iast (n := 6) (rs := []) hX rfl (vp_in_nI (n := 4) (by decide) (by decide)) dX12_init_298 ?_
  replace hz := (hz.mono (b := 83) (Nat.le_of_ble_eq_true rfl)).si (k := c_mo_factWords) (j := Int32.toNatClampNeg (nI 4)) (v := (nI 22)) (by decide)
  refine s_dup hX dX12_init_299 rfl ?_
  refine s_iconst (v := (nI 5)) hX dX12_init_300 rfl ?_
  refine s_bipush (v := nI 23) hX dX12_init_301 rfl ?_
  refine s_iast (n := 6) (rs := []) hX rfl (vp_in_nI (n := 5) (by decide) (by decide)) dX12_init_303 ?_
  replace hz := (hz.mono (b := 83) (Nat.le_of_ble_eq_true rfl)).si (k := c_mo_factWords) (j := Int32.toNatClampNeg (nI 5)) (v := (nI 23)) (by decide)
  refine s_putF (L' := Lm_26) hX hq.ni (show FI RX12 106 12 23 RX12 TX12 41 from ⟨rfl, by decide, fw_X12, wd_fl_X12_106⟩) fp_X12 rfl rfl rfl (fun _ => ⟨rfl, rfl⟩) (f := .inr none) rfl rfl rfl dX12_init_304 ?_
  refine s_aload_n hX dX12_init_307 rfl ?_
  refine s_bipush (v := nI 6) hX dX12_init_308 rfl ?_
  refine s_nwi (n := 6) (L' := Lm_27) hX (hz.mono (Nat.le_of_ble_eq_true rfl)) rfl (by decide) rfl rfl rfl (Nat.le_of_ble_eq_true rfl) (Nat.le_of_ble_eq_true rfl) dX12_init_310 rfl (fun X1 hE => ?_)
  replace hT := hT.go hE (Nat.le_of_ble_eq_true rfl)
  replace hq := hq.go hE (Nat.le_of_ble_eq_true rfl) (Nat.le_of_ble_eq_true rfl)
  replace hX := hX.go hE
  clear hE
  refine s_putF (L' := Lm_28) hX hq.ni (show FI RX12 109 12 24 RX12 TX12 41 from ⟨rfl, by decide, fw_X12, wd_fl_X12_109⟩) fp_X12 rfl rfl rfl (fun _ => ⟨rfl, rfl⟩) (f := .inr none) rfl rfl rfl dX12_init_312 ?_
  refine s_aload_n hX dX12_init_315 rfl ?_
  refine s_sipush (v := nI 1100) hX dX12_init_316 rfl ?_
  refine s_nwi (n := 1100) (L' := Lm_29) hX (hz.mono (Nat.le_of_ble_eq_true rfl)) rfl (by decide) rfl rfl rfl (Nat.le_of_ble_eq_true rfl) (Nat.le_of_ble_eq_true rfl) dX12_init_319 rfl (fun X1 hE => ?_)
  replace hT := hT.go hE (Nat.le_of_ble_eq_true rfl)
  replace hq := hq.go hE (Nat.le_of_ble_eq_true rfl) (Nat.le_of_ble_eq_true rfl)
  replace hX := hX.go hE
  clear hE
  refine s_putF (L' := Lm_30) hX hq.ni (show FI RX12 112 12 25 RX12 TX12 41 from ⟨rfl, by decide, fw_X12, wd_fl_X12_112⟩) fp_X12 rfl rfl rfl (fun _ => ⟨rfl, rfl⟩) (f := .inr none) rfl rfl rfl dX12_init_321 ?_
  refine s_aload_n hX dX12_init_324 rfl ?_
  refine s_sipush (v := nI 3200) hX dX12_init_325 rfl ?_
  refine s_nwi (n := 3200) (L' := Lm_31) hX (hz.mono (Nat.le_of_ble_eq_true rfl)) rfl (by decide) rfl rfl rfl (Nat.le_of_ble_eq_true rfl) (Nat.le_of_ble_eq_true rfl) dX12_init_328 rfl (fun X1 hE => ?_)
  replace hT := hT.go hE (Nat.le_of_ble_eq_true rfl)
  replace hq := hq.go hE (Nat.le_of_ble_eq_true rfl) (Nat.le_of_ble_eq_true rfl)
  replace hX := hX.go hE
  clear hE
  refine s_putF (L' := Lm_32) hX hq.ni (show FI RX12 115 12 26 RX12 TX12 41 from ⟨rfl, by decide, fw_X12, wd_fl_X12_115⟩) fp_X12 rfl rfl rfl (fun _ => ⟨rfl, rfl⟩) (f := .inr none) rfl rfl rfl dX12_init_330 ?_
  refine s_aload_n hX dX12_init_333 rfl ?_
  refine s_iconst (v := (nI 4)) hX dX12_init_334 rfl ?_
  refine s_nwz (n := 4) (L' := Lm_33) hX (hz.mono (Nat.le_of_ble_eq_true rfl)) rfl (by decide) rfl rfl rfl (Nat.le_of_ble_eq_true rfl) (Nat.le_of_ble_eq_true rfl) dX12_init_335 rfl (fun X1 hE => ?_)
  replace hT := hT.go hE (Nat.le_of_ble_eq_true rfl)
  replace hq := hq.go hE (Nat.le_of_ble_eq_true rfl) (Nat.le_of_ble_eq_true rfl)
  replace hX := hX.go hE
  clear hE
  refine s_putF (L' := Lm_34) hX hq.ni (show FI RX12 118 12 28 RX12 TX12 41 from ⟨rfl, by decide, fw_X12, wd_fl_X12_118⟩) fp_X12 rfl rfl rfl (fun _ => ⟨rfl, rfl⟩) (f := .inr none) rfl rfl rfl dX12_init_337 ?_
  refine s_aload_n hX dX12_init_340 rfl ?_
  refine s_bipush (v := nI 6) hX dX12_init_341 rfl ?_
  refine s_nwi (n := 6) (L' := Lm_35) hX (hz.mono (Nat.le_of_ble_eq_true rfl)) rfl (by decide) rfl rfl rfl (Nat.le_of_ble_eq_true rfl) (Nat.le_of_ble_eq_true rfl) dX12_init_343 rfl (fun X1 hE => ?_)
  replace hT := hT.go hE (Nat.le_of_ble_eq_true rfl)
  replace hq := hq.go hE (Nat.le_of_ble_eq_true rfl) (Nat.le_of_ble_eq_true rfl)
  replace hX := hX.go hE
  clear hE
  refine s_putF (L' := Lm_36) hX hq.ni (show FI RX12 122 12 29 RX12 TX12 41 from ⟨rfl, by decide, fw_X12, wd_fl_X12_122⟩) fp_X12 rfl rfl rfl (fun _ => ⟨rfl, rfl⟩) (f := .inr none) rfl rfl rfl dX12_init_345 ?_
  refine s_aload_n hX dX12_init_348 rfl ?_
  refine s_bipush (v := nI 24) hX dX12_init_349 rfl ?_
  refine s_puti hX (show FI RX12 125 12 30 RX12 TX12 41 from ⟨rfl, by decide, fw_X12, wd_fl_X12_125⟩) fp_X12 rfl rfl (fs := [.inl true, .inr (some c_mo_tape), .inl true, .inl true, .inr (some c_mo_sort), .inr (some c_mo_place), .inr (some c_mo_value), .inl true, .inl true, .inr (some c_mo_words), .inr (some c_mo_lands), .inr (some c_mo_readCalls), .inr (some c_mo_goes), .inr (some c_mo_op), .inr (some c_mo_arg), .inl true, .inr (some c_mo_names), .inr (some c_mo_nameOf), .inl true, .inl true, .inl true, .inl true, .inl true, .inr (some c_mo_factWords), .inr (some c_mo_facts), .inr (some c_mo_pile), .inr (some c_mo_state), .inl true, .inr (some c_mo_isMarked), .inr (some c_mo_standing), .inl true, .inl true, .inr none, .inl true, .inl true, .inr none, .inr none, .inr none, .inr none, .inl true, .inr none]) rfl rfl dX12_init_351 ?_
  replace hz := (hz.mono (b := 88) (Nat.le_of_ble_eq_true rfl)).si (k := c_mo) (j := 30) (v := (nI 24)) (by decide)
  refine s_aload_n hX dX12_init_354 rfl ?_
  refine s_iconst (v := (-1)) hX dX12_init_355 rfl ?_
  refine s_puti hX (show FI RX12 128 12 31 RX12 TX12 41 from ⟨rfl, by decide, fw_X12, wd_fl_X12_128⟩) fp_X12 rfl rfl (fs := [.inl true, .inr (some c_mo_tape), .inl true, .inl true, .inr (some c_mo_sort), .inr (some c_mo_place), .inr (some c_mo_value), .inl true, .inl true, .inr (some c_mo_words), .inr (some c_mo_lands), .inr (some c_mo_readCalls), .inr (some c_mo_goes), .inr (some c_mo_op), .inr (some c_mo_arg), .inl true, .inr (some c_mo_names), .inr (some c_mo_nameOf), .inl true, .inl true, .inl true, .inl true, .inl true, .inr (some c_mo_factWords), .inr (some c_mo_facts), .inr (some c_mo_pile), .inr (some c_mo_state), .inl true, .inr (some c_mo_isMarked), .inr (some c_mo_standing), .inl true, .inl true, .inr none, .inl true, .inl true, .inr none, .inr none, .inr none, .inr none, .inl true, .inr none]) rfl rfl dX12_init_356 ?_
  replace hz := (hz.mono (b := 88) (Nat.le_of_ble_eq_true rfl)).si (k := c_mo) (j := 31) (v := (-1)) (by decide)
  refine s_aload_n hX dX12_init_359 rfl ?_
  refine s_bipush (v := nI 36) hX dX12_init_360 rfl ?_
  refine s_nwi (n := 36) (L' := Lm_37) hX (hz.mono (Nat.le_of_ble_eq_true rfl)) rfl (by decide) rfl rfl rfl (Nat.le_of_ble_eq_true rfl) (Nat.le_of_ble_eq_true rfl) dX12_init_362 rfl (fun X1 hE => ?_)
  replace hT := hT.go hE (Nat.le_of_ble_eq_true rfl)
  replace hq := hq.go hE (Nat.le_of_ble_eq_true rfl) (Nat.le_of_ble_eq_true rfl)
  replace hX := hX.go hE
  clear hE
  refine s_putF (L' := Lm_38) hX hq.ni (show FI RX12 131 12 32 RX12 TX12 41 from ⟨rfl, by decide, fw_X12, wd_fl_X12_131⟩) fp_X12 rfl rfl rfl (fun _ => ⟨rfl, rfl⟩) (f := .inr none) rfl rfl rfl dX12_init_364 ?_
  refine s_aload_n hX dX12_init_367 rfl ?_
  refine s_sipush (v := nI 306) hX dX12_init_368 rfl ?_
  refine s_nwi (n := 306) (L' := Lm_39) hX (hz.mono (Nat.le_of_ble_eq_true rfl)) rfl (by decide) rfl rfl rfl (Nat.le_of_ble_eq_true rfl) (Nat.le_of_ble_eq_true rfl) dX12_init_371 rfl (fun X1 hE => ?_)
  replace hT := hT.go hE (Nat.le_of_ble_eq_true rfl)
  replace hq := hq.go hE (Nat.le_of_ble_eq_true rfl) (Nat.le_of_ble_eq_true rfl)
  replace hX := hX.go hE
  clear hE
  refine s_putF (L' := Lm_40) hX hq.ni (show FI RX12 134 12 35 RX12 TX12 41 from ⟨rfl, by decide, fw_X12, wd_fl_X12_134⟩) fp_X12 rfl rfl rfl (fun _ => ⟨rfl, rfl⟩) (f := .inr none) rfl rfl rfl dX12_init_373 ?_
  refine s_aload_n hX dX12_init_376 rfl ?_
  refine s_sipush (v := nI 180) hX dX12_init_377 rfl ?_
  refine s_nwi (n := 180) (L' := Lm_41) hX (hz.mono (Nat.le_of_ble_eq_true rfl)) rfl (by decide) rfl rfl rfl (Nat.le_of_ble_eq_true rfl) (Nat.le_of_ble_eq_true rfl) dX12_init_380 rfl (fun X1 hE => ?_)
  replace hT := hT.go hE (Nat.le_of_ble_eq_true rfl)
  replace hq := hq.go hE (Nat.le_of_ble_eq_true rfl) (Nat.le_of_ble_eq_true rfl)
  replace hX := hX.go hE
  clear hE
  refine s_putF (L' := Lm_42) hX hq.ni (show FI RX12 137 12 36 RX12 TX12 41 from ⟨rfl, by decide, fw_X12, wd_fl_X12_137⟩) fp_X12 rfl rfl rfl (fun _ => ⟨rfl, rfl⟩) (f := .inr none) rfl rfl rfl dX12_init_382 ?_
  refine s_aload_n hX dX12_init_385 rfl ?_
  refine s_iconst (v := (nI 5)) hX dX12_init_386 rfl ?_
  refine s_nwi (n := 5) (L' := Lm_43) hX (hz.mono (Nat.le_of_ble_eq_true rfl)) rfl (by decide) rfl rfl rfl (Nat.le_of_ble_eq_true rfl) (Nat.le_of_ble_eq_true rfl) dX12_init_387 rfl (fun X1 hE => ?_)
  replace hT := hT.go hE (Nat.le_of_ble_eq_true rfl)
  replace hq := hq.go hE (Nat.le_of_ble_eq_true rfl) (Nat.le_of_ble_eq_true rfl)
  replace hX := hX.go hE
  clear hE
  refine s_putF (L' := Lm_44) hX hq.ni (show FI RX12 140 12 37 RX12 TX12 41 from ⟨rfl, by decide, fw_X12, wd_fl_X12_140⟩) fp_X12 rfl rfl rfl (fun _ => ⟨rfl, rfl⟩) (f := .inr none) rfl rfl rfl dX12_init_389 ?_
  refine s_aload_n hX dX12_init_392 rfl ?_
  refine s_iconst (v := (nI 5)) hX dX12_init_393 rfl ?_
  refine s_nwi (n := 5) (L' := Lm_45) hX (hz.mono (Nat.le_of_ble_eq_true rfl)) rfl (by decide) rfl rfl rfl (Nat.le_of_ble_eq_true rfl) (Nat.le_of_ble_eq_true rfl) dX12_init_394 rfl (fun X1 hE => ?_)
  replace hT := hT.go hE (Nat.le_of_ble_eq_true rfl)
  replace hq := hq.go hE (Nat.le_of_ble_eq_true rfl) (Nat.le_of_ble_eq_true rfl)
  replace hX := hX.go hE
  clear hE
  refine s_putF (L' := Lm_46) hX hq.ni (show FI RX12 143 12 38 RX12 TX12 41 from ⟨rfl, by decide, fw_X12, wd_fl_X12_143⟩) fp_X12 rfl rfl rfl (fun _ => ⟨rfl, rfl⟩) (f := .inr none) rfl rfl rfl dX12_init_396 ?_
  refine s_aload_n hX dX12_init_399 rfl ?_
  refine s_bipush (v := nI 6) hX dX12_init_400 rfl ?_
  refine s_nwi (n := 6) (L' := Lm_47) hX (hz.mono (Nat.le_of_ble_eq_true rfl)) rfl (by decide) rfl rfl rfl (Nat.le_of_ble_eq_true rfl) (Nat.le_of_ble_eq_true rfl) dX12_init_402 rfl (fun X1 hE => ?_)
  replace hT := hT.go hE (Nat.le_of_ble_eq_true rfl)
  replace hq := hq.go hE (Nat.le_of_ble_eq_true rfl) (Nat.le_of_ble_eq_true rfl)
  replace hX := hX.go hE
  clear hE
  refine s_putF (L' := Lm_48) hX hq.ni (show FI RX12 146 12 40 RX12 TX12 41 from ⟨rfl, by decide, fw_X12, wd_fl_X12_146⟩) fp_X12 rfl rfl rfl (fun _ => ⟨rfl, rfl⟩) (f := .inr none) rfl rfl rfl dX12_init_404 ?_
  refine s_aload_n hX dX12_init_407 rfl ?_
  refine s_iconst (v := (nI 0)) hX dX12_init_408 rfl ?_
  refine s_cvv (as := [vi (nI 0)]) (rest := []) hX (c_Mo_standsAsAlways_imo h) mv_Mo_standsAsAlways wd_ml_X12_149 dX12_init_409 lyimo_c_mo rfl rfl (Nat.le_of_ble_eq_true rfl) rfl (by decide) ⟨Nat.le_of_ble_eq_true rfl, Nat.le_of_ble_eq_true rfl⟩ (fun M1 h => ?_)
  refine s_aload_n hX dX12_init_412 rfl ?_
  refine s_getr hX (show FI RX12 85 12 10 RX12 TX12 41 from ⟨rfl, by decide, fw_X12, wd_fl_X12_85⟩) (r := c_mo_lands) (fs := [.inl true, .inr (some c_mo_tape), .inl true, .inl true, .inr (some c_mo_sort), .inr (some c_mo_place), .inr (some c_mo_value), .inl true, .inl true, .inr (some c_mo_words), .inr (some c_mo_lands), .inr (some c_mo_readCalls), .inr (some c_mo_goes), .inr (some c_mo_op), .inr (some c_mo_arg), .inl true, .inr (some c_mo_names), .inr (some c_mo_nameOf), .inl true, .inl true, .inl true, .inl true, .inl true, .inr (some c_mo_factWords), .inr (some c_mo_facts), .inr (some c_mo_pile), .inr (some c_mo_state), .inl true, .inr (some c_mo_isMarked), .inr (some c_mo_standing), .inl true, .inl true, .inr (some c_mo_owes), .inl true, .inl true, .inr (some c_mo_rows), .inr (some c_mo_owesBy), .inr (some c_mo_sung), .inr (some c_mo_asked), .inl true, .inr (some c_mo_purse)]) rfl rfl dX12_init_413 ?_
  refine s_iconst (v := (nI 0)) hX dX12_init_416 rfl ?_
  refine s_iconst (v := (nI 2)) hX dX12_init_417 rfl ?_
  refine s_iast (n := 360) (rs := []) hX rfl (vp_in_nI (n := 0) (by decide) (by decide)) dX12_init_418 ?_
  refine s_aload_n hX dX12_init_419 rfl ?_
  refine s_getr hX (show FI RX12 85 12 10 RX12 TX12 41 from ⟨rfl, by decide, fw_X12, wd_fl_X12_85⟩) (r := c_mo_lands) (fs := [.inl true, .inr (some c_mo_tape), .inl true, .inl true, .inr (some c_mo_sort), .inr (some c_mo_place), .inr (some c_mo_value), .inl true, .inl true, .inr (some c_mo_words), .inr (some c_mo_lands), .inr (some c_mo_readCalls), .inr (some c_mo_goes), .inr (some c_mo_op), .inr (some c_mo_arg), .inl true, .inr (some c_mo_names), .inr (some c_mo_nameOf), .inl true, .inl true, .inl true, .inl true, .inl true, .inr (some c_mo_factWords), .inr (some c_mo_facts), .inr (some c_mo_pile), .inr (some c_mo_state), .inl true, .inr (some c_mo_isMarked), .inr (some c_mo_standing), .inl true, .inl true, .inr (some c_mo_owes), .inl true, .inl true, .inr (some c_mo_rows), .inr (some c_mo_owesBy), .inr (some c_mo_sung), .inr (some c_mo_asked), .inl true, .inr (some c_mo_purse)]) rfl rfl dX12_init_420 ?_
  refine s_iconst (v := (nI 1)) hX dX12_init_423 rfl ?_
  refine s_iconst (v := (nI 2)) hX dX12_init_424 rfl ?_
  refine s_iast (n := 360) (rs := []) hX rfl (vp_in_nI (n := 1) (by decide) (by decide)) dX12_init_425 ?_
  refine s_iconst (v := (nI 0)) hX dX12_init_426 rfl ?_
  refine s_istore_n (lv' := [some (vr c_mo), some (vi (nI 0))]) hX dX12_init_427 rfl rfl (Nat.le_of_ble_eq_true rfl) ?_
  refine s_iload_n hX dX12_init_428 rfl ?_
  refine s_bipush (v := nI 6) hX dX12_init_429 rfl ?_
  refine s_icmp_ge (tgt := 450) hX dX12_init_431 (by decide) (fun c => absurd c (by decide)) (fun _ => ?_)
  refine s_aload_n hX dX12_init_434 rfl ?_
  refine s_getr hX (show FI RX12 115 12 26 RX12 TX12 41 from ⟨rfl, by decide, fw_X12, wd_fl_X12_115⟩) (r := c_mo_state) (fs := [.inl true, .inr (some c_mo_tape), .inl true, .inl true, .inr (some c_mo_sort), .inr (some c_mo_place), .inr (some c_mo_value), .inl true, .inl true, .inr (some c_mo_words), .inr (some c_mo_lands), .inr (some c_mo_readCalls), .inr (some c_mo_goes), .inr (some c_mo_op), .inr (some c_mo_arg), .inl true, .inr (some c_mo_names), .inr (some c_mo_nameOf), .inl true, .inl true, .inl true, .inl true, .inl true, .inr (some c_mo_factWords), .inr (some c_mo_facts), .inr (some c_mo_pile), .inr (some c_mo_state), .inl true, .inr (some c_mo_isMarked), .inr (some c_mo_standing), .inl true, .inl true, .inr (some c_mo_owes), .inl true, .inl true, .inr (some c_mo_rows), .inr (some c_mo_owesBy), .inr (some c_mo_sung), .inr (some c_mo_asked), .inl true, .inr (some c_mo_purse)]) rfl rfl dX12_init_435 ?_
  refine s_bipush (v := nI 121) hX dX12_init_438 rfl ?_
  refine s_iload_n hX dX12_init_440 rfl ?_
  refine s_iadd hX dX12_init_441 ?_
  rw [nI_add 121 0]
  refine s_iconst (v := (-1)) hX dX12_init_442 rfl ?_
  refine s_iast (n := 3200) (rs := []) hX rfl (vp_in_nI (n := 121) (by decide) (by decide)) dX12_init_443 ?_
  refine s_iinc (v := nI 1) (lv' := [some (vr c_mo), some (vi (nI 1))]) hX dX12_init_444 rfl rfl rfl rfl ?_
  refine s_goto (tgt := 428) hX dX12_init_447 (by decide) ?_
  refine s_iload_n hX dX12_init_428 rfl ?_
  refine s_bipush (v := nI 6) hX dX12_init_429 rfl ?_
  refine s_icmp_ge (tgt := 450) hX dX12_init_431 (by decide) (fun c => absurd c (by decide)) (fun _ => ?_)
  refine s_aload_n hX dX12_init_434 rfl ?_
  refine s_getr hX (show FI RX12 115 12 26 RX12 TX12 41 from ⟨rfl, by decide, fw_X12, wd_fl_X12_115⟩) (r := c_mo_state) (fs := [.inl true, .inr (some c_mo_tape), .inl true, .inl true, .inr (some c_mo_sort), .inr (some c_mo_place), .inr (some c_mo_value), .inl true, .inl true, .inr (some c_mo_words), .inr (some c_mo_lands), .inr (some c_mo_readCalls), .inr (some c_mo_goes), .inr (some c_mo_op), .inr (some c_mo_arg), .inl true, .inr (some c_mo_names), .inr (some c_mo_nameOf), .inl true, .inl true, .inl true, .inl true, .inl true, .inr (some c_mo_factWords), .inr (some c_mo_facts), .inr (some c_mo_pile), .inr (some c_mo_state), .inl true, .inr (some c_mo_isMarked), .inr (some c_mo_standing), .inl true, .inl true, .inr (some c_mo_owes), .inl true, .inl true, .inr (some c_mo_rows), .inr (some c_mo_owesBy), .inr (some c_mo_sung), .inr (some c_mo_asked), .inl true, .inr (some c_mo_purse)]) rfl rfl dX12_init_435 ?_
  refine s_bipush (v := nI 121) hX dX12_init_438 rfl ?_
  refine s_iload_n hX dX12_init_440 rfl ?_
  refine s_iadd hX dX12_init_441 ?_
  rw [nI_add 121 1]
  refine s_iconst (v := (-1)) hX dX12_init_442 rfl ?_
  refine s_iast (n := 3200) (rs := []) hX rfl (vp_in_nI (n := 122) (by decide) (by decide)) dX12_init_443 ?_
  refine s_iinc (v := nI 2) (lv' := [some (vr c_mo), some (vi (nI 2))]) hX dX12_init_444 rfl rfl rfl rfl ?_
  refine s_goto (tgt := 428) hX dX12_init_447 (by decide) ?_
  refine s_iload_n hX dX12_init_428 rfl ?_
  refine s_bipush (v := nI 6) hX dX12_init_429 rfl ?_
  refine s_icmp_ge (tgt := 450) hX dX12_init_431 (by decide) (fun c => absurd c (by decide)) (fun _ => ?_)
  refine s_aload_n hX dX12_init_434 rfl ?_
  refine s_getr hX (show FI RX12 115 12 26 RX12 TX12 41 from ⟨rfl, by decide, fw_X12, wd_fl_X12_115⟩) (r := c_mo_state) (fs := [.inl true, .inr (some c_mo_tape), .inl true, .inl true, .inr (some c_mo_sort), .inr (some c_mo_place), .inr (some c_mo_value), .inl true, .inl true, .inr (some c_mo_words), .inr (some c_mo_lands), .inr (some c_mo_readCalls), .inr (some c_mo_goes), .inr (some c_mo_op), .inr (some c_mo_arg), .inl true, .inr (some c_mo_names), .inr (some c_mo_nameOf), .inl true, .inl true, .inl true, .inl true, .inl true, .inr (some c_mo_factWords), .inr (some c_mo_facts), .inr (some c_mo_pile), .inr (some c_mo_state), .inl true, .inr (some c_mo_isMarked), .inr (some c_mo_standing), .inl true, .inl true, .inr (some c_mo_owes), .inl true, .inl true, .inr (some c_mo_rows), .inr (some c_mo_owesBy), .inr (some c_mo_sung), .inr (some c_mo_asked), .inl true, .inr (some c_mo_purse)]) rfl rfl dX12_init_435 ?_
  refine s_bipush (v := nI 121) hX dX12_init_438 rfl ?_
  refine s_iload_n hX dX12_init_440 rfl ?_
  refine s_iadd hX dX12_init_441 ?_
  rw [nI_add 121 2]
  refine s_iconst (v := (-1)) hX dX12_init_442 rfl ?_
  refine s_iast (n := 3200) (rs := []) hX rfl (vp_in_nI (n := 123) (by decide) (by decide)) dX12_init_443 ?_
  refine s_iinc (v := nI 3) (lv' := [some (vr c_mo), some (vi (nI 3))]) hX dX12_init_444 rfl rfl rfl rfl ?_
  refine s_goto (tgt := 428) hX dX12_init_447 (by decide) ?_
  refine s_iload_n hX dX12_init_428 rfl ?_
  refine s_bipush (v := nI 6) hX dX12_init_429 rfl ?_
  refine s_icmp_ge (tgt := 450) hX dX12_init_431 (by decide) (fun c => absurd c (by decide)) (fun _ => ?_)
  refine s_aload_n hX dX12_init_434 rfl ?_
  refine s_getr hX (show FI RX12 115 12 26 RX12 TX12 41 from ⟨rfl, by decide, fw_X12, wd_fl_X12_115⟩) (r := c_mo_state) (fs := [.inl true, .inr (some c_mo_tape), .inl true, .inl true, .inr (some c_mo_sort), .inr (some c_mo_place), .inr (some c_mo_value), .inl true, .inl true, .inr (some c_mo_words), .inr (some c_mo_lands), .inr (some c_mo_readCalls), .inr (some c_mo_goes), .inr (some c_mo_op), .inr (some c_mo_arg), .inl true, .inr (some c_mo_names), .inr (some c_mo_nameOf), .inl true, .inl true, .inl true, .inl true, .inl true, .inr (some c_mo_factWords), .inr (some c_mo_facts), .inr (some c_mo_pile), .inr (some c_mo_state), .inl true, .inr (some c_mo_isMarked), .inr (some c_mo_standing), .inl true, .inl true, .inr (some c_mo_owes), .inl true, .inl true, .inr (some c_mo_rows), .inr (some c_mo_owesBy), .inr (some c_mo_sung), .inr (some c_mo_asked), .inl true, .inr (some c_mo_purse)]) rfl rfl dX12_init_435 ?_
  refine s_bipush (v := nI 121) hX dX12_init_438 rfl ?_
  refine s_iload_n hX dX12_init_440 rfl ?_
  refine s_iadd hX dX12_init_441 ?_
  rw [nI_add 121 3]
  refine s_iconst (v := (-1)) hX dX12_init_442 rfl ?_
  refine s_iast (n := 3200) (rs := []) hX rfl (vp_in_nI (n := 124) (by decide) (by decide)) dX12_init_443 ?_
  refine s_iinc (v := nI 4) (lv' := [some (vr c_mo), some (vi (nI 4))]) hX dX12_init_444 rfl rfl rfl rfl ?_
  refine s_goto (tgt := 428) hX dX12_init_447 (by decide) ?_
  refine s_iload_n hX dX12_init_428 rfl ?_
  refine s_bipush (v := nI 6) hX dX12_init_429 rfl ?_
  refine s_icmp_ge (tgt := 450) hX dX12_init_431 (by decide) (fun c => absurd c (by decide)) (fun _ => ?_)
  refine s_aload_n hX dX12_init_434 rfl ?_
  refine s_getr hX (show FI RX12 115 12 26 RX12 TX12 41 from ⟨rfl, by decide, fw_X12, wd_fl_X12_115⟩) (r := c_mo_state) (fs := [.inl true, .inr (some c_mo_tape), .inl true, .inl true, .inr (some c_mo_sort), .inr (some c_mo_place), .inr (some c_mo_value), .inl true, .inl true, .inr (some c_mo_words), .inr (some c_mo_lands), .inr (some c_mo_readCalls), .inr (some c_mo_goes), .inr (some c_mo_op), .inr (some c_mo_arg), .inl true, .inr (some c_mo_names), .inr (some c_mo_nameOf), .inl true, .inl true, .inl true, .inl true, .inl true, .inr (some c_mo_factWords), .inr (some c_mo_facts), .inr (some c_mo_pile), .inr (some c_mo_state), .inl true, .inr (some c_mo_isMarked), .inr (some c_mo_standing), .inl true, .inl true, .inr (some c_mo_owes), .inl true, .inl true, .inr (some c_mo_rows), .inr (some c_mo_owesBy), .inr (some c_mo_sung), .inr (some c_mo_asked), .inl true, .inr (some c_mo_purse)]) rfl rfl dX12_init_435 ?_
  refine s_bipush (v := nI 121) hX dX12_init_438 rfl ?_
  refine s_iload_n hX dX12_init_440 rfl ?_
  refine s_iadd hX dX12_init_441 ?_
  rw [nI_add 121 4]
  refine s_iconst (v := (-1)) hX dX12_init_442 rfl ?_
  refine s_iast (n := 3200) (rs := []) hX rfl (vp_in_nI (n := 125) (by decide) (by decide)) dX12_init_443 ?_
  refine s_iinc (v := nI 5) (lv' := [some (vr c_mo), some (vi (nI 5))]) hX dX12_init_444 rfl rfl rfl rfl ?_
  refine s_goto (tgt := 428) hX dX12_init_447 (by decide) ?_
  refine s_iload_n hX dX12_init_428 rfl ?_
  refine s_bipush (v := nI 6) hX dX12_init_429 rfl ?_
  refine s_icmp_ge (tgt := 450) hX dX12_init_431 (by decide) (fun c => absurd c (by decide)) (fun _ => ?_)
  refine s_aload_n hX dX12_init_434 rfl ?_
  refine s_getr hX (show FI RX12 115 12 26 RX12 TX12 41 from ⟨rfl, by decide, fw_X12, wd_fl_X12_115⟩) (r := c_mo_state) (fs := [.inl true, .inr (some c_mo_tape), .inl true, .inl true, .inr (some c_mo_sort), .inr (some c_mo_place), .inr (some c_mo_value), .inl true, .inl true, .inr (some c_mo_words), .inr (some c_mo_lands), .inr (some c_mo_readCalls), .inr (some c_mo_goes), .inr (some c_mo_op), .inr (some c_mo_arg), .inl true, .inr (some c_mo_names), .inr (some c_mo_nameOf), .inl true, .inl true, .inl true, .inl true, .inl true, .inr (some c_mo_factWords), .inr (some c_mo_facts), .inr (some c_mo_pile), .inr (some c_mo_state), .inl true, .inr (some c_mo_isMarked), .inr (some c_mo_standing), .inl true, .inl true, .inr (some c_mo_owes), .inl true, .inl true, .inr (some c_mo_rows), .inr (some c_mo_owesBy), .inr (some c_mo_sung), .inr (some c_mo_asked), .inl true, .inr (some c_mo_purse)]) rfl rfl dX12_init_435 ?_
  refine s_bipush (v := nI 121) hX dX12_init_438 rfl ?_
  refine s_iload_n hX dX12_init_440 rfl ?_
  refine s_iadd hX dX12_init_441 ?_
  rw [nI_add 121 5]
  refine s_iconst (v := (-1)) hX dX12_init_442 rfl ?_
  refine s_iast (n := 3200) (rs := []) hX rfl (vp_in_nI (n := 126) (by decide) (by decide)) dX12_init_443 ?_
  refine s_iinc (v := nI 6) (lv' := [some (vr c_mo), some (vi (nI 6))]) hX dX12_init_444 rfl rfl rfl rfl ?_
  refine s_goto (tgt := 428) hX dX12_init_447 (by decide) ?_
  refine s_iload_n hX dX12_init_428 rfl ?_
  refine s_bipush (v := nI 6) hX dX12_init_429 rfl ?_
  refine s_icmp_ge (tgt := 450) hX dX12_init_431 (by decide) (fun _ => ?_) (fun c => absurd (by decide) c)
  exact s_vretn hX hq rfl dX12_init_450 h)
