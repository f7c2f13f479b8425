/-! ===== objects, as lists of their fields: A references that are never null behind the constructor, B others, I ints, J longs ===== -/
def oX0 (A : Nat → Nat) (B : Nat → Value) (I : Nat → Int32) (J : Nat → Int64) : List Value := [B 0, B 1, .ref (A 2), .ref (A 3), .int (I 4), .int (I 5), .ref (A 6), .ref (A 7), .ref (A 8), .int (I 9), .ref (A 10)]
theorem pX0_0 {A : Nat → Nat} {B : Nat → Value} {I : Nat → Int32} {J : Nat → Int64} {x : Value} : (oX0 A B I J).set 0 x = oX0 A (va_up B 0 x) I J := rfl
theorem pX0_1 {A : Nat → Nat} {B : Nat → Value} {I : Nat → Int32} {J : Nat → Int64} {x : Value} : (oX0 A B I J).set 1 x = oX0 A (va_up B 1 x) I J := rfl
theorem pX0_4 {A : Nat → Nat} {B : Nat → Value} {I : Nat → Int32} {J : Nat → Int64} {x : Int32} : (oX0 A B I J).set 4 (.int x) = oX0 A B (upd I 4 x) J := rfl
theorem pX0_5 {A : Nat → Nat} {B : Nat → Value} {I : Nat → Int32} {J : Nat → Int64} {x : Int32} : (oX0 A B I J).set 5 (.int x) = oX0 A B (upd I 5 x) J := rfl
theorem pX0_9 {A : Nat → Nat} {B : Nat → Value} {I : Nat → Int32} {J : Nat → Int64} {x : Int32} : (oX0 A B I J).set 9 (.int x) = oX0 A B (upd I 9 x) J := rfl
def oX1 (A : Nat → Nat) (B : Nat → Value) (I : Nat → Int32) (J : Nat → Int64) : List Value := [.ref (A 0), .ref (A 1), .ref (A 2)]
def oX2 (A : Nat → Nat) (B : Nat → Value) (I : Nat → Int32) (J : Nat → Int64) : List Value := [.ref (A 0), .ref (A 1), .int (I 2), .ref (A 3), .ref (A 4), .ref (A 5), .ref (A 6), .ref (A 7), .ref (A 8), .ref (A 9), .ref (A 10), B 11, B 12, .int (I 13), .int (I 14), .int (I 15), .int (I 16), .int (I 17)]
theorem pX2_2 {A : Nat → Nat} {B : Nat → Value} {I : Nat → Int32} {J : Nat → Int64} {x : Int32} : (oX2 A B I J).set 2 (.int x) = oX2 A B (upd I 2 x) J := rfl
theorem pX2_11 {A : Nat → Nat} {B : Nat → Value} {I : Nat → Int32} {J : Nat → Int64} {x : Value} : (oX2 A B I J).set 11 x = oX2 A (va_up B 11 x) I J := rfl
theorem pX2_12 {A : Nat → Nat} {B : Nat → Value} {I : Nat → Int32} {J : Nat → Int64} {x : Value} : (oX2 A B I J).set 12 x = oX2 A (va_up B 12 x) I J := rfl
theorem pX2_13 {A : Nat → Nat} {B : Nat → Value} {I : Nat → Int32} {J : Nat → Int64} {x : Int32} : (oX2 A B I J).set 13 (.int x) = oX2 A B (upd I 13 x) J := rfl
theorem pX2_14 {A : Nat → Nat} {B : Nat → Value} {I : Nat → Int32} {J : Nat → Int64} {x : Int32} : (oX2 A B I J).set 14 (.int x) = oX2 A B (upd I 14 x) J := rfl
theorem pX2_15 {A : Nat → Nat} {B : Nat → Value} {I : Nat → Int32} {J : Nat → Int64} {x : Int32} : (oX2 A B I J).set 15 (.int x) = oX2 A B (upd I 15 x) J := rfl
theorem pX2_16 {A : Nat → Nat} {B : Nat → Value} {I : Nat → Int32} {J : Nat → Int64} {x : Int32} : (oX2 A B I J).set 16 (.int x) = oX2 A B (upd I 16 x) J := rfl
theorem pX2_17 {A : Nat → Nat} {B : Nat → Value} {I : Nat → Int32} {J : Nat → Int64} {x : Int32} : (oX2 A B I J).set 17 (.int x) = oX2 A B (upd I 17 x) J := rfl
def oX3 (A : Nat → Nat) (B : Nat → Value) (I : Nat → Int32) (J : Nat → Int64) : List Value := [.int (I 0), .int (I 1), .int (I 2), .int (I 3), .int (I 4), .int (I 5), .int (I 6), .ref (A 7), .ref (A 8), .ref (A 9), .ref (A 10), .ref (A 11), .ref (A 12), .ref (A 13), .ref (A 14), .ref (A 15), .ref (A 16), .ref (A 17), .ref (A 18), .ref (A 19)]
theorem pX3_0 {A : Nat → Nat} {B : Nat → Value} {I : Nat → Int32} {J : Nat → Int64} {x : Int32} : (oX3 A B I J).set 0 (.int x) = oX3 A B (upd I 0 x) J := rfl
theorem pX3_1 {A : Nat → Nat} {B : Nat → Value} {I : Nat → Int32} {J : Nat → Int64} {x : Int32} : (oX3 A B I J).set 1 (.int x) = oX3 A B (upd I 1 x) J := rfl
theorem pX3_2 {A : Nat → Nat} {B : Nat → Value} {I : Nat → Int32} {J : Nat → Int64} {x : Int32} : (oX3 A B I J).set 2 (.int x) = oX3 A B (upd I 2 x) J := rfl
theorem pX3_3 {A : Nat → Nat} {B : Nat → Value} {I : Nat → Int32} {J : Nat → Int64} {x : Int32} : (oX3 A B I J).set 3 (.int x) = oX3 A B (upd I 3 x) J := rfl
theorem pX3_4 {A : Nat → Nat} {B : Nat → Value} {I : Nat → Int32} {J : Nat → Int64} {x : Int32} : (oX3 A B I J).set 4 (.int x) = oX3 A B (upd I 4 x) J := rfl
theorem pX3_5 {A : Nat → Nat} {B : Nat → Value} {I : Nat → Int32} {J : Nat → Int64} {x : Int32} : (oX3 A B I J).set 5 (.int x) = oX3 A B (upd I 5 x) J := rfl
theorem pX3_6 {A : Nat → Nat} {B : Nat → Value} {I : Nat → Int32} {J : Nat → Int64} {x : Int32} : (oX3 A B I J).set 6 (.int x) = oX3 A B (upd I 6 x) J := rfl
def oX4 (A : Nat → Nat) (B : Nat → Value) (I : Nat → Int32) (J : Nat → Int64) : List Value := [.int (I 0), .int (I 1), .int (I 2), .int (I 3), B 4, .ref (A 5), .ref (A 6), .ref (A 7), .ref (A 8), .ref (A 9), .ref (A 10), .ref (A 11)]
theorem pX4_0 {A : Nat → Nat} {B : Nat → Value} {I : Nat → Int32} {J : Nat → Int64} {x : Int32} : (oX4 A B I J).set 0 (.int x) = oX4 A B (upd I 0 x) J := rfl
theorem pX4_1 {A : Nat → Nat} {B : Nat → Value} {I : Nat → Int32} {J : Nat → Int64} {x : Int32} : (oX4 A B I J).set 1 (.int x) = oX4 A B (upd I 1 x) J := rfl
theorem pX4_2 {A : Nat → Nat} {B : Nat → Value} {I : Nat → Int32} {J : Nat → Int64} {x : Int32} : (oX4 A B I J).set 2 (.int x) = oX4 A B (upd I 2 x) J := rfl
theorem pX4_3 {A : Nat → Nat} {B : Nat → Value} {I : Nat → Int32} {J : Nat → Int64} {x : Int32} : (oX4 A B I J).set 3 (.int x) = oX4 A B (upd I 3 x) J := rfl
theorem pX4_4 {A : Nat → Nat} {B : Nat → Value} {I : Nat → Int32} {J : Nat → Int64} {x : Value} : (oX4 A B I J).set 4 x = oX4 A (va_up B 4 x) I J := rfl
def oX5 (A : Nat → Nat) (B : Nat → Value) (I : Nat → Int32) (J : Nat → Int64) : List Value := [.int (I 0), .ref (A 1), .ref (A 2), .ref (A 3), .ref (A 4), .ref (A 5), .ref (A 6), .ref (A 7), .ref (A 8), .ref (A 9), .ref (A 10), .ref (A 11), .ref (A 12), .int (I 13), .ref (A 14), .ref (A 15), .ref (A 16), .ref (A 17), .ref (A 18)]
theorem pX5_0 {A : Nat → Nat} {B : Nat → Value} {I : Nat → Int32} {J : Nat → Int64} {x : Int32} : (oX5 A B I J).set 0 (.int x) = oX5 A B (upd I 0 x) J := rfl
theorem pX5_13 {A : Nat → Nat} {B : Nat → Value} {I : Nat → Int32} {J : Nat → Int64} {x : Int32} : (oX5 A B I J).set 13 (.int x) = oX5 A B (upd I 13 x) J := rfl
def oX6 (A : Nat → Nat) (B : Nat → Value) (I : Nat → Int32) (J : Nat → Int64) : List Value := [.int (I 0), .int (I 1), B 2, .int (I 3), .int (I 4), .int (I 5), B 6]
theorem pX6_0 {A : Nat → Nat} {B : Nat → Value} {I : Nat → Int32} {J : Nat → Int64} {x : Int32} : (oX6 A B I J).set 0 (.int x) = oX6 A B (upd I 0 x) J := rfl
theorem pX6_1 {A : Nat → Nat} {B : Nat → Value} {I : Nat → Int32} {J : Nat → Int64} {x : Int32} : (oX6 A B I J).set 1 (.int x) = oX6 A B (upd I 1 x) J := rfl
theorem pX6_2 {A : Nat → Nat} {B : Nat → Value} {I : Nat → Int32} {J : Nat → Int64} {x : Value} : (oX6 A B I J).set 2 x = oX6 A (va_up B 2 x) I J := rfl
theorem pX6_3 {A : Nat → Nat} {B : Nat → Value} {I : Nat → Int32} {J : Nat → Int64} {x : Int32} : (oX6 A B I J).set 3 (.int x) = oX6 A B (upd I 3 x) J := rfl
theorem pX6_4 {A : Nat → Nat} {B : Nat → Value} {I : Nat → Int32} {J : Nat → Int64} {x : Int32} : (oX6 A B I J).set 4 (.int x) = oX6 A B (upd I 4 x) J := rfl
theorem pX6_5 {A : Nat → Nat} {B : Nat → Value} {I : Nat → Int32} {J : Nat → Int64} {x : Int32} : (oX6 A B I J).set 5 (.int x) = oX6 A B (upd I 5 x) J := rfl
theorem pX6_6 {A : Nat → Nat} {B : Nat → Value} {I : Nat → Int32} {J : Nat → Int64} {x : Value} : (oX6 A B I J).set 6 x = oX6 A (va_up B 6 x) I J := rfl
def oX7 (A : Nat → Nat) (B : Nat → Value) (I : Nat → Int32) (J : Nat → Int64) : List Value := [B 0, .int (I 1), .int (I 2), .ref (A 3), .ref (A 4), .ref (A 5), .ref (A 6), .ref (A 7), .ref (A 8), .ref (A 9), .ref (A 10), .ref (A 11)]
theorem pX7_0 {A : Nat → Nat} {B : Nat → Value} {I : Nat → Int32} {J : Nat → Int64} {x : Value} : (oX7 A B I J).set 0 x = oX7 A (va_up B 0 x) I J := rfl
theorem pX7_1 {A : Nat → Nat} {B : Nat → Value} {I : Nat → Int32} {J : Nat → Int64} {x : Int32} : (oX7 A B I J).set 1 (.int x) = oX7 A B (upd I 1 x) J := rfl
theorem pX7_2 {A : Nat → Nat} {B : Nat → Value} {I : Nat → Int32} {J : Nat → Int64} {x : Int32} : (oX7 A B I J).set 2 (.int x) = oX7 A B (upd I 2 x) J := rfl
def oX8 (A : Nat → Nat) (B : Nat → Value) (I : Nat → Int32) (J : Nat → Int64) : List Value := [.ref (A 0), .ref (A 1), .ref (A 2), .int (I 3), .ref (A 4)]
theorem pX8_3 {A : Nat → Nat} {B : Nat → Value} {I : Nat → Int32} {J : Nat → Int64} {x : Int32} : (oX8 A B I J).set 3 (.int x) = oX8 A B (upd I 3 x) J := rfl
def oX9 (A : Nat → Nat) (B : Nat → Value) (I : Nat → Int32) (J : Nat → Int64) : List Value := [.int (I 0), .int (I 1), B 2, .int (I 3), .int (I 4), .int (I 5), .int (I 6), .ref (A 7)]
theorem pX9_0 {A : Nat → Nat} {B : Nat → Value} {I : Nat → Int32} {J : Nat → Int64} {x : Int32} : (oX9 A B I J).set 0 (.int x) = oX9 A B (upd I 0 x) J := rfl
theorem pX9_1 {A : Nat → Nat} {B : Nat → Value} {I : Nat → Int32} {J : Nat → Int64} {x : Int32} : (oX9 A B I J).set 1 (.int x) = oX9 A B (upd I 1 x) J := rfl
theorem pX9_2 {A : Nat → Nat} {B : Nat → Value} {I : Nat → Int32} {J : Nat → Int64} {x : Value} : (oX9 A B I J).set 2 x = oX9 A (va_up B 2 x) I J := rfl
theorem pX9_3 {A : Nat → Nat} {B : Nat → Value} {I : Nat → Int32} {J : Nat → Int64} {x : Int32} : (oX9 A B I J).set 3 (.int x) = oX9 A B (upd I 3 x) J := rfl
theorem pX9_4 {A : Nat → Nat} {B : Nat → Value} {I : Nat → Int32} {J : Nat → Int64} {x : Int32} : (oX9 A B I J).set 4 (.int x) = oX9 A B (upd I 4 x) J := rfl
theorem pX9_5 {A : Nat → Nat} {B : Nat → Value} {I : Nat → Int32} {J : Nat → Int64} {x : Int32} : (oX9 A B I J).set 5 (.int x) = oX9 A B (upd I 5 x) J := rfl
theorem pX9_6 {A : Nat → Nat} {B : Nat → Value} {I : Nat → Int32} {J : Nat → Int64} {x : Int32} : (oX9 A B I J).set 6 (.int x) = oX9 A B (upd I 6 x) J := rfl
def oX10 (A : Nat → Nat) (B : Nat → Value) (I : Nat → Int32) (J : Nat → Int64) : List Value := [.int (I 0), .ref (A 1), .ref (A 2)]
theorem pX10_0 {A : Nat → Nat} {B : Nat → Value} {I : Nat → Int32} {J : Nat → Int64} {x : Int32} : (oX10 A B I J).set 0 (.int x) = oX10 A B (upd I 0 x) J := rfl
def oX11 (A : Nat → Nat) (B : Nat → Value) (I : Nat → Int32) (J : Nat → Int64) : List Value := [.ref (A 0), .ref (A 1), .int (I 2), .int (I 3), .int (I 4), .int (I 5), .ref (A 6), .ref (A 7), .ref (A 8), .ref (A 9), .ref (A 10), .int (I 11), .int (I 12), .ref (A 13), .ref (A 14), .ref (A 15), .ref (A 16), .ref (A 17), .ref (A 18), .ref (A 19)]
theorem pX11_2 {A : Nat → Nat} {B : Nat → Value} {I : Nat → Int32} {J : Nat → Int64} {x : Int32} : (oX11 A B I J).set 2 (.int x) = oX11 A B (upd I 2 x) J := rfl
theorem pX11_3 {A : Nat → Nat} {B : Nat → Value} {I : Nat → Int32} {J : Nat → Int64} {x : Int32} : (oX11 A B I J).set 3 (.int x) = oX11 A B (upd I 3 x) J := rfl
theorem pX11_4 {A : Nat → Nat} {B : Nat → Value} {I : Nat → Int32} {J : Nat → Int64} {x : Int32} : (oX11 A B I J).set 4 (.int x) = oX11 A B (upd I 4 x) J := rfl
theorem pX11_5 {A : Nat → Nat} {B : Nat → Value} {I : Nat → Int32} {J : Nat → Int64} {x : Int32} : (oX11 A B I J).set 5 (.int x) = oX11 A B (upd I 5 x) J := rfl
theorem pX11_6 {A : Nat → Nat} {B : Nat → Value} {I : Nat → Int32} {J : Nat → Int64} {x : Nat} : (oX11 A B I J).set 6 (.ref x) = oX11 (va_up A 6 x) B I J := rfl
theorem pX11_7 {A : Nat → Nat} {B : Nat → Value} {I : Nat → Int32} {J : Nat → Int64} {x : Nat} : (oX11 A B I J).set 7 (.ref x) = oX11 (va_up A 7 x) B I J := rfl
theorem pX11_8 {A : Nat → Nat} {B : Nat → Value} {I : Nat → Int32} {J : Nat → Int64} {x : Nat} : (oX11 A B I J).set 8 (.ref x) = oX11 (va_up A 8 x) B I J := rfl
theorem pX11_9 {A : Nat → Nat} {B : Nat → Value} {I : Nat → Int32} {J : Nat → Int64} {x : Nat} : (oX11 A B I J).set 9 (.ref x) = oX11 (va_up A 9 x) B I J := rfl
theorem pX11_10 {A : Nat → Nat} {B : Nat → Value} {I : Nat → Int32} {J : Nat → Int64} {x : Nat} : (oX11 A B I J).set 10 (.ref x) = oX11 (va_up A 10 x) B I J := rfl
theorem pX11_11 {A : Nat → Nat} {B : Nat → Value} {I : Nat → Int32} {J : Nat → Int64} {x : Int32} : (oX11 A B I J).set 11 (.int x) = oX11 A B (upd I 11 x) J := rfl
theorem pX11_12 {A : Nat → Nat} {B : Nat → Value} {I : Nat → Int32} {J : Nat → Int64} {x : Int32} : (oX11 A B I J).set 12 (.int x) = oX11 A B (upd I 12 x) J := rfl
def oX12 (A : Nat → Nat) (B : Nat → Value) (I : Nat → Int32) (J : Nat → Int64) : List Value := [.int (I 0), .ref (A 1), .int (I 2), .ref (A 3), .ref (A 4), .int (I 5), .int (I 6), .int (I 7), .ref (A 8), .int (I 9), .int (I 10), .int (I 11), .int (I 12), .long (J 13), .long (J 14), .int (I 15), .int (I 16), .ref (A 17), .ref (A 18), .int (I 19), .ref (A 20), .ref (A 21), .ref (A 22), .ref (A 23), .ref (A 24), .int (I 25), .ref (A 26), .int (I 27), .ref (A 28), .ref (A 29), .ref (A 30), .ref (A 31), .ref (A 32), .ref (A 33), .int (I 34), .ref (A 35), .ref (A 36), .ref (A 37), .ref (A 38), .ref (A 39), .ref (A 40), .int (I 41), .ref (A 42), .int (I 43), .ref (A 44), .ref (A 45), .ref (A 46), .int (I 47), .ref (A 48), .ref (A 49), .ref (A 50), .int (I 51), .ref (A 52), .ref (A 53), .ref (A 54), .ref (A 55), .int (I 56), .ref (A 57), .ref (A 58), .ref (A 59), .ref (A 60), .ref (A 61), .ref (A 62), .ref (A 63), .ref (A 64), .ref (A 65), .ref (A 66), .ref (A 67), .ref (A 68), .ref (A 69), .ref (A 70), .ref (A 71), .ref (A 72), .ref (A 73), .ref (A 74), .ref (A 75), .ref (A 76), .ref (A 77), .ref (A 78), .ref (A 79), .ref (A 80), .ref (A 81), .int (I 82), .ref (A 83), .ref (A 84), .ref (A 85), .ref (A 86), .ref (A 87), .int (I 88), .int (I 89), .int (I 90), .int (I 91), .int (I 92), .int (I 93), .int (I 94), .int (I 95), .int (I 96), .int (I 97), .ref (A 98), .int (I 99), .ref (A 100), .ref (A 101), .ref (A 102), .ref (A 103), .ref (A 104), .int (I 105), .ref (A 106), .ref (A 107), .ref (A 108), .ref (A 109), .ref (A 110), .int (I 111), .int (I 112), .int (I 113), .int (I 114), .int (I 115)]
theorem pX12_0 {A : Nat → Nat} {B : Nat → Value} {I : Nat → Int32} {J : Nat → Int64} {x : Int32} : (oX12 A B I J).set 0 (.int x) = oX12 A B (upd I 0 x) J := rfl
theorem pX12_2 {A : Nat → Nat} {B : Nat → Value} {I : Nat → Int32} {J : Nat → Int64} {x : Int32} : (oX12 A B I J).set 2 (.int x) = oX12 A B (upd I 2 x) J := rfl
theorem pX12_5 {A : Nat → Nat} {B : Nat → Value} {I : Nat → Int32} {J : Nat → Int64} {x : Int32} : (oX12 A B I J).set 5 (.int x) = oX12 A B (upd I 5 x) J := rfl
theorem pX12_6 {A : Nat → Nat} {B : Nat → Value} {I : Nat → Int32} {J : Nat → Int64} {x : Int32} : (oX12 A B I J).set 6 (.int x) = oX12 A B (upd I 6 x) J := rfl
theorem pX12_7 {A : Nat → Nat} {B : Nat → Value} {I : Nat → Int32} {J : Nat → Int64} {x : Int32} : (oX12 A B I J).set 7 (.int x) = oX12 A B (upd I 7 x) J := rfl
theorem pX12_9 {A : Nat → Nat} {B : Nat → Value} {I : Nat → Int32} {J : Nat → Int64} {x : Int32} : (oX12 A B I J).set 9 (.int x) = oX12 A B (upd I 9 x) J := rfl
theorem pX12_10 {A : Nat → Nat} {B : Nat → Value} {I : Nat → Int32} {J : Nat → Int64} {x : Int32} : (oX12 A B I J).set 10 (.int x) = oX12 A B (upd I 10 x) J := rfl
theorem pX12_11 {A : Nat → Nat} {B : Nat → Value} {I : Nat → Int32} {J : Nat → Int64} {x : Int32} : (oX12 A B I J).set 11 (.int x) = oX12 A B (upd I 11 x) J := rfl
theorem pX12_12 {A : Nat → Nat} {B : Nat → Value} {I : Nat → Int32} {J : Nat → Int64} {x : Int32} : (oX12 A B I J).set 12 (.int x) = oX12 A B (upd I 12 x) J := rfl
theorem pX12_13 {A : Nat → Nat} {B : Nat → Value} {I : Nat → Int32} {J : Nat → Int64} {x : Int64} : (oX12 A B I J).set 13 (.long x) = oX12 A B I (vp_updL J 13 x) := rfl
theorem pX12_14 {A : Nat → Nat} {B : Nat → Value} {I : Nat → Int32} {J : Nat → Int64} {x : Int64} : (oX12 A B I J).set 14 (.long x) = oX12 A B I (vp_updL J 14 x) := rfl
theorem pX12_15 {A : Nat → Nat} {B : Nat → Value} {I : Nat → Int32} {J : Nat → Int64} {x : Int32} : (oX12 A B I J).set 15 (.int x) = oX12 A B (upd I 15 x) J := rfl
theorem pX12_16 {A : Nat → Nat} {B : Nat → Value} {I : Nat → Int32} {J : Nat → Int64} {x : Int32} : (oX12 A B I J).set 16 (.int x) = oX12 A B (upd I 16 x) J := rfl
theorem pX12_19 {A : Nat → Nat} {B : Nat → Value} {I : Nat → Int32} {J : Nat → Int64} {x : Int32} : (oX12 A B I J).set 19 (.int x) = oX12 A B (upd I 19 x) J := rfl
theorem pX12_25 {A : Nat → Nat} {B : Nat → Value} {I : Nat → Int32} {J : Nat → Int64} {x : Int32} : (oX12 A B I J).set 25 (.int x) = oX12 A B (upd I 25 x) J := rfl
theorem pX12_27 {A : Nat → Nat} {B : Nat → Value} {I : Nat → Int32} {J : Nat → Int64} {x : Int32} : (oX12 A B I J).set 27 (.int x) = oX12 A B (upd I 27 x) J := rfl
theorem pX12_34 {A : Nat → Nat} {B : Nat → Value} {I : Nat → Int32} {J : Nat → Int64} {x : Int32} : (oX12 A B I J).set 34 (.int x) = oX12 A B (upd I 34 x) J := rfl
theorem pX12_41 {A : Nat → Nat} {B : Nat → Value} {I : Nat → Int32} {J : Nat → Int64} {x : Int32} : (oX12 A B I J).set 41 (.int x) = oX12 A B (upd I 41 x) J := rfl
theorem pX12_43 {A : Nat → Nat} {B : Nat → Value} {I : Nat → Int32} {J : Nat → Int64} {x : Int32} : (oX12 A B I J).set 43 (.int x) = oX12 A B (upd I 43 x) J := rfl
theorem pX12_47 {A : Nat → Nat} {B : Nat → Value} {I : Nat → Int32} {J : Nat → Int64} {x : Int32} : (oX12 A B I J).set 47 (.int x) = oX12 A B (upd I 47 x) J := rfl
theorem pX12_51 {A : Nat → Nat} {B : Nat → Value} {I : Nat → Int32} {J : Nat → Int64} {x : Int32} : (oX12 A B I J).set 51 (.int x) = oX12 A B (upd I 51 x) J := rfl
theorem pX12_56 {A : Nat → Nat} {B : Nat → Value} {I : Nat → Int32} {J : Nat → Int64} {x : Int32} : (oX12 A B I J).set 56 (.int x) = oX12 A B (upd I 56 x) J := rfl
theorem pX12_82 {A : Nat → Nat} {B : Nat → Value} {I : Nat → Int32} {J : Nat → Int64} {x : Int32} : (oX12 A B I J).set 82 (.int x) = oX12 A B (upd I 82 x) J := rfl
theorem pX12_88 {A : Nat → Nat} {B : Nat → Value} {I : Nat → Int32} {J : Nat → Int64} {x : Int32} : (oX12 A B I J).set 88 (.int x) = oX12 A B (upd I 88 x) J := rfl
theorem pX12_89 {A : Nat → Nat} {B : Nat → Value} {I : Nat → Int32} {J : Nat → Int64} {x : Int32} : (oX12 A B I J).set 89 (.int x) = oX12 A B (upd I 89 x) J := rfl
theorem pX12_90 {A : Nat → Nat} {B : Nat → Value} {I : Nat → Int32} {J : Nat → Int64} {x : Int32} : (oX12 A B I J).set 90 (.int x) = oX12 A B (upd I 90 x) J := rfl
theorem pX12_91 {A : Nat → Nat} {B : Nat → Value} {I : Nat → Int32} {J : Nat → Int64} {x : Int32} : (oX12 A B I J).set 91 (.int x) = oX12 A B (upd I 91 x) J := rfl
theorem pX12_92 {A : Nat → Nat} {B : Nat → Value} {I : Nat → Int32} {J : Nat → Int64} {x : Int32} : (oX12 A B I J).set 92 (.int x) = oX12 A B (upd I 92 x) J := rfl
theorem pX12_93 {A : Nat → Nat} {B : Nat → Value} {I : Nat → Int32} {J : Nat → Int64} {x : Int32} : (oX12 A B I J).set 93 (.int x) = oX12 A B (upd I 93 x) J := rfl
theorem pX12_94 {A : Nat → Nat} {B : Nat → Value} {I : Nat → Int32} {J : Nat → Int64} {x : Int32} : (oX12 A B I J).set 94 (.int x) = oX12 A B (upd I 94 x) J := rfl
theorem pX12_95 {A : Nat → Nat} {B : Nat → Value} {I : Nat → Int32} {J : Nat → Int64} {x : Int32} : (oX12 A B I J).set 95 (.int x) = oX12 A B (upd I 95 x) J := rfl
theorem pX12_96 {A : Nat → Nat} {B : Nat → Value} {I : Nat → Int32} {J : Nat → Int64} {x : Int32} : (oX12 A B I J).set 96 (.int x) = oX12 A B (upd I 96 x) J := rfl
theorem pX12_97 {A : Nat → Nat} {B : Nat → Value} {I : Nat → Int32} {J : Nat → Int64} {x : Int32} : (oX12 A B I J).set 97 (.int x) = oX12 A B (upd I 97 x) J := rfl
theorem pX12_99 {A : Nat → Nat} {B : Nat → Value} {I : Nat → Int32} {J : Nat → Int64} {x : Int32} : (oX12 A B I J).set 99 (.int x) = oX12 A B (upd I 99 x) J := rfl
theorem pX12_105 {A : Nat → Nat} {B : Nat → Value} {I : Nat → Int32} {J : Nat → Int64} {x : Int32} : (oX12 A B I J).set 105 (.int x) = oX12 A B (upd I 105 x) J := rfl
theorem pX12_111 {A : Nat → Nat} {B : Nat → Value} {I : Nat → Int32} {J : Nat → Int64} {x : Int32} : (oX12 A B I J).set 111 (.int x) = oX12 A B (upd I 111 x) J := rfl
theorem pX12_112 {A : Nat → Nat} {B : Nat → Value} {I : Nat → Int32} {J : Nat → Int64} {x : Int32} : (oX12 A B I J).set 112 (.int x) = oX12 A B (upd I 112 x) J := rfl
theorem pX12_113 {A : Nat → Nat} {B : Nat → Value} {I : Nat → Int32} {J : Nat → Int64} {x : Int32} : (oX12 A B I J).set 113 (.int x) = oX12 A B (upd I 113 x) J := rfl
theorem pX12_114 {A : Nat → Nat} {B : Nat → Value} {I : Nat → Int32} {J : Nat → Int64} {x : Int32} : (oX12 A B I J).set 114 (.int x) = oX12 A B (upd I 114 x) J := rfl
theorem pX12_115 {A : Nat → Nat} {B : Nat → Value} {I : Nat → Int32} {J : Nat → Int64} {x : Int32} : (oX12 A B I J).set 115 (.int x) = oX12 A B (upd I 115 x) J := rfl
