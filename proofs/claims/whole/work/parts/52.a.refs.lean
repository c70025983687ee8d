/-! Fields that are references. -/
theorem xs_0 : xisr "LPaintedTown$Script;" = true := by decide +kernel
theorem xs_1 : xisr "LPaintedTown$Painting;" = true := by decide +kernel
theorem xs_2 : xisr "LPaintedTown$Town;" = true := by decide +kernel
theorem xs_3 : xisr "LPaintedTown$Past;" = true := by decide +kernel
theorem xs_4 : xisr "LPaintedTown$Judge;" = true := by decide +kernel
theorem xs_5 : xisr "LPaintedTown$Search;" = true := by decide +kernel
theorem xs_6 : xisr "[I" = true := by decide +kernel
theorem xs_7 : xisr "[C" = true := by decide +kernel
theorem xs_8 : xisr "[Z" = true := by decide +kernel
theorem xs_9 : xisr "[LPaintedTown$Town;" = true := by decide +kernel
theorem xf_0 : xcls[0]? = some ("PaintedTown", xT0, 11) := rfl
theorem xf_1 : xcls[1]? = some ("PaintedTown$Script", xT1, 7) := rfl
theorem xf_2 : xcls[2]? = some ("PaintedTown$Painting", xT2, 5) := rfl
theorem xf_3 : xcls[3]? = some ("PaintedTown$Town", xT3, 6) := rfl
theorem xf_4 : xcls[4]? = some ("PaintedTown$Past", xT4, 3) := rfl
theorem xf_5 : xcls[5]? = some ("PaintedTown$Judge", xT5, 6) := rfl
theorem xf_6 : xcls[6]? = some ("PaintedTown$Search", xT6, 9) := rfl
theorem xf_7 : xcls[7]? = some ("PaintedTownModel", xT7, 19) := rfl
theorem xq_0_0 : (xT0 0).2.2.1 = "LPaintedTown$Script;" := rfl
theorem xr_0_0 {x : Nat} : xfit 0 0 (.ref x) := @xfit_r 0 0 11 x "PaintedTown" xT0 xf_0 ((congrArg xisr xq_0_0).trans xs_0)
theorem xq_0_1 : (xT0 1).2.2.1 = "LPaintedTown$Painting;" := rfl
theorem xr_0_1 {x : Nat} : xfit 0 1 (.ref x) := @xfit_r 0 1 11 x "PaintedTown" xT0 xf_0 ((congrArg xisr xq_0_1).trans xs_1)
theorem xq_0_2 : (xT0 2).2.2.1 = "LPaintedTown$Town;" := rfl
theorem xr_0_2 {x : Nat} : xfit 0 2 (.ref x) := @xfit_r 0 2 11 x "PaintedTown" xT0 xf_0 ((congrArg xisr xq_0_2).trans xs_2)
theorem xq_0_3 : (xT0 3).2.2.1 = "LPaintedTown$Past;" := rfl
theorem xr_0_3 {x : Nat} : xfit 0 3 (.ref x) := @xfit_r 0 3 11 x "PaintedTown" xT0 xf_0 ((congrArg xisr xq_0_3).trans xs_3)
theorem xq_0_4 : (xT0 4).2.2.1 = "LPaintedTown$Past;" := rfl
theorem xr_0_4 {x : Nat} : xfit 0 4 (.ref x) := @xfit_r 0 4 11 x "PaintedTown" xT0 xf_0 ((congrArg xisr xq_0_4).trans xs_3)
theorem xq_0_5 : (xT0 5).2.2.1 = "LPaintedTown$Town;" := rfl
theorem xr_0_5 {x : Nat} : xfit 0 5 (.ref x) := @xfit_r 0 5 11 x "PaintedTown" xT0 xf_0 ((congrArg xisr xq_0_5).trans xs_2)
theorem xq_0_6 : (xT0 6).2.2.1 = "LPaintedTown$Judge;" := rfl
theorem xr_0_6 {x : Nat} : xfit 0 6 (.ref x) := @xfit_r 0 6 11 x "PaintedTown" xT0 xf_0 ((congrArg xisr xq_0_6).trans xs_4)
theorem xq_0_7 : (xT0 7).2.2.1 = "LPaintedTown$Search;" := rfl
theorem xr_0_7 {x : Nat} : xfit 0 7 (.ref x) := @xfit_r 0 7 11 x "PaintedTown" xT0 xf_0 ((congrArg xisr xq_0_7).trans xs_5)
theorem xq_0_8 : (xT0 8).2.2.1 = "[I" := rfl
theorem xr_0_8 {x : Nat} : xfit 0 8 (.ref x) := @xfit_r 0 8 11 x "PaintedTown" xT0 xf_0 ((congrArg xisr xq_0_8).trans xs_6)
theorem xq_0_9 : (xT0 9).2.2.1 = "[I" := rfl
theorem xr_0_9 {x : Nat} : xfit 0 9 (.ref x) := @xfit_r 0 9 11 x "PaintedTown" xT0 xf_0 ((congrArg xisr xq_0_9).trans xs_6)
theorem xq_1_0 : (xT1 0).2.2.1 = "[C" := rfl
theorem xr_1_0 {x : Nat} : xfit 1 0 (.ref x) := @xfit_r 1 0 7 x "PaintedTown$Script" xT1 xf_1 ((congrArg xisr xq_1_0).trans xs_7)
theorem xq_1_2 : (xT1 2).2.2.1 = "LPaintedTown$Painting;" := rfl
theorem xr_1_2 {x : Nat} : xfit 1 2 (.ref x) := @xfit_r 1 2 7 x "PaintedTown$Script" xT1 xf_1 ((congrArg xisr xq_1_2).trans xs_1)
theorem xq_1_3 : (xT1 3).2.2.1 = "LPaintedTown$Town;" := rfl
theorem xr_1_3 {x : Nat} : xfit 1 3 (.ref x) := @xfit_r 1 3 7 x "PaintedTown$Script" xT1 xf_1 ((congrArg xisr xq_1_3).trans xs_2)
theorem xq_1_4 : (xT1 4).2.2.1 = "[I" := rfl
theorem xr_1_4 {x : Nat} : xfit 1 4 (.ref x) := @xfit_r 1 4 7 x "PaintedTown$Script" xT1 xf_1 ((congrArg xisr xq_1_4).trans xs_6)
theorem xq_2_3 : (xT2 3).2.2.1 = "[I" := rfl
theorem xr_2_3 {x : Nat} : xfit 2 3 (.ref x) := @xfit_r 2 3 5 x "PaintedTown$Painting" xT2 xf_2 ((congrArg xisr xq_2_3).trans xs_6)
theorem xq_2_4 : (xT2 4).2.2.1 = "[I" := rfl
theorem xr_2_4 {x : Nat} : xfit 2 4 (.ref x) := @xfit_r 2 4 5 x "PaintedTown$Painting" xT2 xf_2 ((congrArg xisr xq_2_4).trans xs_6)
theorem xq_3_0 : (xT3 0).2.2.1 = "[I" := rfl
theorem xr_3_0 {x : Nat} : xfit 3 0 (.ref x) := @xfit_r 3 0 6 x "PaintedTown$Town" xT3 xf_3 ((congrArg xisr xq_3_0).trans xs_6)
theorem xq_3_1 : (xT3 1).2.2.1 = "[I" := rfl
theorem xr_3_1 {x : Nat} : xfit 3 1 (.ref x) := @xfit_r 3 1 6 x "PaintedTown$Town" xT3 xf_3 ((congrArg xisr xq_3_1).trans xs_6)
theorem xq_3_2 : (xT3 2).2.2.1 = "[Z" := rfl
theorem xr_3_2 {x : Nat} : xfit 3 2 (.ref x) := @xfit_r 3 2 6 x "PaintedTown$Town" xT3 xf_3 ((congrArg xisr xq_3_2).trans xs_8)
theorem xq_4_0 : (xT4 0).2.2.1 = "[LPaintedTown$Town;" := rfl
theorem xr_4_0 {x : Nat} : xfit 4 0 (.ref x) := @xfit_r 4 0 3 x "PaintedTown$Past" xT4 xf_4 ((congrArg xisr xq_4_0).trans xs_9)
theorem xq_5_0 : (xT5 0).2.2.1 = "LPaintedTown$Painting;" := rfl
theorem xr_5_0 {x : Nat} : xfit 5 0 (.ref x) := @xfit_r 5 0 6 x "PaintedTown$Judge" xT5 xf_5 ((congrArg xisr xq_5_0).trans xs_1)
theorem xq_5_1 : (xT5 1).2.2.1 = "LPaintedTown$Town;" := rfl
theorem xr_5_1 {x : Nat} : xfit 5 1 (.ref x) := @xfit_r 5 1 6 x "PaintedTown$Judge" xT5 xf_5 ((congrArg xisr xq_5_1).trans xs_2)
theorem xq_5_2 : (xT5 2).2.2.1 = "[I" := rfl
theorem xr_5_2 {x : Nat} : xfit 5 2 (.ref x) := @xfit_r 5 2 6 x "PaintedTown$Judge" xT5 xf_5 ((congrArg xisr xq_5_2).trans xs_6)
theorem xq_6_0 : (xT6 0).2.2.1 = "LPaintedTown$Painting;" := rfl
theorem xr_6_0 {x : Nat} : xfit 6 0 (.ref x) := @xfit_r 6 0 9 x "PaintedTown$Search" xT6 xf_6 ((congrArg xisr xq_6_0).trans xs_1)
theorem xq_6_1 : (xT6 1).2.2.1 = "LPaintedTown$Town;" := rfl
theorem xr_6_1 {x : Nat} : xfit 6 1 (.ref x) := @xfit_r 6 1 9 x "PaintedTown$Search" xT6 xf_6 ((congrArg xisr xq_6_1).trans xs_2)
theorem xq_6_2 : (xT6 2).2.2.1 = "LPaintedTown$Judge;" := rfl
theorem xr_6_2 {x : Nat} : xfit 6 2 (.ref x) := @xfit_r 6 2 9 x "PaintedTown$Search" xT6 xf_6 ((congrArg xisr xq_6_2).trans xs_4)
theorem xq_6_3 : (xT6 3).2.2.1 = "[I" := rfl
theorem xr_6_3 {x : Nat} : xfit 6 3 (.ref x) := @xfit_r 6 3 9 x "PaintedTown$Search" xT6 xf_6 ((congrArg xisr xq_6_3).trans xs_6)
theorem xq_6_4 : (xT6 4).2.2.1 = "[I" := rfl
theorem xr_6_4 {x : Nat} : xfit 6 4 (.ref x) := @xfit_r 6 4 9 x "PaintedTown$Search" xT6 xf_6 ((congrArg xisr xq_6_4).trans xs_6)
theorem xq_7_0 : (xT7 0).2.2.1 = "[I" := rfl
theorem xr_7_0 {x : Nat} : xfit 7 0 (.ref x) := @xfit_r 7 0 19 x "PaintedTownModel" xT7 xf_7 ((congrArg xisr xq_7_0).trans xs_6)
theorem xq_7_1 : (xT7 1).2.2.1 = "[I" := rfl
theorem xr_7_1 {x : Nat} : xfit 7 1 (.ref x) := @xfit_r 7 1 19 x "PaintedTownModel" xT7 xf_7 ((congrArg xisr xq_7_1).trans xs_6)
theorem xq_7_2 : (xT7 2).2.2.1 = "[I" := rfl
theorem xr_7_2 {x : Nat} : xfit 7 2 (.ref x) := @xfit_r 7 2 19 x "PaintedTownModel" xT7 xf_7 ((congrArg xisr xq_7_2).trans xs_6)
theorem xq_7_3 : (xT7 3).2.2.1 = "[I" := rfl
theorem xr_7_3 {x : Nat} : xfit 7 3 (.ref x) := @xfit_r 7 3 19 x "PaintedTownModel" xT7 xf_7 ((congrArg xisr xq_7_3).trans xs_6)
theorem xq_7_4 : (xT7 4).2.2.1 = "[I" := rfl
theorem xr_7_4 {x : Nat} : xfit 7 4 (.ref x) := @xfit_r 7 4 19 x "PaintedTownModel" xT7 xf_7 ((congrArg xisr xq_7_4).trans xs_6)
theorem xq_7_6 : (xT7 6).2.2.1 = "[I" := rfl
theorem xr_7_6 {x : Nat} : xfit 7 6 (.ref x) := @xfit_r 7 6 19 x "PaintedTownModel" xT7 xf_7 ((congrArg xisr xq_7_6).trans xs_6)
theorem xq_7_8 : (xT7 8).2.2.1 = "[I" := rfl
theorem xr_7_8 {x : Nat} : xfit 7 8 (.ref x) := @xfit_r 7 8 19 x "PaintedTownModel" xT7 xf_7 ((congrArg xisr xq_7_8).trans xs_6)
theorem xq_7_10 : (xT7 10).2.2.1 = "[I" := rfl
theorem xr_7_10 {x : Nat} : xfit 7 10 (.ref x) := @xfit_r 7 10 19 x "PaintedTownModel" xT7 xf_7 ((congrArg xisr xq_7_10).trans xs_6)
theorem xq_7_14 : (xT7 14).2.2.1 = "[I" := rfl
theorem xr_7_14 {x : Nat} : xfit 7 14 (.ref x) := @xfit_r 7 14 19 x "PaintedTownModel" xT7 xf_7 ((congrArg xisr xq_7_14).trans xs_6)
theorem xq_7_15 : (xT7 15).2.2.1 = "[I" := rfl
theorem xr_7_15 {x : Nat} : xfit 7 15 (.ref x) := @xfit_r 7 15 19 x "PaintedTownModel" xT7 xf_7 ((congrArg xisr xq_7_15).trans xs_6)
theorem xq_7_16 : (xT7 16).2.2.1 = "[I" := rfl
theorem xr_7_16 {x : Nat} : xfit 7 16 (.ref x) := @xfit_r 7 16 19 x "PaintedTownModel" xT7 xf_7 ((congrArg xisr xq_7_16).trans xs_6)
