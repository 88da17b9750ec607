/-! each method's code word among the tables' -/
set_option maxRecDepth 100000 in
theorem pm_cd_0 : (((List.range 183).drop 0).take 10).map (fun m => Cond.code (pm_y m) (pm_b m) (pm_mx m) (pm_ret m)) = ((pm_ixM.drop 0).take 10).filterMap (fun i => lw_tbl[i.1]?) := rfl
set_option maxRecDepth 100000 in
theorem pm_cd_10 : (((List.range 183).drop 10).take 10).map (fun m => Cond.code (pm_y m) (pm_b m) (pm_mx m) (pm_ret m)) = ((pm_ixM.drop 10).take 10).filterMap (fun i => lw_tbl[i.1]?) := rfl
set_option maxRecDepth 100000 in
theorem pm_cd_20 : (((List.range 183).drop 20).take 10).map (fun m => Cond.code (pm_y m) (pm_b m) (pm_mx m) (pm_ret m)) = ((pm_ixM.drop 20).take 10).filterMap (fun i => lw_tbl[i.1]?) := rfl
set_option maxRecDepth 100000 in
theorem pm_cd_30 : (((List.range 183).drop 30).take 10).map (fun m => Cond.code (pm_y m) (pm_b m) (pm_mx m) (pm_ret m)) = ((pm_ixM.drop 30).take 10).filterMap (fun i => lw_tbl[i.1]?) := rfl
set_option maxRecDepth 100000 in
theorem pm_cd_40 : (((List.range 183).drop 40).take 10).map (fun m => Cond.code (pm_y m) (pm_b m) (pm_mx m) (pm_ret m)) = ((pm_ixM.drop 40).take 10).filterMap (fun i => lw_tbl[i.1]?) := rfl
set_option maxRecDepth 100000 in
theorem pm_cd_50 : (((List.range 183).drop 50).take 10).map (fun m => Cond.code (pm_y m) (pm_b m) (pm_mx m) (pm_ret m)) = ((pm_ixM.drop 50).take 10).filterMap (fun i => lw_tbl[i.1]?) := rfl
set_option maxRecDepth 100000 in
theorem pm_cd_60 : (((List.range 183).drop 60).take 10).map (fun m => Cond.code (pm_y m) (pm_b m) (pm_mx m) (pm_ret m)) = ((pm_ixM.drop 60).take 10).filterMap (fun i => lw_tbl[i.1]?) := rfl
set_option maxRecDepth 100000 in
theorem pm_cd_70 : (((List.range 183).drop 70).take 10).map (fun m => Cond.code (pm_y m) (pm_b m) (pm_mx m) (pm_ret m)) = ((pm_ixM.drop 70).take 10).filterMap (fun i => lw_tbl[i.1]?) := rfl
set_option maxRecDepth 100000 in
theorem pm_cd_80 : (((List.range 183).drop 80).take 10).map (fun m => Cond.code (pm_y m) (pm_b m) (pm_mx m) (pm_ret m)) = ((pm_ixM.drop 80).take 10).filterMap (fun i => lw_tbl[i.1]?) := rfl
set_option maxRecDepth 100000 in
theorem pm_cd_90 : (((List.range 183).drop 90).take 10).map (fun m => Cond.code (pm_y m) (pm_b m) (pm_mx m) (pm_ret m)) = ((pm_ixM.drop 90).take 10).filterMap (fun i => lw_tbl[i.1]?) := rfl
set_option maxRecDepth 100000 in
theorem pm_cd_100 : (((List.range 183).drop 100).take 10).map (fun m => Cond.code (pm_y m) (pm_b m) (pm_mx m) (pm_ret m)) = ((pm_ixM.drop 100).take 10).filterMap (fun i => lw_tbl[i.1]?) := rfl
set_option maxRecDepth 100000 in
theorem pm_cd_110 : (((List.range 183).drop 110).take 10).map (fun m => Cond.code (pm_y m) (pm_b m) (pm_mx m) (pm_ret m)) = ((pm_ixM.drop 110).take 10).filterMap (fun i => lw_tbl[i.1]?) := rfl
set_option maxRecDepth 100000 in
theorem pm_cd_120 : (((List.range 183).drop 120).take 10).map (fun m => Cond.code (pm_y m) (pm_b m) (pm_mx m) (pm_ret m)) = ((pm_ixM.drop 120).take 10).filterMap (fun i => lw_tbl[i.1]?) := rfl
set_option maxRecDepth 100000 in
theorem pm_cd_130 : (((List.range 183).drop 130).take 10).map (fun m => Cond.code (pm_y m) (pm_b m) (pm_mx m) (pm_ret m)) = ((pm_ixM.drop 130).take 10).filterMap (fun i => lw_tbl[i.1]?) := rfl
set_option maxRecDepth 100000 in
theorem pm_cd_140 : (((List.range 183).drop 140).take 10).map (fun m => Cond.code (pm_y m) (pm_b m) (pm_mx m) (pm_ret m)) = ((pm_ixM.drop 140).take 10).filterMap (fun i => lw_tbl[i.1]?) := rfl
set_option maxRecDepth 100000 in
theorem pm_cd_150 : (((List.range 183).drop 150).take 10).map (fun m => Cond.code (pm_y m) (pm_b m) (pm_mx m) (pm_ret m)) = ((pm_ixM.drop 150).take 10).filterMap (fun i => lw_tbl[i.1]?) := rfl
set_option maxRecDepth 100000 in
theorem pm_cd_160 : (((List.range 183).drop 160).take 10).map (fun m => Cond.code (pm_y m) (pm_b m) (pm_mx m) (pm_ret m)) = ((pm_ixM.drop 160).take 10).filterMap (fun i => lw_tbl[i.1]?) := rfl
set_option maxRecDepth 100000 in
theorem pm_cd_170 : (((List.range 183).drop 170).take 10).map (fun m => Cond.code (pm_y m) (pm_b m) (pm_mx m) (pm_ret m)) = ((pm_ixM.drop 170).take 10).filterMap (fun i => lw_tbl[i.1]?) := rfl
set_option maxRecDepth 100000 in
theorem pm_cd_180 : (((List.range 183).drop 180).take 10).map (fun m => Cond.code (pm_y m) (pm_b m) (pm_mx m) (pm_ret m)) = ((pm_ixM.drop 180).take 10).filterMap (fun i => lw_tbl[i.1]?) := rfl
