/-! the code words of the methods -/
set_option maxRecDepth 100000 in
theorem xj_mQ0 : xj_mT0.map (fun r => (xj_seg r.2.2.2.2.2.2.2.1.1)[r.2.2.2.2.2.2.2.1.2]?) = xj_mT0.map (fun r => some (Cond.code r.2.1 r.2.2.1 r.2.2.2.1 r.2.2.2.2.1)) := rfl
set_option maxRecDepth 100000 in
theorem xj_mQ1 : xj_mT1.map (fun r => (xj_seg r.2.2.2.2.2.2.2.1.1)[r.2.2.2.2.2.2.2.1.2]?) = xj_mT1.map (fun r => some (Cond.code r.2.1 r.2.2.1 r.2.2.2.1 r.2.2.2.2.1)) := rfl
set_option maxRecDepth 100000 in
theorem xj_mQ2 : xj_mT2.map (fun r => (xj_seg r.2.2.2.2.2.2.2.1.1)[r.2.2.2.2.2.2.2.1.2]?) = xj_mT2.map (fun r => some (Cond.code r.2.1 r.2.2.1 r.2.2.2.1 r.2.2.2.2.1)) := rfl
set_option maxRecDepth 100000 in
theorem xj_mQ3 : xj_mT3.map (fun r => (xj_seg r.2.2.2.2.2.2.2.1.1)[r.2.2.2.2.2.2.2.1.2]?) = xj_mT3.map (fun r => some (Cond.code r.2.1 r.2.2.1 r.2.2.2.1 r.2.2.2.2.1)) := rfl
set_option maxRecDepth 100000 in
theorem xj_mQ4 : xj_mT4.map (fun r => (xj_seg r.2.2.2.2.2.2.2.1.1)[r.2.2.2.2.2.2.2.1.2]?) = xj_mT4.map (fun r => some (Cond.code r.2.1 r.2.2.1 r.2.2.2.1 r.2.2.2.2.1)) := rfl
set_option maxRecDepth 100000 in
theorem xj_mQ5 : xj_mT5.map (fun r => (xj_seg r.2.2.2.2.2.2.2.1.1)[r.2.2.2.2.2.2.2.1.2]?) = xj_mT5.map (fun r => some (Cond.code r.2.1 r.2.2.1 r.2.2.2.1 r.2.2.2.2.1)) := rfl
set_option maxRecDepth 100000 in
theorem xj_mQ6 : xj_mT6.map (fun r => (xj_seg r.2.2.2.2.2.2.2.1.1)[r.2.2.2.2.2.2.2.1.2]?) = xj_mT6.map (fun r => some (Cond.code r.2.1 r.2.2.1 r.2.2.2.1 r.2.2.2.2.1)) := rfl
set_option maxRecDepth 100000 in
theorem xj_mQ7 : xj_mT7.map (fun r => (xj_seg r.2.2.2.2.2.2.2.1.1)[r.2.2.2.2.2.2.2.1.2]?) = xj_mT7.map (fun r => some (Cond.code r.2.1 r.2.2.1 r.2.2.2.1 r.2.2.2.2.1)) := rfl
set_option maxRecDepth 100000 in
theorem xj_mQ8 : xj_mT8.map (fun r => (xj_seg r.2.2.2.2.2.2.2.1.1)[r.2.2.2.2.2.2.2.1.2]?) = xj_mT8.map (fun r => some (Cond.code r.2.1 r.2.2.1 r.2.2.2.1 r.2.2.2.2.1)) := rfl
set_option maxRecDepth 100000 in
theorem xj_mQ9 : xj_mT9.map (fun r => (xj_seg r.2.2.2.2.2.2.2.1.1)[r.2.2.2.2.2.2.2.1.2]?) = xj_mT9.map (fun r => some (Cond.code r.2.1 r.2.2.1 r.2.2.2.1 r.2.2.2.2.1)) := rfl
set_option maxRecDepth 100000 in
theorem xj_wQ : xj_wT.map (fun r => (xj_seg r.1.2.2.2.2.2.2.2.1.1)[r.1.2.2.2.2.2.2.2.1.2]?) = xj_wT.map (fun r => some (Cond.codeWith r.1.2.1 r.1.2.2.1 r.1.2.2.2.1 r.1.2.2.2.2.1 [r.2.1])) := rfl
