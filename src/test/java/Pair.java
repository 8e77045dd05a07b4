/** The class and the model side by side: every call goes to both, and their answers are compared. */
final class Pair {
    final SizedTermination x;
    final Model model;

    Pair(int cap) {
        x = new SizedTermination(cap);
        model = new Model(cap);
        look();
    }

    void clearProgram() {
        x.clearProgram();
        model.clearProgram();
    }

    int function(int paramCount, int listMask, int resultType) {
        int index = x.function(paramCount, listMask, resultType);
        Due.same("function(" + paramCount + ", " + listMask + ", " + resultType + ")", index,
            model.function(paramCount, listMask, resultType));
        return index;
    }

    void node(int kind, int arg) {
        Due.same("node(" + kind + ", " + arg + ")", x.node(kind, arg), model.node(kind, arg));
    }

    void compile() {
        Due.same("compile()", x.compile(), model.compile());
    }

    void input(int slot, int op, int value) {
        Due.same("input(" + slot + ", " + op + ", " + value + ")", x.input(slot, op, value),
            model.input(slot, op, value));
    }

    void start(int fuel) {
        Due.same("start(" + fuel + ")", x.start(fuel), model.start(fuel));
    }

    /** Answers false, and runs neither, where the model's record of the run would end. */
    boolean run(int k) {
        if (model.leavesTheRecord(k)) {
            return false;
        }
        Due.same("run(" + k + ")", x.run(k), model.run(k));
        return true;
    }

    void look() {
        Due.same("getCode", x.getCode(), model.code);
        Due.same("getFaultFunction", x.getFaultFunction(), model.fault);
        Due.same("getBound", x.getBound(), model.bound);
        Due.same("getStatus", x.getStatus(), model.status);
        Due.same("getCalls", x.getCalls(), model.calls);
        Due.same("getDepth", x.getDepth(), model.depth);
        Due.same("resultNat", x.resultNat(), model.resultNat());
        Due.same("resultLength", x.resultLength(), model.resultLength());
        for (int i = -1; i <= 12; i++) {
            Due.same("resultElem", x.resultElem(i), model.resultElem(i));
        }
        keepsToTheBound();
    }

    /** "in every state in which getCode() == CODE_OK: .." (promise 9) */
    private void keepsToTheBound() {
        if (x.getCode() != SizedTermination.CODE_OK) {
            return;
        }
        Due.same("bound at least 1", x.getBound() >= 1, true);
        Due.same("calls within the bound", x.getCalls() >= 0 && x.getCalls() <= x.getBound(), true);
        boolean cut = x.getBound() == SizedTermination.BOUND_CAP;
        Due.same("fuel enough", cut || x.getStatus() != SizedTermination.ST_OUT_OF_FUEL, true);
    }
}
