/** Promise 2; EveryStateTest clears in every state. */
public final class ClearProgramTest {
    public static void main(String[] args) {
        nothingToClear();
        fullAndRunning();
        Due.end();
    }

    /** "clearProgram() always works." */
    private static void nothingToClear() {
        SizedTermination x = new SizedTermination(5);
        for (int i = 0; i < 3; i++) {
            x.clearProgram();
            Due.same("clear of nothing", Programs.all(x), Programs.RESET);
        }
        x.compile();
        x.clearProgram();
        Due.same("code gone as well", Programs.all(x), Programs.RESET);
        Due.same("first function", x.function(1, 0, 0), 0);
        x.clearProgram();
        Due.same("first function anew", x.function(1, 0, 0), 0);
        Due.same("its body is empty", x.compile(), SizedTermination.CODE_SYNTAX);
    }

    /** "It removes all functions and nodes (F becomes 0), then RESETs. Inputs and M do not change." */
    private static void fullAndRunning() {
        SizedTermination x = new SizedTermination(5);
        Programs.putNat(x, 0, 4);
        Programs.putList(x, 1, 3, 1, 5);
        Programs.putNat(x, 2, 2);
        fill(x);
        x.clearProgram();
        Due.same("after clear", Programs.all(x), Programs.RESET);
        Due.same("no function left", x.node(SizedTermination.K_ZERO, 0), false);
        Due.same("start", x.start(5), false);
        Due.same("run", x.run(5), SizedTermination.ST_IDLE);
        Due.same("compile", x.compile(), SizedTermination.CODE_EMPTY);
        fill(x);
        x.clearProgram();

        Programs.declare(x, "N>N", Programs.HALF);
        Due.same("compile", x.compile(), SizedTermination.CODE_OK);
        Due.same("M stays", x.getBound(), 6);
        x.start(0);
        x.run(1);
        x.clearProgram();
        Due.same("clear in a run", Programs.all(x), Programs.RESET);
        Programs.declare(x, "N>N", "v0");
        x.compile();
        Programs.outcome(x, 1);
        Due.same("a result", x.resultNat(), 4);
        x.clearProgram();
        Due.same("clear after a run", Programs.all(x), Programs.RESET);

        Due.same("slot 0", Programs.slot(x, "NLN", 0), "4");
        Due.same("slot 1", Programs.slot(x, "NLN", 1), "[3 1 5]");
        Due.same("slot 2", Programs.slot(x, "NLN", 2), "2");
        Due.same("M", Probe.cap(x), 5);
    }

    /** All functions and all nodes: only a true clearing makes room for them again. */
    private static void fill(SizedTermination x) {
        for (int f = 0; f < SizedTermination.MAX_FUNCS; f++) {
            Due.same("function", x.function(1, 0, 0), f);
        }
        for (int n = 0; n < SizedTermination.MAX_NODES; n++) {
            Due.same("node", x.node(SizedTermination.K_SUCC, 0), true);
        }
        Due.same("full of functions", x.function(1, 0, 0), -1);
        Due.same("full of nodes", x.node(SizedTermination.K_ZERO, 0), false);
    }
}
