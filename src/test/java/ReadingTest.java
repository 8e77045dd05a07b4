/** Promise 6. */
public final class ReadingTest {
    public static void main(String[] args) {
        SizedTermination x = new SizedTermination(6);
        expect(x, "code 0 fault -1 bound 0");
        x.compile();
        expect(x, "code 7 fault -1 bound 0");
        x.function(1, 0, 0);
        expect(x, "code 0 fault -1 bound 0");
        x.compile();
        expect(x, "code 2 fault 0 bound 0");
        Due.same("refused edit", x.node(9, 0), false);
        expect(x, "code 2 fault 0 bound 0");
        x.node(SizedTermination.K_VAR, 0);
        expect(x, "code 0 fault -1 bound 0");
        x.compile();
        expect(x, "code 1 fault -1 bound 1");
        x.function(1, 0, 0);
        expect(x, "code 0 fault -1 bound 0");
        Programs.append(x, "v1");
        Due.same("compile", x.compile(), SizedTermination.CODE_SCOPE);
        expect(x, "code 3 fault 1 bound 0");
        x.clearProgram();
        expect(x, "code 0 fault -1 bound 0");

        Programs.declare(x, "N>N", "call1");
        x.compile();
        expect(x, "code 4 fault 0 bound 0");
        x.clearProgram();
        Programs.declare(x, "N>N", "nil");
        x.compile();
        expect(x, "code 5 fault 0 bound 0");
        x.clearProgram();
        Programs.declare(x, "N>N", Programs.HALF);
        Programs.declare(x, "N>N", "call1 call0 v0");
        x.compile();
        expect(x, "code 6 fault 1 bound 0");
        readingInARun(x, "code 6 fault 1 bound 0");
        x.clearProgram();
        Programs.declare(x, "N>N", Programs.HALF);
        x.compile();
        readingInARun(x, "code 1 fault -1 bound 7");
        Due.end();
    }

    private static void expect(SizedTermination x, String want) {
        String machine = Programs.machine(x);
        for (int i = 0; i < 3; i++) {
            Due.same("check", Programs.check(x), want);
        }
        Due.same("machine untouched", Programs.machine(x), machine);
    }

    /** Neither inputs nor a run change the check, and reading it does not change the run. */
    private static void readingInARun(SizedTermination x, String want) {
        Programs.putNat(x, 0, 6);
        expect(x, want);
        Due.same("start", x.start(4), true);
        expect(x, want);
        for (int i = 1; i <= 6; i++) {
            int status = x.run(1);
            expect(x, want);
            Due.same("status", x.getStatus(), status);
        }
        Due.same("compile again", x.compile(), x.getCode());
        expect(x, want);
    }
}
