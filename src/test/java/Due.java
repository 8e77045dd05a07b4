/** Prints every answer that is not the one that is due; each test closes with end(). */
final class Due {
    private static int looked = 0;
    private static int wrong = 0;

    private Due() {
    }

    static void same(String what, Object got, Object want) {
        looked++;
        if (!got.equals(want)) {
            wrong++;
            System.out.println(what + " answered " + got + ", due is " + want);
        }
    }

    static void same(String what, long got, long want) {
        same(what, (Object) got, (Object) want);
    }

    static void same(String what, boolean got, boolean want) {
        same(what, (Object) got, (Object) want);
    }

    static int wrong() {
        return wrong;
    }

    static void end() {
        System.out.println(looked + " answers looked at, " + wrong + " not as due");
        if (wrong != 0 || looked == 0) {
            System.exit(1);
        }
    }
}
