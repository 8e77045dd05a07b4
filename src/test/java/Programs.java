/** Writes programs as words, and reads all that an object shows. */
final class Programs {
    static final int NAT = SizedTermination.NAT;
    static final int LIST = SizedTermination.LIST;

    /** Half of its argument, by one self-call, two down. */
    static final String HALF = "caseN v0 zero caseN v1 zero succ call0 v2";
    /** Appends list 1 to list 0. */
    static final String APPEND = "caseL v0 v1 cons v2 call0 v3 v1";
    /** Calls itself with what it was given: never descends. */
    static final String LOOP = "call0 v0";

    private Programs() {
    }

    /**
     * Declares a function with the parameter types and result type of a signature such as
     * "NL>N", and appends its body: v3 is the variable of level 3, call2 a call of function 2.
     */
    static int declare(SizedTermination x, String signature, String body) {
        int index = x.function(signature.indexOf('>'), maskOf(signature), resultOf(signature));
        Due.same("function " + signature + " accepted", index >= 0, true);
        append(x, body);
        return index;
    }

    static int maskOf(String signature) {
        int mask = 0;
        for (int i = 0; i < signature.indexOf('>'); i++) {
            mask |= signature.charAt(i) == 'L' ? 1 << i : 0;
        }
        return mask;
    }

    static int resultOf(String signature) {
        return signature.endsWith("L") ? LIST : NAT;
    }

    static void append(SizedTermination x, String body) {
        for (String word : body.trim().split(" +")) {
            if (!word.isEmpty()) {
                Due.same("node " + word, x.node(kindOf(word), argOf(word)), true);
            }
        }
    }

    static int kindOf(String word) {
        if (word.startsWith("call")) {
            return SizedTermination.K_CALL;
        }
        switch (word) {
            case "zero": return SizedTermination.K_ZERO;
            case "succ": return SizedTermination.K_SUCC;
            case "nil": return SizedTermination.K_NIL;
            case "cons": return SizedTermination.K_CONS;
            case "caseN": return SizedTermination.K_CASE_NAT;
            case "caseL": return SizedTermination.K_CASE_LIST;
            default: return SizedTermination.K_VAR;
        }
    }

    static int argOf(String word) {
        if (word.startsWith("call")) {
            return Integer.parseInt(word.substring(4));
        }
        return word.startsWith("v") ? Integer.parseInt(word.substring(1)) : 77;
    }

    /** A new object of cap 6 with one function. */
    static SizedTermination one(String signature, String body) {
        SizedTermination x = new SizedTermination(6);
        declare(x, signature, body);
        return x;
    }

    static void putList(SizedTermination x, int slot, int... elements) {
        Due.same("input nil", x.input(slot, SizedTermination.IN_NIL, 0), true);
        for (int i = elements.length - 1; i >= 0; i--) {
            Due.same("input cons", x.input(slot, SizedTermination.IN_CONS, elements[i]), true);
        }
    }

    static void putNat(SizedTermination x, int slot, int value) {
        Due.same("input nat", x.input(slot, SizedTermination.IN_NAT, value), true);
    }

    static String check(SizedTermination x) {
        return "code " + x.getCode() + " fault " + x.getFaultFunction() + " bound " + x.getBound();
    }

    static String machine(SizedTermination x) {
        return "status " + x.getStatus() + " calls " + x.getCalls() + " depth " + x.getDepth();
    }

    static String result(SizedTermination x) {
        if (x.resultLength() < 0) {
            return "" + x.resultNat();
        }
        StringBuilder list = new StringBuilder(x.resultNat() == -1 ? "[" : "both [");
        for (int i = 0; i < x.resultLength(); i++) {
            list.append(i == 0 ? "" : " ").append(x.resultElem(i));
        }
        return list.append("]").toString();
    }

    static String all(SizedTermination x) {
        return check(x) + " " + machine(x) + " result " + result(x) + " " + x.resultElem(0);
    }

    /** What all() shows in the RESET state. */
    static final String RESET =
        "code 0 fault -1 bound 0 status 0 calls 0 depth 0 result -1 -1";

    /** Starts and runs to the end, and answers the machine and the result. */
    static String outcome(SizedTermination x, int fuel) {
        Due.same("start", x.start(fuel), true);
        for (int i = 0; i < 5000 && x.getStatus() == SizedTermination.ST_READY; i++) {
            x.run(SizedTermination.MAX_RUN);
        }
        return machine(x) + " result " + result(x);
    }

    /** What a slot holds, when the slots up to it have the given types ("NLN"). */
    static String slot(SizedTermination x, String types, int slot) {
        x.clearProgram();
        declare(x, types.substring(0, slot + 1) + ">" + types.charAt(slot), "v" + slot);
        x.compile();
        return x.start(1) && x.run(1) == SizedTermination.ST_DONE ? result(x) : "other types";
    }
}
