/** What the tests have in common: a stack told by a text, and a check that prints what is not due. */
final class Due {
    private static int checks = 0;
    private static int wrong = 0;

    private Due() {
    }

    static void due(String call, long got, long want) {
        checks++;
        if (got != want) {
            wrong++;
            if (wrong <= 20) {
                System.out.println(call + " answered " + got + ", due is " + want);
            }
        }
    }

    static void due(String call, String got, String want) {
        checks++;
        if (!got.equals(want)) {
            wrong++;
            if (wrong <= 20) {
                System.out.println(call + " answered\n  " + got + ", due is\n  " + want);
            }
        }
    }

    static FlueStack told(String text) {
        FlueStack x = new FlueStack();
        tell(x, text);
        return x;
    }

    static void tell(FlueStack x, String text) {
        write(x, text);
        int fault = x.wall();
        if (fault < 0) {
            throw new IllegalStateException("the wall of a test has a fault: " + text + " " + fault);
        }
    }

    /** Types a text in pieces of eight bytes and what is left. */
    static void write(FlueStack x, String text) {
        for (int i = 0; i < text.length(); i += 8) {
            int n = Math.min(8, text.length() - i);
            x.type(bytes(text.substring(i, i + n)), n);
        }
    }

    static long bytes(String piece) {
        long v = 0;
        for (char c : piece.toCharArray()) {
            v = v << 8 | c & 255;
        }
        return v;
    }

    static void finish(String name) {
        System.out.println(name + ": " + checks + " checks, " + wrong + " not as due");
        if (wrong != 0) {
            System.exit(1);
        }
    }
}
