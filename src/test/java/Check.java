// Counts the answers that are not as due, for the tests of the project.
final class Check {
    private final String test;
    private int asked = 0;
    private int wrong = 0;

    Check(String test) {
        this.test = test;
    }

    void due(String call, long got, long want) {
        asked++;
        if (got != want) {
            wrong++;
            if (wrong <= 50) {
                System.out.println(test + ": " + call + " answered " + got + ", due is " + want);
            }
        }
    }

    void due(String call, boolean got, boolean want) {
        due(call, got ? 1 : 0, want ? 1 : 0);
    }

    // The answer and the STATUS behind it.
    void due(SwapBook x, String call, long got, long want, int status) {
        due(call, got, want);
        due(call + " status", x.status(), status);
    }

    void due(SwapBook x, String call, boolean got, boolean want, int status) {
        due(call, got, want);
        due(call + " status", x.status(), status);
    }

    void end() {
        System.out.println(test + ": " + asked + " answers asked, " + wrong + " not as due");
        if (wrong != 0) {
            System.exit(1);
        }
    }

    static void feed(SwapBook x, String text) {
        byte[] bytes = text.getBytes(java.nio.charset.StandardCharsets.ISO_8859_1);
        for (int i = 0; i < bytes.length; i += 20) {
            int[] five = new int[5];
            for (int k = 0; k < 20; k++) {
                int sign = i + k < bytes.length ? bytes[i + k] & 255 : ' ';
                five[k / 4] = five[k / 4] << 8 | sign;
            }
            x.feed(five[0], five[1], five[2], five[3], five[4]);
        }
    }

    static int book(SwapBook x, String text) {
        feed(x, text);
        return x.book(text.length());
    }

    static int log(SwapBook x, String text) {
        feed(x, text);
        return x.log(text.length());
    }
}
