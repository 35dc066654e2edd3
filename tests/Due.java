import java.nio.charset.StandardCharsets;

/** What the tests share: answers that are due, and texts told by the TAPE. */
final class Due {
    private static int wrong = 0;
    private static int asked = 0;
    /** Which promise and which sentence the answers are for, where a test says so. */
    static String sentence = "";

    private Due() {
    }

    static void is(String call, long got, long want) {
        asked++;
        if (got != want) {
            wrong++;
            System.out.println(sentence + call + " answered " + got + ", due is " + want);
        }
    }

    static void is(String call, boolean got, boolean want) {
        is(call, got ? 1 : 0, want ? 1 : 0);
    }

    /** Puts a text on the TAPE, which must be empty, and tells it. */
    static int tell(ToolUnion x, int k, String text) {
        feed(x, text);
        return x.text(k);
    }

    static void feed(ToolUnion x, String text) {
        byte[] bytes = text.getBytes(StandardCharsets.ISO_8859_1);
        int[] five = new int[5];
        for (int i = 0; i < bytes.length; i += 20) {
            for (int j = 0; j < 20; j++) {
                int sign = i + j < bytes.length ? bytes[i + j] & 255 : 32;
                five[j / 4] = five[j / 4] << 8 | sign;
            }
            x.feed(five[0], five[1], five[2], five[3], five[4]);
        }
        x.end(bytes.length);
    }

    /** A text that must have this fault at this place. */
    static void fault(ToolUnion x, int k, String text, int fault, int place) {
        is("text(" + k + ") of '" + text + "'", tell(x, k, text), -1);
        is("fault(0) of '" + text + "'", x.fault(0), fault);
        is("fault(1) of '" + text + "'", x.fault(1), place);
    }

    static void finish(String name) {
        System.out.println(name + ": " + asked + " answers, " + wrong + " not as due");
        if (wrong != 0) {
            System.exit(1);
        }
    }
}
