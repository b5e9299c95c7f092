/** Counts and prints the answers that are not as due. */
final class Check {
    private static int wrong = 0;
    private static int made = 0;

    private Check() {
    }

    static void due(String call, long got, long want) {
        made++;
        if (got != want) {
            wrong++;
            if (wrong <= 50) {
                System.out.println(call + " answered " + got + ", due is " + want);
            }
        }
    }

    static void write(NestFinder x, String text) {
        for (int i = 0; i < text.length(); i++) {
            x.write(text.charAt(i));
        }
    }

    static NestFinder of(String text) {
        NestFinder x = new NestFinder();
        write(x, text);
        due("graph() of " + text, x.graph(), text.charAt(1) - '0');
        return x;
    }

    /** All that the calls without a change tell of the graph, so that two states can be compared. */
    static String picture(NestFinder x) {
        StringBuilder all = new StringBuilder();
        for (int b = 0; b < x.about(0); b++) {
            all.append((char) x.block(b, 0));
            for (int i = 0; i < x.block(b, 1); i++) {
                all.append(x.arc(b, i)).append(i + 1 < x.block(b, 1) ? "," : "");
            }
            all.append(' ');
        }
        return all.toString().trim();
    }

    static void same(String what, String got, String want) {
        made++;
        if (!got.equals(want)) {
            wrong++;
            System.out.println(what + ": is " + got + ", due is " + want);
        }
    }

    static void end() {
        System.out.println(made + " answers, " + wrong + " not as due");
        if (wrong != 0) {
            System.exit(1);
        }
    }
}
