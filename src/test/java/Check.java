/** Counts and prints the answers that are not as due. */
final class Check {
    private static final int MOST_TOLD_BLOCKS = 8;
    private static int wrong = 0;
    private static int made = 0;

    private Check() {
    }

    static void due(String call, long got, long want) {
        made++;
        if (got != want) {
            wrong++;
            if (wrong <= 50) {
                System.out.println(call + " answered " + got + ", due is " + want);
            }
        }
    }

    static void same(String what, String got, String want) {
        made++;
        if (!got.equals(want)) {
            wrong++;
            if (wrong <= 50) {
                System.out.println(what + ": is " + got + ", due is " + want);
            }
        }
    }

    static void write(Both x, String text) {
        for (int i = 0; i < text.length(); i++) {
            x.write(text.charAt(i));
        }
    }

    static Both of(String text) {
        Both x = new Both();
        write(x, text);
        due("graph() of " + text, x.graph(), text.charAt(1) - '0');
        return x;
    }

    /**
     * A graph told as a picture is, of up to 12 blocks. Those that no text can tell are split off, so
     * their act must be that of one of the first eight. There are no doings then, but slot 1 is filled.
     */
    static Both pictured(String picture) {
        String[] told = picture.split(" ");
        StringBuilder text = new StringBuilder("G").append(Math.min(told.length, MOST_TOLD_BLOCKS));
        for (int b = 0; b < told.length && b < MOST_TOLD_BLOCKS; b++) {
            text.append(told[b].charAt(0));
        }
        Both x = of(text.toString());
        for (int b = MOST_TOLD_BLOCKS; b < told.length; b++) {
            splitOff(x, text.indexOf(told[b].substring(0, 1), 2) - 2);
        }
        for (int b = 0; b < told.length; b++) {
            for (String to : told[b].substring(1).split(",")) {
                if (!to.isEmpty()) {
                    x.add(b, Integer.parseInt(to));
                }
            }
        }
        x.keep(1);
        x.again(1);
        same("pictured", picture(x), picture);
        return x;
    }

    private static void splitOff(Both x, int like) {
        x.add(0, like);
        int made = x.split(0, like);
        x.cut(0, 0);
        if (like == 0) {
            x.cut(made, 0);
        }
    }

    /** All blocks with their acts and arcs, so that two graphs can be compared. */
    static String picture(Both x) {
        StringBuilder all = new StringBuilder();
        int blocks = x.about(0);
        for (int b = 0; b < blocks; b++) {
            all.append(b > 0 ? " " : "").append((char) x.block(b, 0));
            int arcs = x.block(b, 1);
            for (int i = 0; i < arcs; i++) {
                all.append(i > 0 ? "," : "").append(x.arc(b, i));
            }
        }
        return all.toString();
    }

    static void end() {
        System.out.println(made + " answers, " + wrong + " not as due");
        if (wrong != 0) {
            System.exit(1);
        }
    }
}
