import java.util.ArrayList;
import java.util.List;

/** Every small graph there is, asked everything that does not change it. */
final class SmallGraphsTest {
    private static void rowsOfArcs(int blocks, int most, String told, List<String> all) {
        all.add(told);
        for (int to = 0; to < blocks && told.length() < most; to++) {
            rowsOfArcs(blocks, most, told + to, all);
        }
    }

    private static void ask(String text) {
        Both x = Check.of(text);
        int blocks = x.about(0);
        for (int what = 1; what <= 7; what++) {
            x.about(what);
        }
        for (int what = 0; what <= 2; what++) {
            x.would(what);
        }
        for (int b = 0; b < blocks; b++) {
            for (int what = 1; what <= 5; what++) {
                x.block(b, what);
            }
            for (int what = 0; what <= 3; what++) {
                x.sets(b, what);
            }
            for (int i = 0; i < 3; i++) {
                x.arc(b, i);
                x.share(b, i, true);
                x.share(b, i, false);
            }
            x.torn(b, 3, true);
            x.torn(b, 3, false);
        }
        x.mend();
        Check.picture(x);
        x.undo();
        Check.picture(x);
    }

    private static void all(int blocks, int most) {
        List<String> rows = new ArrayList<>();
        rowsOfArcs(blocks, most, "", rows);
        int graphs = (int) Math.pow(rows.size(), blocks);
        for (int number = 0; number < graphs; number++) {
            StringBuilder text = new StringBuilder("G").append(blocks);
            int left = number;
            for (int b = 0; b < blocks; b++) {
                text.append((char) ('a' + b)).append(rows.get(left % rows.size()));
                left /= rows.size();
            }
            ask(text.toString());
        }
    }

    public static void main(String[] args) {
        all(1, 3);
        all(2, 3);
        all(3, 2);
        all(4, 1);
        Check.end();
    }
}
