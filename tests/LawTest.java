/** Every short tape of some letters: its fault is the one that the oracle finds by another way; and what the texts say. */
public final class LawTest {
    private static final String LETTERS = "m9(!-+<&|?;)";
    private static final int LONGEST = 5;

    private static int wrong;
    private static int tapes;
    private static Stylite x = new Stylite();
    private static Oracle o = new Oracle();

    public static void main(String[] args) {
        Watch.begin("LawTest");
        all("");
        nested();
        System.out.println("LawTest: " + tapes + " tapes, " + wrong + " not as due");
        if (wrong > 0) {
            System.exit(1);
        }
    }

    private static void all(String text) {
        check(text);
        for (int i = 0; i < LETTERS.length() && text.length() < LONGEST; i++) {
            all(text + LETTERS.charAt(i));
        }
    }

    /** All ways to open seven of ( ! - ahead of an operand, with something behind it. */
    private static void nested() {
        String[] behind = {"m", "m)", "m))))))", "m)))))))", "m+m", "m)+!m", "m)-(-(m", "m?m", ";m"};
        for (int ways = 0; ways < 2187; ways++) {
            StringBuilder text = new StringBuilder();
            for (int left = ways, i = 0; i < 7; i++, left /= 3) {
                text.append("(!-".charAt(left % 3));
                for (String end : behind) {
                    check(text + end);
                }
            }
        }
    }

    private static void check(String text) {
        tapes++;
        if (tapes % 20 == 0) {
            x = new Stylite();
            o = new Oracle();
        }
        for (int i = 0; i < text.length(); i++) {
            x.feed(text.charAt(i));
            o.feed(text.charAt(i));
        }
        int got = x.law();
        int due = o.law();
        if (got != due || x.thing(3) != o.thing(3)) {
            wrong++;
            if (wrong < 20) {
                System.out.println("law of " + text + " answered " + got + ", due is " + due + "; then thing(3) answered "
                    + x.thing(3) + ", due is " + o.thing(3));
            }
        }
    }
}
