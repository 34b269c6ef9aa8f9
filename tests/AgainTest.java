import java.util.LinkedHashMap;
import java.util.Map;

/** Whatever was asked ahead, and by whatever law and rows: what is asked now is answered as by one that was never asked. */
public final class AgainTest {
    private static final Due due = new Due("AgainTest");
    private static final Map<String, Due.Call> ASKED = new LinkedHashMap<>();

    public static void main(String[] args) {
        askHours();
        askPlans();
        askVillage();
        askSchools();
        Map<String, Long> first = answers(AgainTest::first);
        Map<String, Long> second = answers(x -> {
            first(x);
            second(x);
        });
        for (String ahead : ASKED.keySet()) {
            due.test(0, "IN THOUGHT: behind " + ahead);
            for (String now : ASKED.keySet()) {
                Stylite x = Due.made();
                first(x);
                ASKED.get(ahead).of(x);
                due.is(now, ASKED.get(now).of(x), first.get(now));
                second(x);
                due.is(now + ", by another law and other rows", ASKED.get(now).of(x), second.get(now));
            }
        }
        due.end();
    }

    private static Map<String, Long> answers(Due.Laying laying) {
        Map<String, Long> all = new LinkedHashMap<>();
        for (Map.Entry<String, Due.Call> one : ASKED.entrySet()) {
            Stylite x = Due.made();
            laying.on(x);
            all.put(one.getKey(), one.getValue().of(x));
        }
        return all;
    }

    /** Shelf 0 has REMARKS, 1 a PHRASE that he may recite, 2 an order of stalls, 3 VERDICTS. */
    private static void first(Stylite x) {
        Due.rule(x, "m*3+r+l;7");
        x.mend(0, 0, 5);
        x.mend(0, 2, 9);
        x.mend(0, 6, 1);
        for (int i = 0; i < 4; i++) {
            x.stall(i * 4369 + 7, 10 + i);
        }
        x.mend(0, 5, 2);
        x.school(21845);
        x.school(255);
        x.school(65280);
        Due.bytes(x, 0, 3, 9, 0, 1, 4, 4, 7, 2, 8, 5, 6, 1);
        Due.bytes(x, 1, 8, 5, 14, 11);
        Due.bytes(x, 2, 3, 1, 0, 2);
        Due.bytes(x, 3, 8, 2, 3, 16, 4, 4, 4, 16, 15, 14, 12, 16, 1, 17, 1, 8, 16);
    }

    private static void second(Stylite x) {
        Due.rule(x, "h+r*2+(l>7)");
        x.mend(0, 0, 2);
        x.mend(0, 1, 6);
        x.mend(0, 2, 3);
        x.mend(0, 3, 19);
        x.mend(0, 6, 9);
        x.mend(2, 8, 50);
        x.mend(1, 10, 7);
        Due.bytes(x, 0, 1);
        Due.bytes(x, 1, 5, 6);
        Due.bytes(x, 2, 2);
        Due.bytes(x, 3, 4, 4, 3, 16, 3, 17);
    }

    private static void askHours() {
        for (int n : new int[] {0, 3, 200}) {
            for (int what = 0; what <= 6; what++) {
                int its = what;
                ASKED.put("hours(0, " + n + ", " + what + ")", x -> x.hours(0, n, its));
            }
            ASKED.put("often(0, " + n + ", 9, 0)", x -> x.often(0, n, 9, 0));
        }
        ASKED.put("often(0, 0, 12, 1)", x -> x.often(0, 0, 12, 1));
        ASKED.put("round(0)", x -> x.round(0));
        ASKED.put("round(1)", x -> x.round(1));
        ASKED.put("thing(3)", x -> x.thing(3));
        ASKED.put("drawn lumps", x -> x.drawn(77, 512, 605, 0));
        ASKED.put("drawn things", x -> x.drawn(77, 512, 605, 1));
    }

    private static void askPlans() {
        for (int k = -1; k <= 2; k++) {
            int its = k;
            ASKED.put("make, hour " + k, x -> x.make(13 * 1024 + 6, its));
            ASKED.put("most of 12, hour " + k, x -> x.most(4370, 12 * 1024 + 774, its));
            ASKED.put("quiet of 5, hour " + k, x -> x.quiet(5 * 1024 + 3, its));
        }
        ASKED.put("quiet without any", x -> x.quiet(12 * 1024, -1));
        ASKED.put("make not", x -> x.make(14 * 1024, -1));
        for (int k = -2; k <= 2; k++) {
            int its = k;
            ASKED.put("recite, hour " + k, x -> x.recite(1, its));
        }
        ASKED.put("recite what he does not say", x -> x.recite(3, -1));
        ASKED.put("ways", x -> x.waysTo(1));
        ASKED.put("tells most", x -> x.tellsMost(12, 0));
        ASKED.put("tells in how many", x -> x.tellsMost(12, 1));
        ASKED.put("tells in how many of 3", x -> x.tellsMost(3, 1));
    }

    private static void askVillage() {
        for (int stall = -1; stall <= 1; stall++) {
            int its = stall;
            ASKED.put("sold by " + stall, x -> x.sold(0, 40, its));
        }
        ASKED.put("sold in 2", x -> x.sold(0, 2, -1));
        ASKED.put("places", x -> x.places(2, 30));
        ASKED.put("places in 2", x -> x.places(2, 2));
        for (int k = -1; k <= 3; k++) {
            int its = k;
            ASKED.put("best, stall " + k, x -> x.best(9, its));
        }
        ASKED.put("best of none", x -> x.best(0, 0));
        for (int stall = 0; stall <= 2; stall++) {
            int its = stall;
            ASKED.put("when of " + stall, x -> x.when(its, 7, 0));
            ASKED.put("when of " + stall + ", how often", x -> x.when(its, 7, 1));
        }
    }

    private static void askSchools() {
        for (int school = 0; school <= 2; school++) {
            int its = school;
            ASKED.put("verdict of " + school, x -> x.verdict(1, its));
            ASKED.put("verdict of " + school + " on another", x -> x.verdict(0, its));
            ASKED.put("clash with " + school, x -> x.clash(1, its));
            ASKED.put("judge of " + school, x -> x.judge(3, its));
        }
        ASKED.put("read", x -> x.read(3, 0));
        ASKED.put("read, which", x -> x.read(3, 1));
    }
}
