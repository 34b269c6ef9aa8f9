/** Asks one object for all that can be seen of it, as a text; two that are alike give the same text. */
final class Probe {
    /** Unlike by all sorts of rows, once an element has been cut to its sort. */
    private static final long UNLIKE_BY_SORT = 0x100010082L;
    private static final int MOST_CHANGES = 40;

    private final Stylite x;
    private final StringBuilder all = new StringBuilder();

    private Probe(Stylite x) {
        this.x = x;
    }

    /** What is seen now, without changing it. */
    static String seen(Stylite x) {
        Probe probe = new Probe(x);
        probe.seeNumbers();
        probe.seeLed();
        probe.seeActs();
        probe.seeShelves();
        return probe.all.toString();
    }

    /** What is seen now, and what comes out by and by: all changes, the image, the tape. The object is used up by it. */
    static String answers(Stylite x) {
        Probe probe = new Probe(x);
        probe.seeNumbers();
        probe.seeLed();
        probe.seeActs();
        probe.seeShelves();
        probe.seeSorts();
        probe.seeChanges();
        probe.seeImage();
        probe.seeTape();
        return probe.all.toString();
    }

    private void see(String words) {
        all.append('\n').append(words).append(':');
    }

    private long see(long answer) {
        all.append(' ').append(answer);
        return answer;
    }

    private void seeNumbers() {
        see("numbers");
        for (int what = 0; what <= 6; what++) {
            see(x.of(0, what));
        }
        int stalls = x.count(0);
        for (int s = 0; s < stalls; s++) {
            see("stall");
            see(x.of(s, 7));
            see(x.of(s, 8));
            see(x.of(s, 9));
            see(x.of(s, 11));
        }
        see("schools");
        int schools = x.count(1);
        for (int s = 0; s < schools; s++) {
            see(x.of(s, 10));
        }
    }

    private void seeLed() {
        see("led");
        for (int what = 0; what <= 4; what++) {
            see(x.led(what));
        }
        see("counts");
        for (int what = 0; what <= 5; what++) {
            see(x.count(what));
        }
        see("things");
        for (int remark = 0; remark <= 9; remark += 3) {
            see(x.thing(remark));
        }
    }

    private void seeActs() {
        see("trace");
        for (int i = 0; i < 24 && see(x.trace(i)) >= 0; i++) {
            continue;
        }
    }

    private void seeShelves() {
        for (int shelf = 0; shelf <= 5; shelf++) {
            see("shelf");
            see(x.taken(shelf, 0));
            for (int i = 0; i <= 60 && see(x.element(shelf, i)) != Long.MIN_VALUE; i++) {
                continue;
            }
        }
    }

    private void seeSorts() {
        see("sorts");
        for (int shelf = 0; shelf <= 5; shelf++) {
            see(x.put(shelf, 0, UNLIKE_BY_SORT));
            see(x.element(shelf, 0));
        }
    }

    private void seeChanges() {
        see("again");
        for (int i = 0; i <= MOST_CHANGES && see(x.redo()) >= 0; i++) {
            continue;
        }
        seeNumbers();
        see("undone");
        for (int i = 0; i <= MOST_CHANGES && see(x.undo()) >= 0; i++) {
            continue;
        }
        seeNumbers();
    }

    private void seeImage() {
        see("image");
        see(x.back());
        for (int what = 0; what <= 3; what++) {
            see(x.of(0, what));
        }
        seeLed();
    }

    private void seeTape() {
        see("tape");
        see(x.law());
        for (int remark = 0; remark <= 9; remark += 3) {
            see(x.thing(remark));
        }
        see("an hour");
        see(x.hour(1));
        seeNumbers();
    }
}
