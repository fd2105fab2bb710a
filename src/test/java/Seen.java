/** All that can be seen of an object but place(), as a text: two objects that it tells apart are not alike. */
final class Seen {
    /** One call, or a run of them. */
    interface Call {
        long of(WindJump x);
    }

    private final WindJump x;
    private final StringBuilder out = new StringBuilder();

    private Seen(WindJump x) {
        this.x = x;
    }

    /** Undoes, restores and reads: the object is of no use behind it. */
    static String of(WindJump x) {
        Seen seen = new Seen(x);
        seen.text();
        seen.told();
        seen.goingOn();
        seen.undone();
        seen.slots();
        seen.tape();
        return seen.out.toString();
    }

    private void add(String call, long answer) {
        out.append(call).append('=').append(answer).append(' ');
    }

    private void add(String call, boolean answer) {
        add(call, answer ? 1 : 0);
    }

    private void counts(int from, int to) {
        for (int what = from; what <= to; what++) {
            add("count" + what, x.count(what));
        }
    }

    private void text() {
        counts(0, 12);
        for (int section = 0; section < 5; section++) {
            add("wind" + section, x.wind(section, 7 * section));
        }
        for (int man = 0; man < x.count(0); man++) {
            add("attempt", x.attempt(man, 3, 2, 0));
            add("style", x.attempt(man, 3, 2, 2));
            add("reversed", x.reversed(man));
        }
    }

    private void told() {
        for (int man = 0; man < x.count(0); man++) {
            for (int k = 1; k <= Math.min(x.count(10), 3); k++) {
                add("slips", x.slips(man, k, WindJump.NONE));
            }
        }
    }

    private void goingOn() {
        for (int what = 0; what <= 6; what++) {
            add("now" + what, x.now(what));
        }
        for (int man = 0; man < x.count(0); man++) {
            add("points", x.points(man));
            add("needs", x.needs(man));
            for (int round = 1; round <= 2; round++) {
                for (int what = 0; what <= 7; what++) {
                    add("jump" + what, x.jump(man, round, what));
                }
                add("mark", x.mark(man, round, 0));
            }
        }
    }

    private void undone() {
        while (x.undo()) {
            for (int what = 0; what <= 4; what++) {
                add("undone" + what, x.now(what));
            }
            counts(9, 9);
        }
    }

    private void slots() {
        for (int slot = 0; slot <= 2; slot++) {
            boolean goes = x.restore(slot);
            add("restore" + slot, goes);
            if (goes) {
                goingOn();
            }
        }
    }

    /** What stands on the tape is told by how it reads with a semicolon behind it. */
    private void tape() {
        add("feed", x.feed(0x3b202020, 0x20202020, 0x20202020, 0x20202020, 0x20202020));
        add("read", x.read());
        add("place", x.place());
        counts(0, 6);
    }
}
