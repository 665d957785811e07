/** Promises 1 to 3: a new object, feed, back. */
public final class TapeTest {
    public static void main(String[] args) {
        Due due = new Due();
        newObject(due);
        feed(due);
        back(due);
        due.end();
    }

    private static void newObject(Due due) {
        AbsentLords x = new AbsentLords();
        for (int what = 0; what <= 16; what++) {
            due.is("new: count(" + what + ")", x.count(what), 0);
        }
        due.is("new: count(-1)", x.count(-1), AbsentLords.NONE);
        due.is("new: count(17)", x.count(17), AbsentLords.NONE);
        due.is("new: place", x.place(), AbsentLords.NONE);
        due.is("new: house", x.house(0, 0), AbsentLords.NONE);
        due.is("new: person", x.person(0, 0), AbsentLords.NONE);
        due.is("new: undo", x.undo(), false);
        due.is("new: restore", x.restore(0), false);
    }

    private static void feed(Due due) {
        AbsentLords x = new AbsentLords();
        for (int i = 1; i <= 100; i++) {
            due.is("feed " + i, x.feed(0x20202020, 0x20202020, 0x20202020, 0x20202020, 0x20202020), 20 * i);
        }
        due.is("feed beyond 2000", x.feed(0, 0, 0, 0, 0), AbsentLords.NONE);
        due.is("bytes then", x.count(8), 2000);
        due.is("back 19", x.back(19), 1981);
        due.is("feed to 2001", x.feed(0, 0, 0, 0, 0), AbsentLords.NONE);
        due.is("back 1", x.back(1), 1980);
        due.is("feed to 2000", x.feed(0x20202020, 0x20202020, 0x20202020, 0x20202020, 0x20202020), 2000);
        due.is("what was refused did not come", x.read(), 0);
        due.is("the tape is empty", x.count(8), 0);
        due.is("feed again", x.feed(-1, 0, 0, 0, 0), 20);
        order(due);
    }

    /** Each byte of a word comes at its place: the place of the first wrong one tells it. */
    private static void order(Due due) {
        int[] words = new int[5];
        for (int at = 0; at < 20; at++) {
            for (int i = 0; i < 5; i++) {
                words[i] = 0x20202020;
            }
            words[at / 4] = 0x20202020 | 0xff << 24 - 8 * (at % 4);
            AbsentLords x = new AbsentLords();
            x.feed(words[0], words[1], words[2], words[3], words[4]);
            due.is("read, wrong byte " + at, x.read(), 1);
            due.is("place of byte " + at, x.place(), at);
        }
    }

    private static void back(Due due) {
        AbsentLords x = new AbsentLords();
        due.is("back(0) of nothing", x.back(0), 0);
        due.is("back(1) of nothing", x.back(1), AbsentLords.NONE);
        Due.feed(x, Due.bytes("house a 1;house b 2;"));
        due.is("back(-1)", x.back(-1), AbsentLords.NONE);
        due.is("back(least)", x.back(Integer.MIN_VALUE), AbsentLords.NONE);
        due.is("back(21)", x.back(21), AbsentLords.NONE);
        due.is("back(most)", x.back(Integer.MAX_VALUE), AbsentLords.NONE);
        due.is("back(0)", x.back(0), 20);
        due.is("back(10)", x.back(10), 10);
        due.is("count(8)", x.count(8), 10);
        due.is("read", x.read(), 0);
        due.is("the first ones stay", x.count(0), 1);
        Due.feed(x, Due.bytes("house a 1;house b 2;"));
        due.is("back(20)", x.back(20), 0);
        due.is("read of nothing", x.read(), 0);
        due.is("no HOUSES", x.count(0), 0);
    }
}
