/** A full county in which much has gone on, to see whether a call changes any of it. */
final class Busy {
    static final String TEXT = "house h 5; house k 7; house l 0; house m 99; house n 50; person a 10; person b 20;"
            + "person c 30; person d 40; person e 0; person f 99; person g 15; right a h; right b h; right c k;"
            + "right d h; right e k; right g n; right g m; right f m; away b 3; away c 0;"
            + "goes = if year < 5 then 0 else 40; comes = if year < 5 then 0 else 30;"
            + "dies = if year < 8 then 0 else 5; rents = rent + gone; seed 123;";
    static final int HOME = 3;
    static final int AWAY = 0;
    static final int DEAD = 4;

    private Busy() {
    }

    /** Year 3; a, b, c AWAY for 1, 6, 3 years; d, f, g HOME; e DEAD; five things done; SLOTS 0 and 2; three letters. */
    static AbsentLords county() {
        AbsentLords x = withoutTape();
        Due.feed(x, Due.bytes("person z 5; house y"));
        return x;
    }

    static AbsentLords withoutTape() {
        AbsentLords x = Due.county(TEXT);
        x.hold(0);
        x.tell(0, 1);
        x.tell(2, 3);
        x.tell(1, 3);
        x.years(2);
        x.bury(DEAD);
        x.send(AWAY);
        x.give(3, 1, true);
        x.hold(2);
        x.years(1);
        return x;
    }
}
