/** Promises 4 and 5: read and place. */
public final class FaultTest extends Faults {
    public static void main(String[] args) {
        FaultTest test = new FaultTest();
        test.right();
        test.tokens();
        test.syntax();
        test.syntaxOfLaws();
        test.roomOfSorts();
        test.roomOfTokens();
        test.roomOfLaws();
        test.twice();
        test.names();
        test.wrong();
        test.firstByPlace();
        test.whatChanges();
        test.oneBehindTheOther();
        test.due.end();
    }

    private void right() {
        none("");
        none(" \t\r\n");
        none("house a 1;");
        none("\thouse\na\r1 ; ");
        none("house a1;person b2;right b a;away b3;goes=1;comes=2;dies=3;rents=4;seed5;");
        none("seed 1; seed 9999; seed 0000;");
        none("goes = if 1 < 2 then 3 else if rent + 1 < age * 2 then (gone) else got / (year - rights) * lord - which + home;");
    }

    private void tokens() {
        for (String word : WORDS) {
            at("house ^" + word + " 1;", SYNTAX);
            none("house " + word + "x 1;");
        }
        none("house abcdefgh 1;");
        at("house ^abcdefghi 1;", SYNTAX);
        at("house ^abcdefghijklmnopqrstuvwxyz 1;", SYNTAX);
        none("house z 0;");
        none("house a 0099;");
        at("house a ^00099;", SYNTAX);
        at("house a ^10000;", SYNTAX);
        at("goes = ^12345;", SYNTAX);
        none("goes = 9999;");
        at("^House a 1;", SYNTAX);
        at("house a^A 1;", SYNTAX);
        at("house a^_ 1;", SYNTAX);
        at("^.", SYNTAX);
        at("house a 1;^>", SYNTAX);
        for (int sign = 0; sign < 256; sign++) {
            boolean blank = sign == 9 || sign == 10 || sign == 13 || sign == 32;
            fault("house a 1;" + (char) sign, blank ? 0 : SYNTAX, blank ? AbsentLords.NONE : 10);
        }
    }

    private void syntax() {
        at("house^", SYNTAX);
        at("house  ^", SYNTAX);
        at("house a^", SYNTAX);
        at("house a 1^", SYNTAX);
        at("house a 1 \n^", SYNTAX);
        at("^;", SYNTAX);
        at("^a;", SYNTAX);
        at("^1;", SYNTAX);
        at("^housea 1;", SYNTAX);
        at("house ^1 a;", SYNTAX);
        at("house a ^b;", SYNTAX);
        at("house a ^-1;", SYNTAX);
        at("house a 1 ^1;", SYNTAX);
        at("house a 1 ^house b 1;", SYNTAX);
        at("person a ^;", SYNTAX);
        at("right a^;", SYNTAX);
        at("right a ^1;", SYNTAX);
        at("right a b ^c;", SYNTAX);
        at("away a ^b;", SYNTAX);
        at("away ^7 a;", SYNTAX);
        at("seed ^a;", SYNTAX);
        at("seed 1^", SYNTAX);
        at("seed ^;", SYNTAX);
        for (String word : new String[] {"if", "then", "else", "rent", "age", "home", "which"}) {
            at("^" + word + " 1;", SYNTAX);
        }
    }

    private void syntaxOfLaws() {
        at("goes ^1;", SYNTAX);
        at("goes = ^;", SYNTAX);
        at("goes =^", SYNTAX);
        at("goes = 1 + ^;", SYNTAX);
        at("goes = 1 + ^* 2;", SYNTAX);
        at("goes = ^-1;", SYNTAX);
        at("goes = 1 ^< 2;", SYNTAX);
        at("goes = 1 ^= 2;", SYNTAX);
        at("goes = 1 ^2;", SYNTAX);
        at("goes = 1 ^rent;", SYNTAX);
        at("goes = ^a;", SYNTAX);
        at("goes = (1^;", SYNTAX);
        at("goes = 1^);", SYNTAX);
        at("goes = (^);", SYNTAX);
        at("goes = ((1)^;", SYNTAX);
        at("goes = (^if 1 < 2 then 3 else 4);", SYNTAX);
        at("goes = if (1 ^< 2) then 3 else 4;", SYNTAX);
        at("goes = if 1 ^then 2 else 3;", SYNTAX);
        at("goes = if 1 < 2 ^else 3;", SYNTAX);
        at("goes = if 1 < 2 ^< 3 then 4 else 5;", SYNTAX);
        at("goes = if 1 < 2 then 3^;", SYNTAX);
        at("goes = if 1 < 2 then 3 else ^;", SYNTAX);
        at("goes = if 1 < 2 then ^if 1 < 2 then 3 else 4 else 5;", SYNTAX);
        at("goes = 1 ^if 1 < 2 then 3 else 4;", SYNTAX);
        at("goes = if ^;", SYNTAX);
        at("goes = if 1 < 2 then 3 else 4 ^else 5;", SYNTAX);
    }

    private void roomOfSorts() {
        none(many(5, "house h# 1;"));
        at(many(5, "house h# 1;") + "^house x 1;", ROOM);
        at(many(5, "house h# 1;") + " ^house", ROOM);
        at(many(5, "house h# 1;") + "^house ha 100 100;", ROOM);
        none(many(7, "person p# 1;"));
        at(many(7, "person p# 1;") + "^person x 1;", ROOM);
        String county = many(5, "house h# 1;") + many(7, "person p# 1;");
        String rights = many(7, "right p# ha;") + many(7, "right p# hb;") + many(6, "right p# hc;");
        none(county + rights);
        at(county + rights + "^right pg hc;", ROOM);
        at(county + rights + "^right pa ha;", ROOM);
        none("person p 1;" + many(7, "away p 1;"));
        at("person p 1;" + many(7, "away p 1;") + "^away p 1;", ROOM);
        none(many(25, "seed 1;") + many(25, "goes = 1;"));
        // Sorts are counted each for itself.
        none(many(5, "house h# 1;") + many(7, "person p# 1;") + many(7, "away p# 1;") + rights);
    }

    private void roomOfTokens() {
        String full = many(100, "goes=1;");
        none(full);
        none(full + "  \n");
        at(full + " ^seed 1;", ROOM);
        at(full + "^house", ROOM);
        at(full + "^;", SYNTAX);
        at(full + "^abcdefghi", SYNTAX);
        at(full + "^.", SYNTAX);
        at(many(99, "goes=1;") + "goes=1+^1;", ROOM);
        at(many(99, "goes=1;") + "goes=1+^+1;", SYNTAX);
        at(many(99, "goes=1;") + "house x 1 ^1;", SYNTAX);
        at(many(99, "goes=1;") + "house x 100;^house x 1;", ROOM);
        none("goes=" + many(198, "1+") + "1;");
        at("goes=" + many(198, "1+") + "1+^1;", ROOM);
        none("goes=1" + many(65, "*(1+1)") + ";seed 7;");
    }

    private void roomOfLaws() {
        String clause = "if 1 < 2 then 3 else ";
        none("goes = " + many(4, clause) + "5;");
        at("goes = " + many(4, clause) + "^if 1 < 2 then 3 else 5;", ROOM);
        at("goes = " + many(4, clause) + "^if", ROOM);
        none("goes = " + many(4, clause) + "5; comes = " + many(4, clause) + "5; goes = " + many(4, clause) + "5;");
        none("goes = ((((((1))))));");
        at("goes = ((((((^(1)))))));", ROOM);
        at("goes = 1 + (2 * (3 - (4 / (5 + (6 + (7)))))) + ((((((^(", ROOM);
        none("goes = (1) + (2) + (3) + (4) + (5) + (6) + (7) + ((((((8))))));");
        none("goes = if ((((((1)))))) < ((((((2)))))) then ((((((3)))))) else ((((((4))))));");
        at("goes = if 1 < ((((((^((2)))))))) then 1 else 2;", ROOM);
    }

    private void twice() {
        at("house a 1; house ^a 1;", TWICE);
        at("person a 1; person ^a 1;", TWICE);
        at("house a 1; person ^a 1;", TWICE);
        at("person a 1; house ^a 1;", TWICE);
        none("house a 1; house ab 1; house b 1;");
        String county = "house h 1; house k 1; person a 1; person b 1; right a h;";
        at(county + "right a ^h;", TWICE);
        none(county + "right a k; right b h; right b k;");
        none("person a 1; away a 1; away a 2;");
    }

    private void names() {
        at("house h 1; right ^a h;", NAME);
        at("house h 1; right ^h h;", NAME);
        at("house h 1; right ^a h; person a 1;", NAME);
        at("person a 1; right a ^h;", NAME);
        at("person a 1; right a ^a;", NAME);
        at("person a 1; right a ^h; house h 1;", NAME);
        at("right ^a h;", NAME);
        at("away ^a 1;", NAME);
        at("house a 1; away ^a 1;", NAME);
        at("away ^a 100;", NAME);
        none("person a 1; house h 1; right a h; away a 1;");
    }

    private void wrong() {
        none("house a 99; person b 99; away b 99;");
        none("house a 0; person b 0; away b 0;");
        at("house a ^100;", WRONG);
        at("house a ^0100;", WRONG);
        at("person a ^100;", WRONG);
        at("person a 1; away a ^100;", WRONG);
        at("house a ^9999;", WRONG);
        none("seed 9999; goes = 9999;");
    }

    private void firstByPlace() {
        at("house a ^100; house a 1;", WRONG);
        at("house a 1; house ^a 100;", TWICE);
        at("right ^a b; house a 100;", NAME);
        at("house a 100; house a 1; right b c^", SYNTAX);
        at("house a 100;" + many(4, "house h# 1;") + "^house a 1;", ROOM);
        at("house a 1; person b 1; right b a; right b ^a; right c a;", TWICE);
        at("house a 1; right ^b c;", NAME);
        at(many(5, "house h# 1;") + "^house x 1; .", ROOM);
        at("^. " + many(6, "house h# 1;"), SYNTAX);
    }

    /** What a text does not tell is not that of one ahead, nor of one ahead of that. */
    private void oneBehindTheOther() {
        AbsentLords x = new AbsentLords();
        String full = "house h 9; house k 8; person a 1; person b 2; person c 3; person d 4; person e 5; right a h;"
                + "right b h; right c h; right d h; right e h; right a k; right b k; right c k; right d k; right e k;"
                + many(6, "away a 7;") + "goes = 1 + 2; comes = 4; dies = 5; rents = 6; seed 77;";
        String bare = "house h 9; house k 8; person a 1; person b 2; goes = 100;";
        for (int i = 0; i < 4; i++) {
            due.is("full", Due.read(x, full), 0);
            due.is("full: RENTS", x.house(0, 3), 6);
            due.is("full: GOES", x.person(0, 6), 3);
            x.send(1);
            x.years(1);
            if (i % 2 == 1) {
                due.is("a wrong one between", Due.read(x, full + "right a h;"), TWICE);
            }
            due.is("bare", Due.read(x, bare), 0);
            due.is("bare: all HOME", x.count(3), 3);
            due.is("bare: nobody AWAY", x.count(4), 0);
            due.is("bare: gone", x.count(14), 0);
            due.is("bare: got", x.count(7), 0);
            due.is("bare: RIGHTS", x.count(12), 0);
            due.is("bare: GOES", x.person(0, 6), 100);
            due.is("bare: COMES", x.person(0, 7), 0);
            due.is("bare: DIES", x.person(0, 8), 0);
            x.give(0, 0, true);
            x.send(0);
            due.is("bare: RENTS", x.house(0, 3), 9);
        }
        // By SEED 0 the first one's lot to go is 18, by SEED 77 it is 39.
        Due.read(x, full);
        Due.read(x, full);
        Due.read(x, "person a 1; goes = 30;");
        x.years(1);
        due.is("SEED 0 again", x.count(4), 1);
    }

    private void whatChanges() {
        AbsentLords x = Due.county("house h 5; person a 10; person b 20; right a h; away a 3; seed 4; rents = rent + 1;");
        x.tell(0, 1);
        x.hold(1);
        x.years(2);
        x.send(1);
        due.is("a FAULT", Due.read(x, "house k 7; person c 100;"), WRONG);
        due.is("its place", x.place(), 20);
        due.is("HOUSES as ahead", x.count(0), 1);
        due.is("RENT as ahead", x.house(0, 0), 5);
        due.is("LAWS as ahead", x.house(0, 3), 6);
        due.is("PEOPLE as ahead", x.count(1), 2);
        due.is("year as ahead", x.count(2), 2);
        due.is("got as ahead", x.count(7), 12);
        due.is("undone as ahead", x.count(9), 2);
        due.is("TOLD as ahead", x.count(10), 1);
        due.is("SLOTS as ahead", x.count(11), 1);
        due.is("the tape is empty", x.count(8), 0);
        x.bury(0);
        due.is("no FAULT", Due.read(x, "house k 7; person c 9; person d 8;"), 0);
        due.is("no place", x.place(), AbsentLords.NONE);
        due.is("other RENT", x.house(0, 0), 7);
        due.is("no RIGHTS", x.count(12), 0);
        due.is("year 0", x.count(2), 0);
        due.is("all HOME", x.count(3), 3);
        due.is("nobody DEAD", x.count(5), 0);
        due.is("nothing got", x.count(7), 0);
        due.is("other AGE", x.person(0, 0), 9);
        due.is("nothing to undo", x.count(9), 0);
        due.is("undo", x.undo(), false);
        due.is("nothing TOLD", x.count(10), 0);
        due.is("SLOTS hold nothing", x.count(11), 0);
        due.is("restore", x.restore(1), false);
        due.is("a text of nothing", x.read(), 0);
        due.is("no HOUSES", x.count(0), 0);
        due.is("no PEOPLE", x.count(1), 0);
    }
}
