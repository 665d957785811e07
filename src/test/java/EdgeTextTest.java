/** Each sentence under "Terms" that names an edge of a text, its TOKENS, its sorts and its FAULTS. */
public final class EdgeTextTest extends Faults {
    private static final String BLANK = " ";

    public static void main(String[] args) {
        EdgeTextTest test = new EdgeTextTest();
        test.bytesOfText();
        test.longestTokens();
        test.blanks();
        test.letters();
        test.lettersOfNames();
        test.quotedWords();
        test.digits();
        test.signs();
        test.tokenLonger();
        test.houses();
        test.people();
        test.numberedAsTheyStand();
        test.rights();
        test.away();
        test.lastAway();
        test.lawsNotTold();
        test.lastLaws();
        test.seeds();
        test.places();
        test.whatGoesOn();
        test.leastOfOnePlace();
        test.tokensOfText();
        test.oneMoreOfASort();
        test.ifsOfLaw();
        test.parentheses();
        test.roomAndSyntaxAhead();
        test.namesToldAlready();
        test.rightsToldAlready();
        test.noSuchName();
        test.wrongNumbers();
        test.due.end();
    }

    private static String blanks(int many) {
        return BLANK.repeat(many);
    }

    private void bytesOfText() {
        due.about("A TEXT has 2,000 bytes at most.");
        none("");
        none(blanks(2000));
        none(blanks(1990) + "house a 1;");
        due.is("the last byte counts", Due.county(blanks(1990) + "house a 1;").count(0), 1);
        none("house a 1;" + blanks(1990));
        none(many(100, "goes      =    1   ;"));
        none(many(99, "goes      =    1   ;") + "goes      =     1  ;");
        at(blanks(1999) + "^.", SYNTAX);
        at(blanks(1999) + "^a", SYNTAX);
        at(blanks(1995) + "house^", SYNTAX);
        at(blanks(1992) + "house a1^", SYNTAX);
        at(blanks(1993) + "house a^", SYNTAX);
        at(blanks(1994) + "house ^", SYNTAX);
        at("^" + "a".repeat(2000), SYNTAX);
        at("^" + "1".repeat(2000), SYNTAX);
        at("house ^" + "a".repeat(1994), SYNTAX);
        at("seed ^" + "0".repeat(1994) + ";", SYNTAX);
    }

    private void longestTokens() {
        due.about("TOKENS, the longest that can be");
        at("^housea 1;", SYNTAX);
        at("house^1a 1;", SYNTAX);
        none("house a1;");
        none("house a1;person b1;");
        at("^personb 1;", SYNTAX);
        at("rents = ^rents;", SYNTAX);
        none("rents=rent;");
        none("goes=rights;");
        at("goes = ^right;", SYNTAX);
        at("^rights a b;", SYNTAX);
        none("goes=if 1<2then 3else 4;");
        at("goes=^ifage<2 then 3 else 4;", SYNTAX);
        at("goes=if 1<2^thena 3 else 4;", SYNTAX);
        none("goes=12/34;");
        at("goes=12 ^34;", SYNTAX);
        due.is("12, not 1 and 2", Due.county("house a12;").house(0, 0), 12);
        due.is("0012", Due.county("house a0012;").house(0, 0), 12);
    }

    private void blanks() {
        due.about("with blanks (9, 10, 13, 32) between or not");
        for (int sign = 0; sign < 256; sign++) {
            boolean letter = sign >= 'a' && sign <= 'z';
            boolean digit = sign >= '0' && sign <= '9';
            String between = "house a" + (char) sign + "1;";
            boolean goesOn = isBlank(sign) || letter || digit;
            fault(between, goesOn ? 0 : SYNTAX, goesOn ? AbsentLords.NONE : 7);
            fault("house" + (char) sign + "a 1;", isBlank(sign) ? 0 : SYNTAX,
                    isBlank(sign) ? AbsentLords.NONE : letter ? 0 : 5);
            fault((char) sign + "house a 1;", isBlank(sign) ? 0 : SYNTAX, isBlank(sign) ? AbsentLords.NONE : 0);
        }
        none("\t\n\r house\t\n\r a\t\n\r 1\t\n\r ;\t\n\r ");
        none("house a1;person b1;right b a;away b1;goes=1+(2-3)*4/5;seed1;");
    }

    private static boolean isBlank(int sign) {
        return sign == 9 || sign == 10 || sign == 13 || sign == 32;
    }

    private void letters() {
        due.about("NAMES (letters a .. z");
        for (int sign = 0; sign < 256; sign++) {
            boolean letter = sign >= 'a' && sign <= 'z';
            if (!isBlank(sign)) {
                fault("house " + (char) sign + " 1;", letter ? 0 : SYNTAX, letter ? AbsentLords.NONE : 6);
                int place = sign >= '0' && sign <= '9' ? 8 : 7;
                fault("house b" + (char) sign + "y 1;", letter ? 0 : SYNTAX, letter ? AbsentLords.NONE : place);
            }
        }
        at("house a^`b 1;", SYNTAX);
        at("house y^{z 1;", SYNTAX);
    }

    private void lettersOfNames() {
        due.about("8 at most");
        String name = "";
        for (int i = 1; i <= 8; i++) {
            name += (char) ('z' - i);
            none("house " + name + " 1;");
            none("house " + "z".repeat(i) + " 1;");
            none("person " + "a".repeat(i) + " 1;");
        }
        at("house ^" + name + "a 1;", SYNTAX);
        at("house ^zzzzzzzzz 1;", SYNTAX);
        at("person ^aaaaaaaaa 1;", SYNTAX);
        at("person abcdefgh 1; away ^abcdefghi 1;", SYNTAX);
        at("house a 1; person abcdefgh 1; right ^abcdefghi a;", SYNTAX);
        // All eight letters count.
        none("house abcdefgh 1; house abcdefgi 1; house bbcdefgh 1; house abcdffgh 1; person abcdefg 1; person bcdefgh 1;");
        none("house a 1; house aa 1; house aaa 1; house aaaa 1; person aaaaa 1; person aaaaaa 1; person aaaaaaa 1;");
        at("house abcdefgh 1; house ^abcdefgh 1;", TWICE);
        at("house zzzzzzzz 1; person zzzzzzzy 1; right ^zzzzzzzz zzzzzzzz;", NAME);
    }

    private void quotedWords() {
        due.about("none of the words in quotes");
        for (String word : WORDS) {
            at("house ^" + word + " 1;", SYNTAX);
            at("person ^" + word + " 1;", SYNTAX);
            at("person a 1; house b 1; right ^" + word + " b;", SYNTAX);
            at("person a 1; house b 1; right a ^" + word + ";", SYNTAX);
            at("away ^" + word + " 1;", SYNTAX);
            String shorter = word.substring(0, word.length() - 1);
            boolean isWord = java.util.Arrays.asList(WORDS).contains(shorter);
            fault("house " + shorter + " 1;", isWord ? SYNTAX : 0, isWord ? 6 : AbsentLords.NONE);
            none("house " + word + "z 1;");
            none("house z" + word + " 1;");
            none("house " + word.substring(1) + "q 1;");
        }
        none("house text 1; house tell 1; house law 1; person e 1; person part 1; person unit 1; person var 1;");
    }

    private void digits() {
        due.about("INTS (1 to 4 digits)");
        for (String number : new String[] {"0", "9", "00", "01", "99", "000", "099", "0000", "0099"}) {
            none("house a " + number + ";");
            due.is("RENT " + number, Due.county("house a " + number + ";").house(0, 0), Integer.parseInt(number));
            none("seed " + number + ";");
        }
        none("seed 9999; goes = 9999;");
        at("house a ^00000;", SYNTAX);
        at("person a ^00001;", SYNTAX);
        at("person a 1; away a ^00001;", SYNTAX);
        at("seed ^10000;", SYNTAX);
        at("seed ^00000;", SYNTAX);
        at("goes = ^10000;", SYNTAX);
        at("goes = 1 + ^00000;", SYNTAX);
        at("house a ^;", SYNTAX);
        for (int sign = 0; sign < 256; sign++) {
            boolean digit = sign >= '0' && sign <= '9';
            boolean goesOn = digit || isBlank(sign);
            int place = sign == ';' ? 10 : 9;
            fault("house a 1" + (char) sign + ";", goesOn ? 0 : SYNTAX, goesOn ? AbsentLords.NONE : place);
        }
        for (int digit = 0; digit <= 9; digit++) {
            due.is("digit " + digit, Due.county("house a " + digit + ";").house(0, 0), digit);
        }
    }

    private void signs() {
        due.about("SIGNS ; = + - * / < ( )");
        none("goes=if(1+2)*3<4-5/6 then 7 else 8;");
        for (int sign = 0; sign < 256; sign++) {
            boolean operator = "+-*/".indexOf(sign) >= 0;
            boolean digit = sign >= '0' && sign <= '9';
            boolean goesOn = operator || digit;
            int place = sign == ';' ? 8 : 7;
            if (!isBlank(sign)) {
                fault("goes= 1" + (char) sign + "1;", goesOn ? 0 : SYNTAX, goesOn ? AbsentLords.NONE : place);
            }
        }
        for (String two : new String[] {"==", "<=", "<<", "++", "--", "**", "//", ";;", "()"}) {
            AbsentLords x = new AbsentLords();
            due.is("no SIGN is " + two, Due.read(x, "goes = if 1 " + two + " 2 then 3 else 4;"), SYNTAX);
        }
    }

    private void tokenLonger() {
        due.about("A longer one, all else, is no TOKEN.");
        // Neither the first eight letters nor the first four digits of it are one.
        at("house ^abcdefghi 1;", SYNTAX);
        at("house ^abcdefgh" + "abcdefgh 1;", SYNTAX);
        at("house a ^12345;", SYNTAX);
        at("seed ^1234567890;", SYNTAX);
        at("^houseperson a 1;", SYNTAX);
        at("goes = ^rentrentr;", SYNTAX);
        at("^>", SYNTAX);
        at("^\u0080", SYNTAX);
        at("^\u00ff", SYNTAX);
        at("^\u0000", SYNTAX);
        at("^\u00a0house a 1;", SYNTAX);
    }

    private void houses() {
        due.about("HOUSES, 5 at most (a NAME, RENT 0 .. 99)");
        AbsentLords x = Due.county("house a 0; house b 1; house c 50; house d 98; house e 99;");
        int[] rents = {0, 1, 50, 98, 99};
        due.is("HOUSES", x.count(0), 5);
        for (int house = 0; house < 5; house++) {
            due.is("RENT of " + house, x.house(house, 0), rents[house]);
        }
        due.is("no 6th", x.house(5, 0), AbsentLords.NONE);
        at(many(5, "house h# 1;") + "^house x 1;", ROOM);
        at("house a ^100;", WRONG);
        at("house a ^101;", WRONG);
        at("house a ^9999;", WRONG);
        at("house a ^-1;", SYNTAX);
    }

    private void people() {
        due.about("PEOPLE, 7 at most (a NAME, AGE 0 .. 99)");
        AbsentLords x = Due.county("person a 0; person b 1; person c 9; person d 10; person e 50; person f 98; person g 99;");
        int[] ages = {0, 1, 9, 10, 50, 98, 99};
        due.is("PEOPLE", x.count(1), 7);
        for (int person = 0; person < 7; person++) {
            due.is("AGE of " + person, x.person(person, 0), ages[person]);
        }
        due.is("no 8th", x.person(7, 0), AbsentLords.NONE);
        at(many(7, "person p# 1;") + "^person x 1;", ROOM);
        at("person a ^100;", WRONG);
        at("person a ^9999;", WRONG);
        at("person a ^-1;", SYNTAX);
    }

    private void numberedAsTheyStand() {
        due.about("numbered each from 0 on as they stand");
        AbsentLords x = Due.county("person z 7; house m 70; person a 8; house b 80; person k 9; right a b; away k 5;");
        for (int i = 0; i < 3; i++) {
            due.is("AGE", x.person(i, 0), 7 + i);
        }
        due.is("RENT", x.house(0, 0), 70);
        due.is("RENT", x.house(1, 0), 80);
        due.is("RIGHT", x.house(1, 2), 2);
        due.is("AWAY", x.count(4), 4);
    }

    private void rights() {
        due.about("RIGHTS, 20 at most (of a PERSON, in a HOUSE)");
        String county = many(5, "house h# 1;") + many(7, "person p# 1;");
        String rights = many(7, "right p# ha;") + many(7, "right p# hb;") + many(5, "right p# hc;");
        due.is("19", Due.county(county + rights).count(12), 19);
        AbsentLords x = Due.county(county + rights + "right pg he;");
        due.is("20", x.count(12), 20);
        due.is("the last one", x.house(4, 2), 64);
        at(county + rights + "right pg he;^right pf he;", ROOM);
        at(county + rights + "right pg he;^right", ROOM);
        none(county);
        due.is("none", Due.county(county).count(12), 0);
    }

    private void away() {
        due.about("AWAY, 7 at most (a PERSON, for how many years, at first, 0 .. 99 ..); all others are HOME");
        AbsentLords x = Due.county(many(7, "person p# 1;") + "away pa 0; away pb 1; away pd 98; away pg 99;");
        int[] gone = {0, 1, 0, 98, 0, 0, 99};
        for (int person = 0; person < 7; person++) {
            due.is("gone of " + person, x.person(person, 2), gone[person]);
        }
        due.is("AWAY", x.count(4), 1 + 2 + 8 + 64);
        due.is("HOME", x.count(3), 4 + 16 + 32);
        due.is("all seven", Due.county(many(7, "person p# 1;") + many(7, "away p# 1;")).count(4), 127);
        due.is("none", Due.county(many(7, "person p# 1;")).count(3), 127);
        at("person a 1; away a ^100;", WRONG);
        at("person a 1; away a ^9999;", WRONG);
        at("person a 1; away a ^-1;", SYNTAX);
        at(many(7, "person p# 1;") + many(7, "away p# 1;") + "^away pa 1;", ROOM);
    }

    private void lastAway() {
        due.about("the last one for each");
        AbsentLords x = Due.county("person a 1; person b 1; away a 9; away b 8; away a 0; away b 7; away a 5; away a 4; away a 3;");
        due.is("a", x.person(0, 2), 3);
        due.is("b", x.person(1, 2), 7);
        due.is("down to 0", Due.county("person a 1; away a 99; away a 0;").person(0, 2), 0);
        due.is("and AWAY", Due.county("person a 1; away a 99; away a 0;").person(0, 1), 1);
        at("person a 1; away a ^100; away a 1;", WRONG);
    }

    private void lawsNotTold() {
        due.about("LAWS: GOES (0), COMES (0), DIES (0), RENTS (rent), if not told");
        AbsentLords x = Due.county("house h 99; house k 0; person a 50; right a h; right a k; away a 99;");
        due.is("RENTS of 99", x.house(0, 3), 99);
        due.is("RENTS of 0", x.house(1, 3), 0);
        for (int what = 6; what <= 8; what++) {
            due.is("chance " + what, x.person(0, what), 0);
        }
        // One told leaves the others.
        AbsentLords y = Due.county("house h 7; person a 50; right a h; away a 9; comes = 3;");
        due.is("GOES", y.person(0, 6), 0);
        due.is("COMES", y.person(0, 7), 3);
        due.is("DIES", y.person(0, 8), 0);
        due.is("RENTS", y.house(0, 3), 7);
    }

    private void lastLaws() {
        due.about("LAWS: .. the last one");
        String[] laws = {"goes", "comes", "dies", "rents"};
        for (int i = 0; i < 4; i++) {
            AbsentLords x = Due.county("house h 7; person a 50; right a h; away a 9;" + laws[i] + " = if 1 < 2 then 5 else 6;"
                    + laws[i] + " = 11;" + laws[i] + " = rent + 15;");
            int[] want = {0, 0, 0, 7};
            want[i] = 22;
            for (int what = 0; what < 3; what++) {
                due.is(laws[i] + ": " + laws[what], x.person(0, 6 + what), want[what]);
            }
            due.is(laws[i] + ": rents", x.house(0, 3), want[3]);
        }
        due.is("the hundredth", Due.county(many(99, "goes=1;") + "dies=9;").person(0, 8), AbsentLords.NONE);
        due.is("the 98th", Due.county("person a 1;" + many(97, "goes=1;") + "goes=9;").person(0, 6), 9);
    }

    private void seeds() {
        due.about("SEED 0 .. 9999 (0): the last one");
        String county = many(7, "person p# 1;") + "goes = 50; comes = 50;";
        Seen.alike(due, "not told is 0:", () -> Due.county(county), () -> Due.county(county + "seed 0;"));
        Seen.alike(due, "0000 is 0:", () -> Due.county(county + "seed 0000;"), () -> Due.county(county + "seed 0;"));
        Seen.alike(due, "the last one:", () -> Due.county(county + "seed 5; seed 0; seed 9999;"),
                () -> Due.county(county + "seed 9999;"));
        Seen.alike(due, "the last one, 0:", () -> Due.county(county + "seed 9999; seed 0;"), () -> Due.county(county));
        due.is("0 and 9999 differ",
                Seen.now(Due.county(county)).equals(Seen.now(Due.county(county + "seed 9999;"))), false);
        due.is("9998 and 9999 differ",
                Seen.now(Due.county(county + "seed 9998;")).equals(Seen.now(Due.county(county + "seed 9999;"))), false);
        at("seed ^10000;", SYNTAX);
        at("seed ^-1;", SYNTAX);
    }

    private void places() {
        due.about("FAULTS of a text, the first by its place (a byte; the text's end: its length)");
        at("^.", SYNTAX);
        at(" ^.", SYNTAX);
        at("house^", SYNTAX);
        at("house ^", SYNTAX);
        at("house \t\r\n^", SYNTAX);
        at("house a 1^", SYNTAX);
        at("goes = (1^", SYNTAX);
        at("goes = 1 +^", SYNTAX);
        at("house a 1; house ^a 100; right x y;", TWICE);
        at("house a ^100; house a 100; right x y;", WRONG);
        at("right ^x y; house a 100; house a 1;", NAME);
        at("^. .", SYNTAX);
        at("house ^1 1 1;", SYNTAX);
    }

    /** Behind each beginning every kind of TOKEN, and what is none: only those told here go on. */
    private void whatGoesOn() {
        due.about("1 SYNTAX: a TOKEN, or what is none, with which no text goes on");
        String tells = "house person right away goes comes dies rents seed";
        String unit = "7 ( rent age gone got year rights lord which home";
        String more = "+ - * / ";
        String[][] begun = {{"", tells}, {"seed 1 ;", tells}, {"house", "x"}, {"house x", "7"}, {"house x 1", ";"}, {"person", "x"},
            {"person x", "7"}, {"person x 1", ";"}, {"right", "x"}, {"right x", "x"}, {"right x y", ";"}, {"away", "x"},
            {"away x", "7"}, {"away x 1", ";"}, {"seed", "7"}, {"seed 1", ";"}};
        for (String[] one : begun) {
            onlyThese(one[0], one[1]);
        }
        for (String law : new String[] {"goes", "comes", "dies", "rents"}) {
            onlyThese(law, "=");
            onlyThese(law + " =", unit + " if");
            for (String value : new String[] {"1", "age", "( 1 )", "1 + 2", "1 * 2 - home"}) {
                onlyThese(law + " = " + value, more + ";");
                onlyThese(law + " = ( " + value, more + ")");
                onlyThese(law + " = if " + value, more + "<");
                onlyThese(law + " = if ( " + value, more + ")");
                onlyThese(law + " = if 1 < " + value, more + "then");
                onlyThese(law + " = if 1 < 2 then " + value, more + "else");
                onlyThese(law + " = if 1 < 2 then 3 else " + value, more + ";");
            }
            for (String open : new String[] {"1 +", "1 -", "1 *", "1 /", "(", "( 1 +", "( (", "if", "if 1 +", "if 1 <", "if 1 < (",
                "if 1 < 2 then", "if 1 < 2 then 3 *", "if 1 < 2 then 3 else 4 /"}) {
                onlyThese(law + " = " + open, unit);
            }
            onlyThese(law + " = if 1 < 2 then 3 else", unit + " if");
        }
    }

    private void onlyThese(String begun, String goOn) {
        String[] others = {"x", "7", ";", "=", "+", "-", "*", "/", "<", "(", ")", ".", "abcdefghi", "12345"};
        for (String[] kinds : new String[][] {others, WORDS}) {
            for (String kind : kinds) {
                String text = begun + " " + kind;
                AbsentLords x = new AbsentLords();
                int fault = Due.read(x, text);
                boolean refused = fault == SYNTAX && x.place() == begun.length() + 1;
                due.is("refused at the last of: " + text, refused, !(" " + goOn + " ").contains(" " + kind + " "));
            }
        }
    }

    private void leastOfOnePlace() {
        due.about("of one place the least");
        String full = many(100, "goes=1;");
        // A 401st TOKEN with which no text goes on.
        at(full + "^;", SYNTAX);
        at(full + "^age", SYNTAX);
        at(full + "^5", SYNTAX);
        at(full + "^x", SYNTAX);
        at(full + "^.", SYNTAX);
        at(full + "^aaaaaaaaa", SYNTAX);
        // The same within a TELL.
        at(filled(399) + "house ^5", SYNTAX);
        at(filled(398) + "house a ^b", SYNTAX);
        at(filled(398) + "goes = ^;", SYNTAX);
        at(filled(396) + "goes = 1 + ^)", SYNTAX);
        // A 6th house, an 8th person, a 21st right, an 8th away, a 5th if, a 7th ( where none can stand.
        at(many(5, "house h# 1;") + "person ^house", SYNTAX);
        at(many(7, "person p# 1;") + "house ^person", SYNTAX);
        at("person a 1; house h 1;" + many(20, "right a h;") + "house ^right", SYNTAX);
        at("person a 1;" + many(7, "away a 1;") + "house ^away", SYNTAX);
        String clause = "if 1 < 2 then 3 else ";
        at("goes = " + many(4, clause) + "5 ^if", SYNTAX);
        at("goes = " + many(3, clause) + "if 1 < 2 then ^if", SYNTAX);
        at("goes = ((((((1 ^(", SYNTAX);
    }

    private void tokensOfText() {
        due.about("2 ROOM: a 401st TOKEN");
        none(filled(399));
        none(filled(400));
        none(filled(400) + blanks(50));
        at(filled(397) + "seed1; \n ^seed1;", ROOM);
        for (String word : new String[] {"house", "person", "right", "away", "goes", "comes", "dies", "rents", "seed"}) {
            at(filled(400) + "^" + word, ROOM);
            none(filled(399));
        }
        String[] tells = {"house a 1 ;", "person a 1 ;", "right a b ;", "away a 1 ;", "seed 1 ;",
            "goes = if 1 < ( rent + 2 ) * 3 / 4 - 5 then ( 6 ) else age ;"};
        for (String tell : tells) {
            lastTokenOf(tell.split(" "));
        }
    }

    /** A TELL cut by the text's 400th TOKEN, wherever that stands in it. */
    private void lastTokenOf(String[] tell) {
        String begun = "";
        for (int i = 0; i < tell.length; i++) {
            String ahead = filled(400 - i) + begun;
            at(ahead + "^" + tell[i], ROOM);
            at(ahead + "^" + tell[i] + " .", ROOM);
            at(ahead + "^.", SYNTAX);
            if (i > 0) {
                at(ahead + "^", SYNTAX);
                at(ahead + "^seed", SYNTAX);
            }
            begun += tell[i] + " ";
        }
    }

    private void oneMoreOfASort() {
        due.about("one more of a sort than told (at its first TOKEN)");
        String county = many(5, "house h# 1;") + many(7, "person p# 1;");
        at(many(5, "house h# 1;") + "  ^house x 1;", ROOM);
        at(county + "^house x 1;", ROOM);
        at(county + "^person x 1;", ROOM);
        String rights = many(7, "right p# ha;") + many(7, "right p# hb;") + many(6, "right p# hc;");
        at(county + rights + "^right pg hc;", ROOM);
        at(county + many(7, "away p# 1;") + "^away pa 1;", ROOM);
        // Whatever comes behind that TOKEN.
        at(many(5, "house h# 1;") + "^house", ROOM);
        at(many(5, "house h# 1;") + "^house . . .", ROOM);
        at(many(7, "person p# 1;") + "^person 1", ROOM);
        at(county + rights + "^right ;", ROOM);
        at(county + many(7, "away p# 1;") + "^away away", ROOM);
        // Those with another FAULT count, too.
        at(many(5, "house h 100;") + "^house x 1;", ROOM);
        at(many(7, "person p 100;") + "^person x 1;", ROOM);
        at(many(20, "right x y;") + "^right x y;", ROOM);
        at(many(7, "away x 100;") + "^away x 1;", ROOM);
    }

    private void ifsOfLaw() {
        due.about("a 5th if of a LAW (at it)");
        String clause = "if 1 < 2 then 3 else ";
        for (String law : new String[] {"goes", "comes", "dies", "rents"}) {
            none(law + " = " + many(4, clause) + "5;");
            at(law + " = " + many(4, clause) + "^if 1 < 2 then 3 else 5;", ROOM);
            at(law + " = " + many(4, clause) + "^if", ROOM);
            at(law + " = " + many(4, clause) + "^if if", ROOM);
        }
        // Each LAW has its own, one told again, too.
        none(many(6, "goes = " + many(4, clause) + "5;"));
    }

    private void parentheses() {
        due.about("a 7th ( within one another (at it)");
        none("goes = ((((((1))))));");
        at("goes = ((((((^(1)))))));", ROOM);
        at("goes = ((((((^(", ROOM);
        at("goes = ((((((^()", ROOM);
        // Side by side they are not within one another; one that is closed counts no more.
        none("goes = (1) + (2) * (3) - (4) / (5) + (6) + (7) + (8);");
        none("goes = (((((1)))) + (((((2))))) - (((((3))))));");
        none("goes = if ((((((1)))))) < ((((((2)))))) then ((((((3)))))) else ((((((4))))));");
        at("goes = if ((((((^(1)))))) < 2 then 3 else 4;", ROOM);
        at("goes = if 1 < ((((((^(2)))))) then 3 else 4;", ROOM);
        at("goes = if 1 < 2 then ((((((^(3)))))) else 4;", ROOM);
        at("goes = if 1 < 2 then 3 else ((((((^(4))))));", ROOM);
        at("goes = 1 * (1 + (1 * (1 + (1 * (1 + (1 * ^(1)))))));", ROOM);
        none("goes = 1 * (1 + (1 * (1 + (1 * (1 + (1 * 1))))));");
    }

    private void roomAndSyntaxAhead() {
        due.about("If there is none, likewise: 3 .. 4 .. 5");
        // SYNTAX and ROOM anywhere are ahead of all others.
        at("house a 100; house a 1; right x y; .".replace(".", "^."), SYNTAX);
        at("house a 1; house a 1^", SYNTAX);
        at("right x y^", SYNTAX);
        at("house a 100^", SYNTAX);
        at("house a 100;" + many(4, "house h# 1;") + "^house b 1;", ROOM);
        at("house a 1; house a 1;" + many(3, "house h# 1;") + "^house b 1;", ROOM);
        at("away x 1; goes = ((((((^(1)))))));", ROOM);
        at("away x 1;" + many(99, "goes=1;") + "^goes=1;", ROOM);
        // Of these the first by its place, not the least.
        at("house a ^100; house a 1;", WRONG);
        at("away ^x 1; house a 1; house a 1;", NAME);
        at("house a ^100; away x 1;", WRONG);
        at("away ^x 100;", NAME);
        at("house a 1; house ^a 100;", TWICE);
        at("house a 1; right ^x a; house a 1;", NAME);
        at("house h 1; person a 1; right a h; right a ^h; right x h;", TWICE);
        at("house h 1; person a 1; right a h; right ^x h; right a h;", NAME);
    }

    private void namesToldAlready() {
        due.about("3 TWICE: a NAME told already (of HOUSES and PEOPLE together)");
        at("house a 1; house ^a 1;", TWICE);
        at("person a 1; person ^a 1;", TWICE);
        at("house a 1; person ^a 1;", TWICE);
        at("person a 1; house ^a 1;", TWICE);
        at(many(5, "house h# 1;") + many(6, "person p# 1;") + "person ^he 1;", TWICE);
        at(many(4, "house h# 1;") + many(7, "person p# 1;") + "house ^pg 1;", TWICE);
        at("house a 1; house ^a 1; house a 1;", TWICE);
        none(many(5, "house h# 1;") + many(7, "person p# 1;"));
        // Another text's NAMES are not told already.
        AbsentLords x = Due.county("house a 1; person b 1;");
        due.is("the same again", Due.read(x, "house a 1; person b 1;"), 0);
        due.is("the other way", Due.read(x, "house b 1; person a 1;"), 0);
        due.is("not told ahead", Due.read(x, "person c 1; right c b;"), NAME);
        due.is("at", x.place(), 20);
    }

    private void rightsToldAlready() {
        due.about("(at the second NAME) a RIGHT told already");
        String county = "house h 1; house k 1; person a 1; person b 1; right a h;";
        at(county + "right a ^h;", TWICE);
        at(county + "right b h; right a ^h;", TWICE);
        at(county + "right a k; right b k; right b h; right b ^k;", TWICE);
        none(county + "right a k; right b h; right b k;");
        AbsentLords x = Due.county(county);
        due.is("another text's", Due.read(x, county), 0);
    }

    private void noSuchName() {
        due.about("4 NAME: (at it) no such PERSON, HOUSE told ahead");
        at("house h 1; right ^a h;", NAME);
        at("person a 1; right a ^h;", NAME);
        at("right ^a h;", NAME);
        at("person a 1; right ^h a; house h 1;", NAME);
        at("person a 1; house h 1; right ^h a;", NAME);
        at("person a 1; house h 1; right ^h h;", NAME);
        at("person a 1; house h 1; right a ^a;", NAME);
        at("away ^a 1; person a 1;", NAME);
        at("house a 1; away ^a 1;", NAME);
        at("person ab 1; away ^a 1;", NAME);
        at("person a 1; away ^ab 1;", NAME);
        at("house h 1; right ^a h; person a 1;", NAME);
        at("person a 1; right a ^h; house h 1;", NAME);
        none(many(5, "house h# 1;") + many(7, "person p# 1;") + "right pg he; right pa ha; away pg 1; away pa 1;");
        due.about("(a NAME told more than once is that of the first one of the sort)");
        // Whichever it is, the first FAULT is that it is TWICE.
        at("person a 1; person ^a 2; away a 1;", TWICE);
        at("house a 1; person ^a 2; right a a; right a a;", TWICE);
    }

    private void wrongNumbers() {
        due.about("5 WRONG (at the INT): a number not as told above");
        for (String tell : new String[] {"house a ", "person a ", "person b 1; away b "}) {
            none(tell + "0;");
            none(tell + "99;");
            none(tell + "0099;");
            at(tell + "^100;", WRONG);
            at(tell + "^0100;", WRONG);
            at(tell + "^9999;", WRONG);
        }
        none("seed 9999;");
        none("goes = 9999; comes = 100; dies = 0101; rents = 100;");
    }
}
