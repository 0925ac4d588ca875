/** Promises 1 to 5: a new object, feed, text, fault, named. */
public final class TextTest {
    private static final String MAN = "man a 0 north left 0;";

    public static void main(String[] args) {
        newObject();
        feed();
        text();
        cut();
        again();
        places();
        lineFaults();
        tooMuch();
        toldAlready();
        notTold();
        sentences();
        named();
        Check.end();
    }

    private static void newObject() {
        HalfCitizen x = new HalfCitizen();
        int[] counts = {8, 0, 0, 0, 0, 0, 0, 0, 0, 0, 0, 0, 0, 0, 0};
        for (int i = 0; i < counts.length; i++) {
            Check.due("count(" + i + ") of a new object", x.count(i), counts[i]);
        }
        Check.due("fault(0) of a new object", x.fault(0), 0);
        Check.due("fault(1) of a new object", x.fault(1), -1);
        Check.due("text(0) of a new object", x.text(0), 0);
        Check.due("text(1) of a new object", x.text(1), -2);
    }

    private static void feed() {
        HalfCitizen x = new HalfCitizen();
        for (int i = 1; i <= 35; i++) {
            Check.due("feed " + i, x.feed(538976288, 538976288, 538976288, 538976288, 538976288), 20 * i);
        }
        Check.due("feed 36", x.feed(0, 0, 0, 0, 0), -1);
        Check.due("text(701)", x.text(701), -2);
        Check.due("text(700) of blanks", x.text(700), 0);
        Check.due("feed behind text", x.feed(0, 0, 0, 0, 0), 20);
        Check.due("a byte 0", x.text(1), -1);
        Check.due("its fault", x.fault(0), 1);
        Check.due("its place", x.fault(1), 0);
        x.feed(0x20202020, 0x20ff2020, 0, 0, 0);
        Check.due("a byte 255", x.text(8), -1);
        Check.due("its place", x.fault(1), 5);
    }

    private static void text() {
        HalfCitizen x = Check.told("street 4;land up 2 3;man al 1 north left 9;deed al lhand hit 0;bar up lhand;");
        x.move(0, 0);
        x.keep();
        x.print(0, 0, 0);
        x.known(0);
        Check.due("text with a fault", Check.tell(x, "street 5;;"), -1);
        Check.due("all stays: LONG", x.count(0), 4);
        Check.due("all stays: moves", x.count(14), 1);
        Check.due("all stays: undo", x.count(13), 1);
        Check.due("all stays: prints", x.count(11), 1);
        Check.due("all stays: known", x.count(12), 0);
        Check.due("all stays: image", x.back(), 0);
        Check.due("fault(0)", x.fault(0), 1);
        Check.due("fault(1)", x.fault(1), 9);
        Check.feed(x, "street 5;");
        Check.due("text(-1)", x.text(-1), -2);
        Check.due("text(21)", x.text(21), -2);
        Check.due("fault stays behind -2", x.fault(0), 1);
        Check.due("its place stays", x.fault(1), 9);
        Check.due("the tape stayed", x.text(9), 1);
        Check.due("fault(0) without", x.fault(0), 0);
        Check.due("fault(1) without", x.fault(1), -1);
        Check.due("fault(2)", x.fault(2), -1);
        Check.due("fault(-1)", x.fault(-1), -1);
        int[] counts = {5, 0, 0, 0, 0, 0, 0, 0, 0, 0, 0, 0, 0, 0, 0};
        for (int i = 0; i < counts.length; i++) {
            Check.due("count(" + i + ") behind a new text", x.count(i), counts[i]);
        }
        Check.due("no image behind a new text", x.back(), -1);
        Check.due("lines without blanks", Check.tell(x, "fine5;seed007;law tax(part)+1;"), 3);
        Check.due("lines with blanks", Check.tell(x, "\n fine\n5 ;\nlaw bind 1 < = 2;"), -1);
        Check.due("fault of < =", x.fault(1), 24);
        Check.due("less of the tape", Check.feed(x, "fine 1;fine 2;"), 20);
        Check.due("the first line alone", x.text(7), 1);
    }

    /** What stands on the tape behind the first n bytes is no part of the text. */
    private static void cut() {
        String[] texts = {"streets", "fine 55;", "law tax 1<=2;", "law tax 1<>2;", "fine 5;"};
        int[] lengths = {6, 6, 10, 10, 6};
        for (int i = 0; i < texts.length; i++) {
            HalfCitizen x = new HalfCitizen();
            Check.feed(x, texts[i]);
            Check.due("cut " + texts[i], x.text(lengths[i]), -1);
            Check.due("fault of cut " + texts[i], x.fault(0), 1);
            Check.due("place of cut " + texts[i], x.fault(1), lengths[i]);
        }
    }

    /** One text behind another: nothing of those ahead is left. */
    private static void again() {
        HalfCitizen x = new HalfCitizen();
        for (int i = 0; i < 4; i++) {
            Check.due("a long text", Check.tell(x, "street 4;land up 1 3;land b 2 2;bar up lhand;bar b rhand;fine 7;seed 3;"
                    + "man al 1 north left 9;man bo 2 south right 3;deed al lhand hit 0;deed bo rhand sign 0;"
                    + "law bind 1;law may 0;law tax 2;"), 14);
            x.go(1);
            x.move(0, 2);
            x.print(0, 0, 0);
            x.known(0);
            Check.due("clashed", x.count(8), 2);
            Check.due("a fault between", Check.tell(x, "land x 0 0;man x 0 west left 3;law bind 0;fine 1;;"), -1);
            Check.due("a short text", Check.tell(x, "man c 1 north left 20;deed c rhand hit 0;deed c lhand hit 1;"
                    + "land k 0 0;"), 4);
            int[] counts = {8, 1, 1, 2, 0, 0, 0, 0, 0, 0, 20, 0, 0, 0, 0};
            for (int k = 0; k < counts.length; k++) {
                Check.due("count(" + k + ") of the short text", x.count(k), counts[k]);
            }
            Check.due("land(0)", x.land(0), 0);
            Check.due("land(2)", x.land(2), -2);
            Check.due("the name of a land ahead", x.named(0, Check.letters("up")), -1);
            Check.due("the name of a man ahead", x.named(1, Check.letters("al")), -1);
            Check.due("no bind", x.law(0, 0, 0, 0), Long.MIN_VALUE);
            Check.due("hands", x.look(0, 2), 0);
            Check.due("seized", x.look(0, 6), 0);
            x.print(0, 0, 0);
            Check.due("known by all", x.count(12), 1);
            x.go(24);
            Check.due("done", x.count(7), 1);
            Check.due("clashed", x.count(8), 1);
            Check.due("the fine of 5, no tax", x.look(0, 4), 15);
        }
    }

    private static void places() {
        Check.faulty("street", 1, 6);
        Check.faulty("street  \n", 1, 9);
        Check.faulty("street 5", 1, 8);
        Check.faulty("street five;", 1, 7);
        Check.faulty("streets 5;", 1, 0);
        Check.faulty("Street 5;", 1, 0);
        Check.faulty(";", 1, 0);
        Check.faulty("5;", 1, 0);
        Check.faulty("north;", 1, 0);
        Check.faulty("fine 5\t;", 1, 6);
        Check.faulty("fine 5 5;", 1, 7);
        Check.faulty("fine -5;", 1, 5);
        Check.faulty("fine 5;x", 1, 7);
    }

    private static void lineFaults() {
        Check.faulty("land 3 1 2;", 1, 5);
        Check.faulty("land land 1 2;", 1, 5);
        Check.faulty("land toolong 1 2;", 1, 5);
        Check.faulty("land hour 1 2;", 1, 5);
        Check.faulty("land a b 2;", 1, 7);
        Check.faulty("land a 1;", 1, 8);
        Check.faulty("man a 1 up left 1;", 1, 8);
        Check.faulty("man a 1 west lhand 1;", 1, 13);
        Check.faulty("man a 1 west left;", 1, 17);
        Check.faulty(MAN + "deed and lhand hit 0;", 1, 26);
        Check.faulty(MAN + "deed a left hit 0;", 1, 28);
        Check.faulty(MAN + "deed a lhand may 0;", 1, 34);
        Check.faulty("land a 1 1;bar a pass;", 1, 17);
        String[] early = {"street", "land", "land a", "land a 0", "man", "man a", "man a 0", "man a 0 east",
            "man a 0 east left", "deed", MAN + "deed a", MAN + "deed a lfoot", MAN + "deed a lfoot sign", "bar",
            "land a 0 0;bar a", "fine", "seed", "law", "law may", "law tax 1 or", "law tax 1 and", "law tax not",
            "law tax 1<", "law tax 1+", "law tax 1-", "law tax 1*", "law tax 1/", "law tax (", "law tax (1"};
        for (String line : early) {
            Check.faulty(line + ";", 1, line.length());
            Check.faulty(line, 1, line.length());
            Check.faulty(line + " ", 1, line.length() + 1);
        }
        Check.faulty("law bind;", 1, 8);
        Check.faulty("law deed 1;", 1, 4);
        Check.faulty("law", 1, 3);
    }

    private static void tooMuch() {
        Check.faulty("street 0;", 2, 7);
        Check.faulty("street 99999999999999999999;", 2, 7);
        Check.faulty("land a 8 8;", 2, 7);
        Check.faulty("street 12;land a 0 12;", 2, 19);
        Check.faulty("street 3;man a 3 north left 0;", 2, 15);
        Check.faulty("man a 0 north left 100;", 2, 19);
        Check.faulty("fine 100;", 2, 5);
        Check.faulty("land a 3 2;", 2, 9);
        Check.faulty(MAN + "deed a lhand hit 24;", 2, 38);
        Check.due("the least of all", Check.tell(new HalfCitizen(), "seed 0;fine 0;street 2;land a 1 1;"
                + "man a 0 north left 0;man b 1 west right 99;deed a lhand hit 23;law tax 0;"), 8);
        Check.faulty("seed 100000;", 2, 5);
        Check.due("the highest seed", Check.tell(new HalfCitizen(), "seed 99999;fine 99;street 12;"), 3);
        Check.due("zeros ahead", Check.tell(new HalfCitizen(), "fine 0000000000000000007;"), 1);
        StringBuilder five = new StringBuilder();
        StringBuilder bars = new StringBuilder();
        for (int i = 0; i < 5; i++) {
            five.append("land ").append((char) ('a' + i)).append(" 0 0;");
        }
        Check.faulty(five + "land and 0 0;", 2, 55);
        String[] parts = {"lhand", "rhand", "lfoot", "rfoot"};
        for (int i = 0; i < 8; i++) {
            bars.append("bar ").append((char) ('a' + i / 4)).append(' ').append(parts[i % 4]).append(';');
        }
        HalfCitizen x = Check.told(five.toString() + bars);
        Check.due("bars", x.count(4), 8);
        Check.faulty(five.toString() + bars + "bar c lhand;", 2, 55 + 96);
        StringBuilder men = new StringBuilder();
        for (int i = 0; i < 5; i++) {
            men.append("man ").append((char) ('a' + i)).append(" 0 west left 0;");
        }
        Check.faulty(men + "man a", 2, men.length());
        StringBuilder deeds = new StringBuilder(MAN);
        for (int i = 0; i < 12; i++) {
            deeds.append("deed a rfoot pass 23;");
        }
        Check.due("twelve deeds", Check.told(deeds.toString()).count(3), 12);
        Check.faulty(deeds + "deed x", 2, deeds.length());
    }

    private static void toldAlready() {
        Check.faulty("street 5;street 5;", 3, 9);
        Check.faulty("street 5;" + MAN + "street 5;", 3, 30);
        Check.faulty("fine 5;fine x", 3, 7);
        Check.faulty("seed 5;fine 5;seed", 3, 14);
        Check.faulty("land a 0 0;land a x", 3, 16);
        Check.faulty(MAN + "land a 0 0;man a x", 3, 36);
        Check.faulty("law may 1;law bind 1;law may;", 3, 25);
        Check.faulty("land a 0 0;bar a rfoot;bar a rfoot", 3, 29);
        Check.due("the same part of two lands",
                Check.tell(new HalfCitizen(), "land a 0 0;land b 0 0;bar a rfoot;bar b rfoot;"), 4);
    }

    private static void notTold() {
        Check.faulty(MAN + "street 5;", 4, 21);
        Check.faulty("land a 0 0;street 5;", 4, 11);
        Check.faulty("land a 0 0;deed a lhand hit 0;", 4, 16);
        Check.faulty(MAN + "bar a lhand;", 4, 25);
        Check.faulty("deed a lhand hit 0;" + MAN, 4, 5);
        Check.due("street behind other lines", Check.tell(new HalfCitizen(), "fine 1;seed 1;law tax 1;street 5;"), 4);
    }

    private static void sentences() {
        String[] good = {"1", "not not 1", "1<2", "1<=2", "1<>2", "1>=2", "1>2", "1=2", "(((((((( 1 ))))))))",
            "1+2-3*4/5", "part or side and not where=face", "cross", "deed", "hour", "9999", "(1<2)<3", "(1)*(2)",
            "((((((((1)))))))+((1)))"};
        for (int i = 0; i < good.length; i++) {
            Check.due("law tax " + good[i], Check.tell(new HalfCitizen(), "law tax " + good[i] + ";"), 1);
        }
        Check.faulty("law tax (((((((((1)))))))));", 2, 16);
        Check.faulty("law tax ((((((((1))))))))+(((((((((1;", 2, 34);
        Check.faulty("law tax 10000;", 2, 8);
        Check.faulty("law tax 1<2<3;", 1, 11);
        Check.faulty("law tax 1=>2;", 1, 10);
        Check.faulty("law tax 1==2;", 1, 10);
        Check.faulty("law tax 1><2;", 1, 10);
        Check.faulty("law tax 1<>=2;", 1, 11);
        Check.faulty("law tax 1+not 2;", 1, 10);
        Check.faulty("law tax -1;", 1, 8);
        Check.faulty("law tax 1 2;", 1, 10);
        Check.faulty("law tax a;", 1, 8);
        Check.faulty("law tax lhand;", 1, 8);
        Check.faulty("law tax ();", 1, 9);
        Check.faulty("law tax (1;", 1, 10);
        Check.faulty("law tax 1);", 1, 9);
        Check.faulty("law tax 1 or;", 1, 12);
        StringBuilder ones = new StringBuilder("law bind 1");
        for (int i = 0; i < 31; i++) {
            ones.append("+1");
        }
        Check.due("63 knots and one", Check.told(ones + ";law tax (1);").count(5), 64);
        Check.faulty(ones + ";law tax not 1;", 2, 85);
        Check.faulty(ones + ";law tax 1;law may 1;", 2, 91);
        Check.faulty(ones + ";law tax 1 or;", 2, 83);
        Check.faulty(ones + ";law tax 1;law may or;", 1, 91);
    }

    private static void named() {
        HalfCitizen x = Check.told("land a 0 0;land zzzzzz 1 1;man a 0 north left 0;man bo 1 north left 0;");
        Check.due("land a", x.named(0, 1 << 25), 0);
        Check.due("land zzzzzz", x.named(0, Check.letters("zzzzzz")), 1);
        Check.due("man a", x.named(1, Check.letters("a")), 0);
        Check.due("man bo", x.named(1, Check.letters("bo")), 1);
        Check.due("land bo", x.named(0, Check.letters("bo")), -1);
        Check.due("man b", x.named(1, Check.letters("b")), -1);
        Check.due("man of no letters", x.named(1, 0), -1);
        Check.due("land below 0", x.named(0, -1), -1);
        Check.due("named 2", x.named(2, 1 << 25), -1);
        Check.due("named -1", x.named(-1, 1 << 25), -1);
    }
}
