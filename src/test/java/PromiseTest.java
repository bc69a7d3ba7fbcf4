/** For each promise: ordinary calls, the edges that the document names, wrong inputs. */
final class PromiseTest {
    private static final int BAD = -1, NOT = -2, FULL = -3, NONE = -4;
    private static final int NULL = -11, CAST = -12, INDEX = -13, SIZE = -14;
    private static final int LESS_BAD = -100001;
    private static final Due due = new Due();

    public static void main(String[] args) {
        emptyGround();
        thing();
        make();
        at();
        personAndWalk();
        rule();
        type();
        thingsText();
        talkText();
        count();
        meets();
        means();
        both();
        saysAndDark();
        when();
        misread();
        bargain();
        share();
        ground();
        fewest();
        aside();
        meantAndStood();
        stall();
        market();
        clear();
        image();
        clears();
        sheet();
        drop();
        item();
        copy();
        due.end();
    }

    private static void emptyGround() {
        PointingArms x = new PointingArms();
        for (int what = 0; what <= 5; what++) {
            due.is("new: count " + what, x.count(what), 0);
        }
        due.is("new: law 0", x.rule(0, 0), 0);
        due.is("new: law 1", x.rule(1, 1), 1);
        due.is("new: restore", x.restore(), NONE);
        due.is("new: meets", x.meets(0, 0, 1, 1), 0);
        due.is("new: dark", x.dark(0), 0);
        due.is("new: stood", x.stood(0), 441);
        for (int sheet = 0; sheet < 4; sheet++) {
            due.is("new: drop", x.drop(sheet), NULL);
        }
        due.is("new: tape", x.type('1', 1), 1);
        PointingArms other = new PointingArms();
        due.is("objects share nothing", other.type('1', 1), 1);
    }

    private static void thing() {
        PointingArms x = new PointingArms();
        due.is("thing x low", x.thing(-1, 0, 0), BAD);
        due.is("thing x high", x.thing(21, 0, 0), BAD);
        due.is("thing y low", x.thing(0, -1, 0), BAD);
        due.is("thing y high", x.thing(0, 21, 0), BAD);
        due.is("thing narrow", x.thing(0, 0, -1), BAD);
        due.is("thing broad", x.thing(0, 0, 6), BAD);
        for (int i = 0; i < 10; i++) {
            due.is("thing " + i, x.thing(2 * i, 20 - i, i % 6), i);
        }
        due.is("thing full", x.thing(0, 0, 0), FULL);
        due.is("thing bad before full", x.thing(0, 0, 6), BAD);
        due.is("thing count", x.count(0), 10);
    }

    private static void make() {
        PointingArms x = new PointingArms();
        due.is("make none there", x.make(0, 0, 0), LESS_BAD);
        x.thing(3, 4, 5);
        int[] was = {3, 4, 5, 0, 0};
        int[] low = {0, 0, 0, -3, -3};
        int[] high = {20, 20, 5, 3, 3};
        for (int what = 0; what < 5; what++) {
            due.is("make below " + what, x.make(0, what, low[what] - 1), LESS_BAD);
            due.is("make above " + what, x.make(0, what, high[what] + 1), LESS_BAD);
            due.is("make low " + what, x.make(0, what, low[what]), was[what]);
            due.is("make high " + what, x.make(0, what, high[what]), low[what]);
            due.is("make back " + what, x.make(0, what, was[what]), high[what]);
        }
        due.is("make what low", x.make(0, -1, 0), LESS_BAD);
        due.is("make what high", x.make(0, 5, 0), LESS_BAD);
        due.is("make thing low", x.make(-1, 0, 0), LESS_BAD);
        due.is("make thing high", x.make(1, 0, 0), LESS_BAD);
    }

    private static void at() {
        PointingArms x = new PointingArms();
        x.thing(3, 4, 5);
        x.make(0, 3, -3);
        x.make(0, 4, 2);
        due.is("at 0 x", x.at(0, 0, 0), 3);
        due.is("at 0 y", x.at(0, 0, 1), 4);
        due.is("at 1 x may be 0", x.at(0, 1, 0), 0);
        due.is("at 2 x is below 0", x.at(0, 2, 0), -3);
        due.is("at 60 x", x.at(0, 60, 0), -177);
        due.is("at 60 y", x.at(0, 60, 1), 124);
        due.is("at tick low", x.at(0, -1, 0), LESS_BAD);
        due.is("at tick high", x.at(0, 61, 0), LESS_BAD);
        due.is("at what low", x.at(0, 0, -1), LESS_BAD);
        due.is("at what high", x.at(0, 0, 2), LESS_BAD);
        due.is("at thing", x.at(1, 0, 0), LESS_BAD);
        due.is("at thing low", x.at(-1, 0, 0), LESS_BAD);
    }

    private static void personAndWalk() {
        PointingArms x = new PointingArms();
        due.is("person x low", x.person(-1, 0), BAD);
        due.is("person x high", x.person(21, 0), BAD);
        due.is("person y low", x.person(0, -1), BAD);
        due.is("person y high", x.person(0, 21), BAD);
        for (int i = 0; i < 6; i++) {
            due.is("person " + i, x.person(i, 20 - i), i);
        }
        due.is("person full", x.person(0, 0), FULL);
        due.is("person bad before full", x.person(21, 0), BAD);
        due.is("walk", x.walk(5, 20, 0), 515);
        due.is("walk again", x.walk(5, 0, 20), 2000);
        due.is("walk bad", x.walk(5, 0, 21), BAD);
        due.is("walk bad x", x.walk(5, -1, 0), BAD);
        due.is("walk bad leaves him", x.walk(5, 1, 1), 20);
        due.is("walk nobody", x.walk(6, 0, 0), BAD);
        due.is("walk nobody below", x.walk(-1, 0, 0), BAD);
        due.is("walk another is not moved", x.walk(4, 0, 0), 416);
    }

    private static void rule() {
        PointingArms x = new PointingArms();
        due.is("rule 0 to 1", x.rule(0, 1), 0);
        due.is("rule 0 to 0", x.rule(0, 0), 1);
        due.is("rule 1 to 0", x.rule(1, 0), 1);
        due.is("rule 1 to 1", x.rule(1, 1), 0);
        due.is("rule what low", x.rule(-1, 0), BAD);
        due.is("rule what high", x.rule(2, 0), BAD);
        due.is("rule v low", x.rule(0, -1), BAD);
        due.is("rule v high", x.rule(1, 2), BAD);
        due.is("rule bad changes nothing", x.rule(1, 1), 1);
    }

    private static void type() {
        PointingArms x = new PointingArms();
        due.is("type n 0", x.type('1', 0), BAD);
        due.is("type n 9", x.type('1', 9), BAD);
        due.is("type n below", x.type('1', -1), BAD);
        due.is("type 31", x.type(31, 1), BAD);
        due.is("type 127", x.type(127, 1), BAD);
        due.is("type 255", x.type(-1L, 8), BAD);
        due.is("type a high byte of those", x.type(0x1F20L, 2), BAD);
        due.is("type 32", x.type(32, 1), 1);
        due.is("type 126", x.type(126, 1), 2);
        due.is("type higher bytes are not asked", x.type(0xFF00000000000031L, 1), 3);
        due.is("the highest is first: fault at 1", x.things(), -21);
        for (int i = 1; i <= 12; i++) {
            due.is("type 8 " + i, x.type(0x2020202020202020L, 8), 8 * i);
        }
        due.is("type beyond 100", x.type(0x2020202020L, 5), FULL);
        due.is("type bad before full", x.type(0x2020202001L, 5), BAD);
        due.is("type just 100", x.type(0x20202031L, 4), 100);
        due.is("type full", x.type(32, 1), FULL);
        due.is("100 bytes are read", x.things(), -120);
        due.is("the tape is empty then", x.type(32, 1), 1);
    }

    private static void thingsText() {
        Object[][] faults = {
            {"", 0}, {"   ", 3}, {"1", 1}, {"1 ", 2}, {"x", 0}, {"  x", 2}, {",", 0}, {"-1,2,3", 0}, {"+1,2,3", 0},
            {"21,0,0", 0}, {" 021,0,0", 1}, {"1 1,0,0", 2}, {"0,21,0", 2}, {"0, 99999999999999999999,0", 3},
            {"4294967297,0,0", 0}, {"1,,2", 2}, {"1,2", 3}, {"1,2,", 4}, {"1,2,6", 4}, {"1,2,33", 5}, {"1,2,3 3", 6},
            {"1,2,3,", 5}, {"1,2,3;", 6}, {"1,2,3;;", 6}, {"1,2,3;4,5,9", 10}, {"1;2", 1}, {"1.2", 1}, {"21", 0},
            {"0,0,0;0,0,0;0,0,0;0,0,0;0,0,0;", 29}, {"0,0,0;0,0,0;0,0,0;0,0,0;0,0,0;0,0,0", 29},
            {"0,0,0;0,0,0;0,0,0;0,0,0;0,0,0 ; ", 30},
        };
        PointingArms x = new PointingArms();
        x.thing(7, 8, 1);
        x.make(0, 3, 2);
        for (Object[] fault : faults) {
            due.is("things '" + fault[0] + "'", Due.things(x, (String) fault[0]), -20 - (Integer) fault[1]);
            due.is("a fault leaves those told", x.count(0), 1);
            due.is("a fault empties the tape", x.type(32, 1), 1);
            x.things();
        }
        due.is("a fault leaves a way", x.at(0, 2, 0), 11);
        due.is("things", Due.things(x, " 0 ,020, 5 ;20,0,0"), 2);
        due.is("things in place of those told", x.count(0), 2);
        due.is("things x", x.at(0, 0, 0), 0);
        due.is("things y", x.at(0, 0, 1), 20);
        due.is("things breadth", x.make(0, 2, 5), 5);
        due.is("things go nowhere", x.at(0, 60, 0), 0);
        due.is("things second", x.at(1, 0, 0), 20);
        due.is("things second breadth", x.make(1, 2, 0), 0);
        due.is("things of 5", Due.things(x, "1,1,1;2,2,2;3,3,3;4,4,4;5,5,5"), 5);
        due.is("thing behind those", x.thing(1, 1, 1), 5);
        due.is("things fewer", Due.things(x, "1,1,1"), 1);
        due.is("old ones are gone", x.at(1, 0, 0), LESS_BAD);
    }

    private static void talkText() {
        Object[][] faults = {
            {"", 0}, {"  ", 2}, {"0", 1}, {"0+", 2}, {"0+1", 3}, {"0+1+", 4}, {"0+1+ ", 5}, {"2+1+1", 0}, {" 9+1+1", 1},
            {"01+1", 1}, {"0+12+1", 3}, {"0+1+12", 5}, {"01+1", 1}, {"0+0+0", 3}, {"0-0-0", 3}, {"0+0 - 0", 4},
            {"0+0+", 4}, {"0+0+x", 4}, {"0+0+0;9", 3}, {"0*1+1", 1}, {"0+1*1", 3}, {"0+a+1", 2}, {"0+1+a", 4},
            {"0+1+1;", 6}, {"0+1+1,", 6}, {"0+1+1.", 5}, {"0+1+1,;", 6}, {"0+1+1,0+1+1,0+1+1,0+1+1", 17},
            {"0+1+1;0+1+1;0+1+1;0+1+1;0+1+1;0+1+1;0+1+1", 35}, {"0++1+1", 2}, {"x", 0}, {"+1+1", 0},
        };
        PointingArms nobody = new PointingArms();
        due.is("talk of nobody", Due.talk(nobody, "0+1+1"), -20);
        PointingArms x = new PointingArms();
        x.person(0, 0);
        x.person(1, 1);
        due.is("talk", Due.talk(x, "0+1+1"), 1);
        for (Object[] fault : faults) {
            due.is("talk '" + fault[0] + "'", Due.talk(x, (String) fault[0]), -20 - (Integer) fault[1]);
            due.is("a fault leaves the talk told", x.count(2), 1);
            due.is("a fault leaves its arms", x.count(3), 1);
            due.is("a fault empties the tape", x.type(32, 1), 1);
            x.things();
        }
        due.is("talk by digits and signs", Due.talk(x, " 0 + 9 - 9 ,1-0+1;1-9-9"), 2);
        due.is("arms of it", x.count(3), 3);
        String full = "0+1+1,0+1+1,0+1+1";
        due.is("all sentences", Due.talk(x, full.substring(0, 11) + ";1+1+1;1+1+1;1+1+1;1+1+1;" + full), 6);
        due.is("arms of all", x.count(3), 9);
        due.is("the talk in place of the one told", Due.talk(x, full), 1);
        due.is("its arms", x.count(3), 3);
    }

    private static void count() {
        PointingArms x = new PointingArms();
        x.thing(0, 0, 0);
        for (int i = 0; i < 2; i++) {
            x.person(0, 0);
        }
        Due.talk(x, "0+1+1,1+1+1;0+1+1;1+1+1");
        for (int i = 0; i < 5; i++) {
            x.stall(0, 0);
        }
        for (int i = 0; i < 3; i++) {
            x.meant(1, 1, 0);
        }
        int[] want = {1, 2, 3, 4, 5, 3};
        for (int what = 0; what < 6; what++) {
            due.is("count " + what, x.count(what), want[what]);
        }
        due.is("count -1", x.count(-1), BAD);
        due.is("count 6", x.count(6), BAD);
    }

    private static void meets() {
        PointingArms x = new PointingArms();
        Due.things(x, "10,10,2;15,10,1;10,16,0");
        due.is("meets two behind one another", x.meets(0, 10, 1, 0), 3);
        due.is("meets backwards none", x.meets(0, 10, -1, 0), 0);
        due.is("meets touched", x.meets(0, 12, 1, 0), 1);
        due.is("meets just beside", x.meets(0, 13, 1, 0), 0);
        due.is("meets a point thing", x.meets(10, 0, 0, 9), 5);
        due.is("stands on it", x.meets(10, 10, 1, 0), 2);
        due.is("stands on its edge", x.meets(8, 10, 1, 0), 2);
        due.is("stands on a point thing", x.meets(10, 16, 1, 0), 0);
        due.is("beside it, e is 0", x.meets(10, 13, 1, 0), 0);
        x.rule(0, 1);
        due.is("meets asks no law 0", x.meets(0, 10, 1, 0), 3);
        x.rule(1, 0);
        due.is("touched by law 1 no more", x.meets(0, 12, 1, 0), 0);
        due.is("a point thing by law 1 no more", x.meets(10, 0, 0, 1), 1);
        x.make(0, 3, 3);
        due.is("meets at tick 0", x.meets(0, 10, 1, 0), 3);
        int[][] bad = {{-1, 0, 1, 0}, {21, 0, 1, 0}, {0, -1, 1, 0}, {0, 21, 1, 0},
            {0, 0, 0, 0}, {0, 0, 10, 0}, {0, 0, -10, 0}, {0, 0, 0, 10}, {0, 0, 0, -10}};
        for (int[] b : bad) {
            due.is("meets bad", x.meets(b[0], b[1], b[2], b[3]), BAD);
        }
    }

    private static void means() {
        PointingArms x = new PointingArms();
        Due.things(x, "15,10,1;10,10,2;15,10,2");
        x.person(0, 10);
        due.is("means all", x.means(0, 1, 0, 0), 7);
        x.rule(0, 1);
        due.is("means the first", x.means(0, 1, 0, 0), 2);
        x.make(1, 4, 3);
        due.is("it has gone; of like ones the lesser number", x.means(0, 1, 0, 2), 1);
        due.is("none", x.means(0, -1, 0, 60), 0);
        x.rule(0, 0);
        x.walk(0, 20, 20);
        x.make(0, 0, 0);
        x.make(0, 1, 0);
        due.is("means by the longest arm back", x.means(0, -9, -9, 0), 3);
        due.is("means beyond it by x", x.means(0, -10, -9, 0), BAD);
        due.is("means beyond it by y", x.means(0, -9, -10, 0), BAD);
        due.is("means nobody", x.means(1, 1, 0, 0), BAD);
        due.is("means nobody below", x.means(-1, 1, 0, 0), BAD);
        due.is("means no arm", x.means(0, 0, 0, 0), BAD);
        due.is("means long arm", x.means(0, 10, 0, 0), BAD);
        due.is("means tick low", x.means(0, 1, 0, -1), BAD);
        due.is("means tick high", x.means(0, 1, 0, 61), BAD);
    }

    private static void both() {
        PointingArms x = new PointingArms();
        Due.things(x, "5,10,1;10,10,1;15,10,1;10,16,1");
        x.person(0, 10);
        x.person(20, 10);
        x.person(10, 0);
        due.is("both along", x.both(0, 1, 0, 1, -1, 0), 7);
        due.is("both across", x.both(0, 1, 0, 2, 0, 1), 2);
        due.is("both of one", x.both(2, 0, 1, 2, 0, 9), 10);
        x.rule(0, 1);
        due.is("ahead by the first arm", x.both(0, 1, 0, 1, -1, 0), 1);
        due.is("ahead by the other first", x.both(1, -1, 0, 0, 1, 0), 4);
        due.is("of those that both meet", x.both(0, 1, 0, 2, 0, 1), 2);
        int[][] bad = {{3, 1, 0, 0, 1, 0}, {-1, 1, 0, 0, 1, 0}, {0, 0, 0, 1, 1, 0}, {0, 1, 0, 3, 1, 0},
            {0, 1, 0, -1, 1, 0}, {0, 1, 0, 1, 0, 0}, {0, 1, 10, 1, 1, 0}, {0, 1, 0, 1, 0, -10}};
        for (int[] b : bad) {
            due.is("both bad", x.both(b[0], b[1], b[2], b[3], b[4], b[5]), BAD);
        }
    }

    private static void saysAndDark() {
        PointingArms x = new PointingArms();
        Due.things(x, "5,10,1;10,10,1;15,10,1;10,16,1");
        x.person(0, 10);
        x.person(20, 10);
        x.person(10, 0);
        due.is("says without a talk", x.says(0, 0), BAD);
        Due.talk(x, "0+1+0,1-1+0;0+1+0,2+0+1;0-1+0;0+1+0,1-1+0,2+0+1");
        due.is("says more", x.says(0, 0), 7);
        due.is("says one", x.says(1, 0), 2);
        due.is("says none", x.says(2, 0), 0);
        due.is("says by three", x.says(3, 0), 2);
        due.is("dark", x.dark(0), 5);
        x.make(1, 3, 3);
        due.is("says later", x.says(1, 1), 0);
        due.is("dark later", x.dark(1), 15);
        x.rule(0, 1);
        due.is("says the first", x.says(0, 0), 1);
        due.is("dark by law", x.dark(0), 4);
        x.walk(0, 0, 16);
        due.is("arms come from where one stands now", x.says(0, 0), 0);
        due.is("says sentence low", x.says(-1, 0), BAD);
        due.is("says sentence high", x.says(4, 0), BAD);
        due.is("says tick low", x.says(0, -1), BAD);
        due.is("says tick high", x.says(0, 61), BAD);
        due.is("dark tick low", x.dark(-1), BAD);
        due.is("dark tick high", x.dark(61), BAD);
    }

    private static void when() {
        PointingArms x = new PointingArms();
        Due.things(x, "10,10,1;12,10,1;0,20,0");
        x.person(0, 10);
        x.make(1, 4, 1);
        due.is("when the other has gone", x.when(0, 1, 0, 0), 2);
        due.is("when never", x.when(0, 1, 0, 1), NONE);
        due.is("when at once", x.when(0, 0, 1, 2), 0);
        x.rule(0, 1);
        due.is("when by law", x.when(0, 1, 0, 0), 0);
        x.rule(0, 0);
        x.make(0, 1, 20);
        x.make(1, 1, 20);
        x.make(1, 2, 0);
        x.make(1, 4, -1);
        due.is("when it has come down to him", x.when(0, 1, 0, 1), 10);
        due.is("when bad thing", x.when(0, 1, 0, 3), BAD);
        due.is("when bad thing below", x.when(0, 1, 0, -1), BAD);
        due.is("when bad arm", x.when(0, 0, 0, 0), BAD);
        due.is("when nobody", x.when(1, 1, 0, 0), BAD);
        PointingArms late = new PointingArms();
        late.thing(20, 20, 0);
        late.make(0, 3, -3);
        late.make(0, 4, -3);
        late.person(0, 0);
        due.is("it passes him", late.when(0, -1, -1, 0), 7);
        late.make(0, 4, 3);
        late.make(0, 3, 3);
        late.walk(0, 20, 20);
        due.is("it leaves him", late.when(0, 1, 1, 0), 1);
        PointingArms last = new PointingArms();
        last.thing(0, 0, 0);
        last.make(0, 3, 3);
        last.make(0, 4, 1);
        last.person(0, 20);
        due.is("when level with him", last.when(0, 1, 0, 0), 20);
        last.make(0, 3, 1);
        last.make(0, 4, 0);
        due.is("when at the last tick", last.when(0, 3, -1, 0), 60);
        last.walk(0, 1, 20);
        due.is("when a tick too late", last.when(0, 3, -1, 0), NONE);
    }

    private static void misread() {
        PointingArms x = new PointingArms();
        Due.things(x, "10,10,1;10,5,1;15,5,1");
        x.person(0, 10);
        x.person(0, 5);
        due.is("misread", x.misread(0, 1, 0, 1), 6);
        due.is("misread the other way", x.misread(1, 1, 0, 0), 1);
        x.rule(0, 1);
        due.is("misread by law", x.misread(0, 1, 0, 1), 2);
        due.is("misread by oneself", x.misread(0, 1, 0, 0), BAD);
        due.is("misread nobody", x.misread(2, 1, 0, 0), BAD);
        due.is("misread of nobody", x.misread(0, 1, 0, 2), BAD);
        due.is("misread below", x.misread(-1, 1, 0, 0), BAD);
        due.is("misread no arm", x.misread(0, 0, 0, 1), BAD);
    }

    private static void bargain() {
        PointingArms x = new PointingArms();
        Due.things(x, "10,10,2;10,0,2");
        x.person(0, 10);
        x.person(0, 9);
        due.is("bargain", x.bargain(0, 1, 0, 1, 1, -1), 1);
        due.is("bargain the other way", x.bargain(0, 1, -1, 1, 1, 0), 10);
        due.is("bargain over the same", x.bargain(0, 1, 0, 1, 1, 0), NOT);
        due.is("bargain over nothing", x.bargain(0, 1, 0, 1, -1, 0), NOT);
        x.walk(1, 0, 5);
        due.is("one misreads the other", x.bargain(0, 1, 0, 1, 2, -1), NOT);
        x.walk(1, 0, 9);
        due.is("p alone misreads", x.bargain(0, 1, 0, 1, 9, -6), NOT);
        due.is("q alone misreads", x.bargain(1, 9, -6, 0, 1, 0), NOT);
        due.is("both read it", x.bargain(0, 1, 0, 1, 9, -7), 1);
        x.thing(15, 10, 1);
        due.is("an arm that means more", x.bargain(0, 1, 0, 1, 1, -1), NOT);
        x.rule(0, 1);
        due.is("by law the first", x.bargain(0, 1, 0, 1, 1, -1), 1);
        due.is("bargain with oneself", x.bargain(0, 1, 0, 0, 1, -1), BAD);
        due.is("bargain nobody", x.bargain(2, 1, 0, 0, 1, -1), BAD);
        due.is("bargain of nobody", x.bargain(0, 1, 0, 2, 1, -1), BAD);
        due.is("bargain below", x.bargain(0, 1, 0, -1, 1, -1), BAD);
        due.is("bargain no arm", x.bargain(0, 0, 0, 1, 1, -1), BAD);
        due.is("bargain no other arm", x.bargain(0, 1, 0, 1, 0, 0), BAD);
    }

    private static void share() {
        PointingArms x = new PointingArms();
        x.thing(10, 10, 0);
        due.is("share of one arm", x.share(0, 0, 10, 0), 1);
        due.is("share of one arm, below", x.share(0, 0, 10, 1), 80);
        due.is("share of none", x.share(0, 10, 10, 0), 0);
        due.is("share of none, below", x.share(0, 10, 10, 1), 1);
        x.make(0, 2, 5);
        due.is("share close by", x.share(0, 16, 10, 0), 27);
        due.is("share close by, below", x.share(0, 16, 10, 1), 80);
        int[][] bad = {{1, 0, 0, 0}, {-1, 0, 0, 0}, {0, 21, 0, 0}, {0, 0, -1, 0}, {0, 0, 0, 2}, {0, 0, 0, -1}};
        for (int[] b : bad) {
            due.is("share bad", x.share(b[0], b[1], b[2], b[3]), BAD);
        }
    }

    private static void ground() {
        PointingArms x = new PointingArms();
        x.thing(20, 0, 5);
        due.is("ground on it", x.ground(0, 20), 0);
        due.is("ground on its edge", x.ground(0, 15), 0);
        due.is("ground beside it", x.ground(0, 14), 1);
        due.is("k is 21 y and x", x.ground(0, 21 * 6 + 20), 1);
        int points = 0;
        for (int k = 0; k < 441; k++) {
            points += x.ground(0, k);
        }
        due.is("ground in all", x.ground(0, -1), points);
        x.rule(1, 0);
        x.make(0, 2, 0);
        due.is("ground of none", x.ground(0, -1), 0);
        due.is("ground k low", x.ground(0, -2), BAD);
        due.is("ground k high", x.ground(0, 441), BAD);
        due.is("ground thing", x.ground(1, 0), BAD);
        due.is("ground thing below", x.ground(-1, 0), BAD);
    }

    private static void fewest() {
        PointingArms x = new PointingArms();
        Due.things(x, "10,0,0;15,0,0;0,10,0;0,15,0;7,7,0");
        due.is("fewest of a row", x.fewest(3, 0, 0), 1);
        due.is("fewest of the hind one alone", x.fewest(2, 0, 0), NONE);
        due.is("fewest of two rows", x.fewest(15, 0, 0), 2);
        due.is("fewest of three", x.fewest(31, 0, 0), 3);
        x.rule(0, 1);
        due.is("fewest by law", x.fewest(21, 0, 0), 3);
        due.is("fewest by law, a hind one", x.fewest(3, 0, 0), NONE);
        due.is("fewest of an empty set", x.fewest(0, 0, 0), BAD);
        due.is("fewest of what is not there", x.fewest(32, 0, 0), BAD);
        due.is("fewest below", x.fewest(-1, 0, 0), BAD);
        due.is("fewest beside", x.fewest(1, 21, 0), BAD);
        due.is("fewest beside y", x.fewest(1, 0, -1), BAD);
    }

    private static void aside() {
        PointingArms x = new PointingArms();
        Due.things(x, "10,10,0;15,10,0");
        due.is("aside where he is", x.aside(3, 0, 10, 1), 10);
        due.is("aside of like ones by y", x.aside(2, 5, 10, 1), 508);
        due.is("aside on the thing: of like ones by y, then x", x.aside(1, 10, 10, 9), 1009);
        due.is("aside at the brim", x.aside(1, 0, 0, 1), 0);
        x.make(1, 0, 19);
        due.is("aside 6 away, of like ones by y", x.aside(2, 1, 10, 1), 104);
        due.is("aside 7 away is too far", x.aside(2, 0, 10, 9), NONE);
        x.make(0, 2, 5);
        x.make(1, 0, 0);
        x.make(1, 1, 0);
        due.is("aside 6 away is near enough", x.aside(1, 10, 10, 1), 1004);
        x.rule(1, 0);
        due.is("aside none", x.aside(2, 10, 10, 9), NONE);
        int[][] bad = {{0, 0, 0, 1}, {4, 0, 0, 1}, {-1, 0, 0, 1}, {1, 21, 0, 1}, {1, 0, -1, 1}, {1, 0, 0, 0}, {1, 0, 0, 10}};
        for (int[] b : bad) {
            due.is("aside bad", x.aside(b[0], b[1], b[2], b[3]), BAD);
        }
    }

    private static void meantAndStood() {
        PointingArms x = new PointingArms();
        due.is("meant of what is not there", x.meant(1, 0, 1), BAD);
        Due.things(x, "10,10,0;10,20,0");
        due.is("meant", x.meant(1, 0, 1), 1);
        due.is("stood in a row", x.stood(0), 10);
        due.is("stood first x", x.stood(1), 0);
        due.is("stood first y", x.stood(2), 10);
        due.is("meant another", x.meant(1, 2, 2), 2);
        due.is("stood at one point", x.stood(0), 1);
        due.is("stood x", x.stood(1), 5);
        due.is("stood y", x.stood(2), 10);
        due.is("meant nothing", x.meant(0, 1, 0), 3);
        due.is("stood still", x.stood(0), 1);
        due.is("meant what he can't", x.meant(0, 1, 3), 4);
        due.is("stood nowhere", x.stood(0), 0);
        due.is("stood nowhere x", x.stood(1), NONE);
        due.is("stood nowhere y", x.stood(2), NONE);
        due.is("meant full", x.meant(0, 1, 3), FULL);
        due.is("meant bad before full", x.meant(0, 0, 3), BAD);
        due.is("meant set high", x.meant(0, 1, 4), BAD);
        due.is("meant set low", x.meant(0, 1, -1), BAD);
        due.is("stood what low", x.stood(-1), BAD);
        due.is("stood what high", x.stood(3), BAD);
        x.clear();
        x.meant(0, 1, 3);
        due.is("stood below both", x.stood(0), 10);
        x.rule(0, 1);
        due.is("stood by law", x.stood(0), 0);
    }

    private static void stall() {
        PointingArms x = new PointingArms();
        due.is("stall x low", x.stall(-1, 0), BAD);
        due.is("stall y high", x.stall(0, 21), BAD);
        for (int i = 0; i < 8; i++) {
            due.is("stall " + i, x.stall(i, 20), i);
        }
        due.is("stall full", x.stall(0, 0), FULL);
        due.is("stall bad before full", x.stall(21, 0), BAD);
    }

    private static void market() {
        PointingArms x = new PointingArms();
        due.is("market without things", x.market(1, 0, 0, -1), NOT);
        Due.things(x, "1,1,0;2,2,1;0,0,5");
        due.is("market without stalls", x.market(1, 0, 0, -1), NOT);
        x.stall(10, 10);
        x.stall(5, 5);
        x.stall(0, 3);
        due.is("market of too many", x.market(4, 0, 0, -1), NOT);
        due.is("market of one", x.market(1, 0, 0, -1), 3);
        due.is("market of one, its stall", x.market(1, 0, 0, 0), 2);
        due.is("market of two: none behind the other", x.market(2, 0, 0, -1), 13);
        due.is("market of two: the first row of like ones", x.market(2, 0, 0, 0), 1);
        due.is("market of two: second", x.market(2, 0, 0, 1), 2);
        due.is("market of three: the broad one hides them", x.market(3, 0, 0, -1), NONE);
        due.is("market of three: none", x.market(3, 0, 0, 2), NONE);
        x.make(2, 2, 0);
        x.make(1, 2, 5);
        due.is("the broad one far off, since nearer it is touched by the other's arm", x.market(2, 0, 0, 1), 0);
        x.rule(1, 0);
        x.make(0, 2, 1);
        due.is("touched ones are not met: it may come nearer", x.market(2, 0, 0, 1), 1);
        x.make(0, 2, 0);
        x.rule(1, 1);
        due.is("a gate on a stall", x.market(1, 0, 3, 0), 1);
        x.rule(0, 1);
        due.is("market by law", x.market(2, 0, 0, -1), 13);
        int[][] bad = {{0, 0, 0, -1}, {5, 0, 0, -1}, {1, 21, 0, -1}, {1, 0, -1, -1}, {1, 0, 0, 1}, {1, 0, 0, -2}, {3, 0, 0, 3}};
        for (int[] b : bad) {
            due.is("market bad", x.market(b[0], b[1], b[2], b[3]), BAD);
        }
        due.is("things stay where they were", x.at(0, 0, 0), 1);
    }

    private static void clear() {
        PointingArms x = new PointingArms();
        x.thing(1, 1, 1);
        x.person(0, 0);
        Due.talk(x, "0+1+1,0+1+1;0+1+1;0+1+1");
        x.stall(1, 1);
        x.stall(1, 1);
        x.meant(1, 1, 1);
        x.rule(0, 1);
        due.is("clear", x.clear(), 6);
        due.is("clear again", x.clear(), 0);
        int[] want = {1, 1, 0, 0, 0, 0};
        for (int what = 0; what < 6; what++) {
            due.is("count behind clear " + what, x.count(what), want[what]);
        }
        due.is("laws stay", x.rule(0, 1), 1);
        due.is("says no more", x.says(0, 0), BAD);
        due.is("stalls anew", x.stall(3, 3), 0);
    }

    private static void image() {
        PointingArms x = new PointingArms();
        due.is("restore none", x.restore(), NONE);
        x.thing(1, 2, 3);
        x.make(0, 3, -1);
        x.person(4, 5);
        x.rule(0, 1);
        x.rule(1, 0);
        Due.talk(x, "0+1+1");
        x.stall(7, 8);
        x.meant(1, 1, 1);
        x.type('1', 1);
        x.sheet(0, 1, 3);
        due.is("image", x.image(), 1);
        for (int round = 0; round < 2; round++) {
            x.make(0, 0, 20);
            x.make(0, 3, 3);
            x.thing(9, 9, 0);
            x.walk(0, 0, 0);
            x.person(1, 1);
            x.rule(0, 0);
            x.rule(1, 1);
            x.clear();
            x.stall(0, 0);
            x.stall(1, 1);
            due.is("restore", x.restore(), 1);
            due.is("thing is back", x.at(0, 1, 0), 0);
            due.is("person is back", x.walk(0, 4, 5), 405);
            due.is("law 0 is back", x.rule(0, 1), 1);
            due.is("law 1 is back", x.rule(1, 0), 0);
            for (int what = 0; what < 6; what++) {
                due.is("count is back " + what, x.count(what), 1);
            }
        }
        due.is("the stall is back", x.market(1, 7, 9, -1), NONE);
        x.rule(1, 1);
        x.make(0, 2, 0);
        due.is("the stall is back in its place", x.market(1, 7, 9, -1), 1);
        x.drop(0);
        x.type('2', 1);
        x.restore();
        due.is("sheets are not in it", x.drop(0), NULL);
        due.is("the tape is not in it", x.type('3', 1), 3);
    }

    private static PointingArms withSheets() {
        PointingArms x = new PointingArms();
        x.sheet(0, 0, 4);
        x.sheet(1, 1, 4);
        x.sheet(2, 2, 4);
        return x;
    }

    private static void clears() {
        PointingArms x = withSheets();
        Due.things(x, "10,10,0;15,10,0;0,10,0");
        x.person(10, 0);
        x.item(0, 0, 0, 65536);
        x.item(0, 0, 1, 65537);
        x.item(0, 0, 2, -1);
        x.item(0, 0, 3, 131073);
        due.is("clears of shorts", x.clears(0, 0, 0, 0, 2), 2);
        due.is("clears one of them", x.clears(0, 0, 0, 1, 1), 0);
        x.rule(0, 0);
        x.walk(0, 5, 10);
        x.item(1, 1, 0, 1);
        x.item(1, 1, 2, -1);
        due.is("an arm that means two is not clear", x.clears(0, 1, 1, 0, 2), 1);
        x.rule(0, 1);
        due.is("by law it is", x.clears(0, 1, 1, 0, 2), 2);
        due.is("clears none: both 0", x.clears(0, 2, 2, 0, 1), NOT);
        x.item(2, 2, 0, 1L << 32);
        x.item(2, 2, 1, 1);
        due.is("clears none: a long is not cut", x.clears(0, 2, 2, 0, 1), NOT);
        x.item(2, 2, 0, 10);
        due.is("clears none: 10", x.clears(0, 2, 2, 0, 1), NOT);
        x.item(2, 2, 0, 9);
        due.is("clears 9", x.clears(0, 2, 2, 0, 1), 0);
        due.is("clears second is none", x.clears(0, 2, 2, 0, 2), NOT);
        due.is("clears index before none", x.clears(0, 2, 2, 0, 3), INDEX);
        due.is("clears i low", x.clears(0, 2, 2, -1, 1), INDEX);
        due.is("clears i at the end", x.clears(0, 2, 2, 3, 1), INDEX);
        due.is("clears i great", x.clears(0, 2, 2, Integer.MAX_VALUE, 12), INDEX);
        due.is("clears cast", x.clears(0, 2, 1, -1, 1), CAST);
        due.is("clears null", x.clears(0, 3, 1, -1, 1), NULL);
        int[][] bad = {{1, 0, 0, 0, 1}, {-1, 0, 0, 0, 1}, {0, 4, 0, 0, 1}, {0, -1, 0, 0, 1}, {0, 0, 3, 0, 1},
            {0, 0, -1, 0, 1}, {0, 0, 0, 0, 0}, {0, 0, 0, 0, 13}, {0, 3, 0, 0, 13}};
        for (int[] b : bad) {
            due.is("clears bad", x.clears(b[0], b[1], b[2], b[3], b[4]), BAD);
        }
        x.sheet(3, 1, 24);
        for (int i = 0; i < 24; i++) {
            x.item(3, 1, i, i % 2 == 0 ? 1 : 0);
        }
        due.is("clears twelve", x.clears(0, 3, 1, 0, 12), 12);
    }

    private static void sheet() {
        PointingArms x = withSheets();
        due.is("sheet of none", x.sheet(3, 2, 0), 0);
        due.is("sheet of none is there", x.drop(3), 0);
        due.is("sheet of 24", x.sheet(3, 2, 24), 24);
        due.is("sheet of 25", x.sheet(3, 2, 25), BAD);
        due.is("sheet below 0", x.sheet(3, 2, -1), SIZE);
        due.is("sheet lowest", x.sheet(3, 2, Integer.MIN_VALUE), SIZE);
        due.is("sheet bad before size", x.sheet(4, 0, -1), BAD);
        due.is("sheet low", x.sheet(-1, 0, 1), BAD);
        due.is("sheet lane low", x.sheet(0, -1, 1), BAD);
        due.is("sheet lane high", x.sheet(0, 3, -1), BAD);
        due.is("what is refused changes nothing", x.drop(3), 24);
        x.person(0, 0);
        x.item(1, 1, 0, 1);
        x.sheet(1, 1, 4);
        due.is("a new row is of zeros", x.clears(0, 1, 1, 0, 1), NOT);
    }

    private static void drop() {
        PointingArms x = withSheets();
        due.is("drop", x.drop(2), 4);
        due.is("drop again", x.drop(2), NULL);
        due.is("drop low", x.drop(-1), BAD);
        due.is("drop high", x.drop(4), BAD);
        due.is("dropped is missing", x.item(2, 2, 0, 1), NULL);
    }

    private static void item() {
        PointingArms x = withSheets();
        due.is("item", x.item(0, 0, 3, 1), 1);
        due.is("item i high", x.item(0, 0, 4, 1), INDEX);
        due.is("item i low", x.item(0, 0, -1, 1), INDEX);
        due.is("item cast before index", x.item(0, 1, 4, 1), CAST);
        due.is("item null", x.item(3, 1, 4, 1), NULL);
        due.is("item lane", x.item(3, 3, 4, 1), BAD);
        due.is("item sheet", x.item(4, 0, 0, 1), BAD);
        due.is("item sheet low", x.item(-1, 0, 0, 1), BAD);
    }

    /** No call tells an item, so clears is asked of the arm that two items are. */
    private static void copy() {
        PointingArms x = withSheets();
        x.person(10, 10);
        x.sheet(3, 1, 4);
        due.is("copy", x.copy(1, 0, 3, 0, 4), 4);
        due.is("copy none", x.copy(1, 4, 3, 4, 0), 0);
        due.is("copy none beyond", x.copy(1, 5, 3, 0, 0), INDEX);
        due.is("copy none beyond there", x.copy(1, 0, 3, 5, 0), INDEX);
        due.is("copy too many", x.copy(1, 0, 3, 0, 5), INDEX);
        due.is("copy beyond", x.copy(1, 1, 3, 0, 4), INDEX);
        due.is("copy beyond there", x.copy(1, 0, 3, 1, 4), INDEX);
        due.is("copy i low", x.copy(1, -1, 3, 0, 1), INDEX);
        due.is("copy j low", x.copy(1, 0, 3, -1, 1), INDEX);
        due.is("copy n low", x.copy(1, 0, 3, 0, -1), INDEX);
        due.is("copy n lowest", x.copy(1, 0, 3, 0, Integer.MIN_VALUE), INDEX);
        due.is("copy greatest", x.copy(1, Integer.MAX_VALUE, 3, Integer.MAX_VALUE, Integer.MAX_VALUE), INDEX);
        due.is("copy cast before index", x.copy(0, 0, 1, 0, 9), CAST);
        x.drop(0);
        due.is("copy from nothing", x.copy(0, 0, 1, 0, 9), NULL);
        due.is("copy to nothing", x.copy(1, 0, 0, 0, 9), NULL);
        due.is("copy bad from", x.copy(4, 0, 0, 0, 9), BAD);
        due.is("copy bad to", x.copy(0, 0, -1, 0, 9), BAD);
        Due.things(x, "20,10,0;10,20,0;20,20,0");
        x.item(1, 1, 0, 0);
        x.item(1, 1, 1, 1);
        x.item(1, 1, 2, 1);
        x.item(1, 1, 3, 0);
        due.is("copy onto itself", x.copy(1, 0, 1, 1, 3), 3);
        due.is("0 0 is no arm", x.clears(0, 1, 1, 0, 1), NOT);
        due.is("as if taken ahead: 0 1, 1", x.clears(0, 1, 1, 1, 1), 1);
        due.is("as if taken ahead: 1, 1", x.clears(0, 1, 1, 2, 1), 1);
        x.make(2, 0, 19);
        due.is("the last two are 1 and 1", x.clears(0, 1, 1, 2, 1), 0);
        x.make(2, 0, 20);
        due.is("copy back", x.copy(1, 1, 1, 0, 3), 3);
        due.is("copied back: 0 1", x.clears(0, 1, 1, 0, 1), 1);
        x.make(1, 0, 9);
        due.is("copied back: just 0 1", x.clears(0, 1, 1, 0, 1), 0);
        due.is("copied back: 1 1", x.clears(0, 1, 1, 1, 1), 1);
    }
}
