import java.util.ArrayList;
import java.util.List;

/**
 * Asks an object for all that it holds, one part of it at a time: what is asked may change the object, and an object
 * is good for 512 calls alone.
 */
final class Probe {
    static final int PARTS = 6;
    private final PointingArms x;
    private final List<Integer> answers = new ArrayList<>();

    private Probe(PointingArms x) {
        this.x = x;
    }

    static List<Integer> answers(PointingArms x, int part) {
        Probe probe = new Probe(x);
        if (part > 3) {
            probe.note(x.restore());
        }
        switch (part) {
            case 0:
            case 4:
                probe.ground();
                break;
            case 1:
            case 5:
                probe.talkAndStalls();
                break;
            case 2:
                probe.sheets();
                break;
            default:
                probe.tape();
        }
        return probe.answers;
    }

    private void note(int answer) {
        answers.add(answer);
    }

    private void ground() {
        for (int what = 0; what < 6; what++) {
            note(x.count(what));
        }
        for (int thing = 0; thing < 10; thing++) {
            for (int tick = 0; tick < 2; tick++) {
                note(x.at(thing, tick, 0));
                note(x.at(thing, tick, 1));
            }
            note(x.make(thing, 2, 1));
        }
        note(x.rule(0, 0));
        note(x.rule(1, 1));
        for (int person = 0; person < 6; person++) {
            note(x.walk(person, 0, 0));
        }
    }

    /** A thing is moved about, so that unlike arms and stalls are seen. */
    private void talkAndStalls() {
        note(x.count(2));
        note(x.count(3));
        stood();
        for (int y = 0; y <= 20; y += 5) {
            for (int gate = 0; gate <= 20; gate += 5) {
                note(x.market(1, gate, y, -1));
                note(x.market(1, gate, y, 0));
            }
        }
        int[][] places = {{10, 10}, {4, 10}, {20, 10}, {10, 4}, {10, 20}, {17, 3}, {2, 15}, {15, 15}};
        for (int[] place : places) {
            x.make(0, 0, place[0]);
            x.make(0, 1, place[1]);
            for (int sentence = 0; sentence < 6; sentence++) {
                note(x.says(sentence, 0));
            }
            stood();
        }
    }

    private void stood() {
        for (int what = 0; what < 3; what++) {
            note(x.stood(what));
        }
    }

    /** No call tells an item: arms are asked whether they are some, and whether they mean a thing. */
    private void sheets() {
        x.things();
        x.rule(0, 0);
        x.rule(1, 1);
        x.walk(0, 10, 10);
        Due.things(x, "15,11,0;9,11,0;11,10,0;11,9,0;10,5,0");
        for (int sheet = 0; sheet < 4; sheet++) {
            int lane = 0;
            for (int tried = 0; tried < 3; tried++) {
                int answer = x.item(sheet, tried, 24, 0);
                note(answer);
                lane = answer == -13 ? tried : lane;
            }
            for (int i = 0; i < 24; i++) {
                note(x.clears(0, sheet, lane, i, 1));
            }
            note(x.drop(sheet));
        }
    }

    private void tape() {
        note(x.type(' ', 1));
        note(x.things());
        for (int thing = 0; thing < 5; thing++) {
            note(x.at(thing, 0, 0));
            note(x.at(thing, 0, 1));
        }
        note(x.type(' ', 1));
    }
}
