import java.util.ArrayList;
import java.util.List;

/** All that later calls show of an object's state: the object is used up by it, within its 512 calls. */
final class Snapshot {
    private final FortyHouses x;
    private final List<Long> answers = new ArrayList<>();

    private Snapshot(FortyHouses x) {
        this.x = x;
    }

    static List<Long> of(FortyHouses x) {
        Snapshot s = new Snapshot(x);
        s.answers.add(x.trace());
        s.look();
        s.laws();
        s.answers.add((long) x.span(0));
        // The text shows by what it is read as, the images by what comes back.
        s.answers.add((long) x.count(5));
        s.answers.add((long) x.laws());
        s.laws();
        for (int image = 0; image < 2; image++) {
            s.answers.add((long) x.back(image));
            s.look();
        }
        return s.answers;
    }

    private void look() {
        houses();
        findings();
    }

    private void houses() {
        int houses = x.count(0);
        answers.add((long) houses);
        for (int i = 0; i < houses; i++) {
            for (int what = 0; what < 4; what++) {
                answers.add((long) x.about(i, what));
            }
        }
    }

    private void findings() {
        int findings = x.count(3);
        answers.add((long) findings);
        answers.add((long) x.count(4));
        for (int which = 0; which < 2; which++) {
            for (int what = 0; what < 3; what++) {
                answers.add((long) x.held(which, what));
            }
        }
        for (int i = 0; i < findings; i++) {
            answers.add((long) x.falls(1 << i, 0));
        }
    }

    private void laws() {
        int laws = x.count(2);
        answers.add((long) laws);
        for (int law = 0; law < laws; law++) {
            for (int conditions : new int[] {0, 1, 62, 63}) {
                answers.add((long) x.tenths(law, conditions, 0));
            }
            answers.add((long) x.tenths(law, 0, 1));
        }
        answers.add((long) x.best(1));
    }
}
