import java.util.LinkedHashMap;
import java.util.Map;

/** What all the calls that show a shop answer, behind the calls that made it. */
final class Look {
    private static final int OUT = -11;

    private final String made;
    private Run run;
    private final Map<String, Long> answers = new LinkedHashMap<>();

    private Look(String made) {
        this.made = made;
        this.run = new Run(made);
    }

    static Map<String, Long> behind(String made) {
        Look look = new Look(made);
        look.atWhatIsTold();
        look.atCylinders();
        look.atKeys();
        look.atCabinets();
        look.atDoorsAndWishes();
        look.atTray();
        return look.answers;
    }

    private long ask(String call) {
        if (run.callsLeft() == 0) {
            run = new Run(made);
        }
        long answer = run.ask(call);
        answers.put(call, answer);
        return answer;
    }

    private int told(int what) {
        return answers.get("told(" + what + ")").intValue();
    }

    /** Ahead of the rest, which changes FINDINGS and the TRACE by asking. */
    private void atWhatIsTold() {
        ask("finding()");
        ask("at()");
        ask("trials()");
        for (int what = 0; what <= 9; what++) {
            ask("told(" + what + ")");
        }
        for (int i = 0; i <= Math.min(told(8), 40); i++) {
            ask("trace(" + i + ")");
        }
    }

    private void atCylinders() {
        for (int cylinder = 0; cylinder < told(0); cylinder++) {
            ask("kind(" + cylinder + ")");
            long chambers = ask("chambers(" + cylinder + ")");
            for (int chamber = 0; chamber < chambers; chamber++) {
                atHeights(cylinder, chamber);
            }
            ask("weight(" + cylinder + ")");
        }
        ask("kind(" + told(0) + ")");
    }

    private void atHeights(int cylinder, int chamber) {
        for (int i = 0; i <= 4; i++) {
            if (ask("heightAt(" + cylinder + ", " + chamber + ", " + i + ")") < 0) {
                return;
            }
        }
    }

    private void atKeys() {
        for (int key = 0; key < told(1); key++) {
            long length = ask("length(" + key + ")");
            for (int i = 0; i < length; i++) {
                ask("cut(" + key + ", " + i + ")");
            }
            ask("holder(" + key + ")");
        }
        ask("length(" + told(1) + ")");
    }

    private void atCabinets() {
        for (int cabinet = 0; cabinet < told(2); cabinet++) {
            int place = 0;
            while (ask("inside(" + cabinet + ", " + place + ")") >= KeyShop.NONE) {
                place++;
            }
            // what a cabinet takes is seen by putting alone
            for (int cylinder = 0; cylinder < Math.min(told(0), 5); cylinder++) {
                ask("put(" + cabinet + ", 0, " + cylinder + ")");
            }
        }
    }

    /** What a DOOR has, and what a WISH is, is seen by changing it alone: each is asked for once. */
    private void atDoorsAndWishes() {
        int doors = told(3);
        int keys = told(1);
        for (int door = 0; door < doors; door++) {
            ask("fit(" + door + ", NONE)");
        }
        for (int key = 0; key < keys; key++) {
            for (int door = 0; door < doors; door++) {
                boolean isFirstOrLast = key < 7 && door < 7 || key == keys - 1 && door == doors - 1;
                if (isFirstOrLast) {
                    ask("wish(" + key + ", " + door + ", 0)");
                }
            }
        }
    }

    /** What lies on THE TRAY is seen in a CORE that is OUT. */
    private void atTray() {
        for (int cylinder = 0; cylinder < told(0) && told(9) >= 0; cylinder++) {
            boolean isOut = answers.get("kind(" + cylinder + ")") == 2
                && answers.get("chambers(" + cylinder + ")") == OUT;
            if (isOut) {
                atRowOfTray(cylinder);
                return;
            }
        }
    }

    private void atRowOfTray(int cylinder) {
        run = new Run(made);
        ask("putCore(" + cylinder + ")");
        for (int chamber = 0; chamber < told(9); chamber++) {
            atHeights(cylinder, chamber);
        }
    }
}
