/** Counts and prints the calls whose answer is not the one that is due. */
final class Answers {
    private int asked = 0;
    private int wrong = 0;
    private String scene = "";

    void scene(String name) {
        scene = name;
    }

    void due(String call, long got, long want) {
        hold(got == want, call, got, want);
    }

    void due(String call, String got, String want) {
        hold(got.equals(want), call, got, want);
    }

    private void hold(boolean right, String call, Object got, Object want) {
        asked++;
        if (!right) {
            wrong++;
            System.out.println(scene + ": " + call + " answered " + got + ", due is " + want);
        }
    }

    int asked() {
        return asked;
    }

    boolean allRight() {
        return wrong == 0;
    }

    void end() {
        System.out.println(asked + " answers, " + wrong + " not as due");
        if (wrong != 0) {
            System.exit(1);
        }
    }
}
