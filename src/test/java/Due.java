/** Compares answers with those that are due, prints each that differs, and ends the test. */
final class Due {
    private int asked = 0;
    private int wrong = 0;
    private int sentences = 0;
    private String sentence = "";
    private int askedBefore = 0;

    /** The words of the document that make the answers due from here on; they stand before each wrong one. */
    void sentence(String words) {
        leaveSentence();
        sentences++;
        sentence = "\"" + words + "\" ";
        askedBefore = asked;
    }

    private void leaveSentence() {
        if (!sentence.isEmpty() && asked == askedBefore) {
            wrong++;
            System.out.println(sentence + "is not tested");
        }
    }

    void same(String call, long got, long want) {
        asked++;
        if (got != want) {
            wrong++;
            System.out.println(sentence + call + " answered " + got + ", due is " + want);
        }
    }

    void yes(String call, boolean got) {
        same(call, got ? 1 : 0, 1);
    }

    void no(String call, boolean got) {
        same(call, got ? 1 : 0, 0);
    }

    /** The latest switchings, the latest first. */
    void outputs(String name, ToothWheelTimer x, long... want) {
        for (int k = 0; k < want.length; k++) {
            same(name + ": output(" + k + ")", x.output(k), want[k]);
        }
    }

    void tallies(String name, ToothWheelTimer x, int sparks, int cuts, int switchings, int ceased) {
        same(name + ": tally(0)", x.tally(0), sparks);
        same(name + ": tally(1)", x.tally(1), cuts);
        same(name + ": tally(2)", x.tally(2), switchings);
        same(name + ": tally(3)", x.tally(3), ceased);
    }

    int wrong() {
        return wrong;
    }

    void end() {
        leaveSentence();
        String of = sentences == 0 ? "" : " to " + sentences + " sentences";
        System.out.println(asked + " answers" + of + " looked at, " + wrong + " not as due");
        if (wrong != 0 || asked == 0) {
            System.exit(1);
        }
    }
}
