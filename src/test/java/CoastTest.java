/** Promises 1 to 8: a new object, coast, set, of, wind, storm, end, nourish. */
public final class CoastTest {
    private static final Check CHECK = new Check("CoastTest");

    public static void main(String[] args) {
        newObject();
        CHECK.end();
    }

    private static void newObject() {
        DuneBench x = new DuneBench();
        CHECK.due("many(0)", x.many(0), 5);
    }
}
