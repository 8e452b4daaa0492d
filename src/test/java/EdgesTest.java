/** Each sentence of the document that names a boundary case, with the answers that are due by it. */
public final class EdgesTest {
    public static void main(String[] args) {
        Check check = new Check();
        new EdgesOfText(check).all();
        new EdgesOfSky(check).all();
        new EdgesOfActs(check).all();
        new EdgesOfAhead(check).all();
        new EdgesOfPlans(check).all();
        new EdgesOfStranger(check).all();
        check.saidOfEach(1, 38);
        check.finish("EdgesTest");
    }
}
