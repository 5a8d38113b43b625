import java.io.IOException;

/** Every sentence of the document at its bounds, just inside and just outside; and that what is refused changes nothing. */
public final class BoundsTest {
    public static void main(String[] args) throws IOException {
        Sentences s = new Sentences();
        new NetBounds(s).all();
        new TextBounds(s).all();
        new SlotBounds(s).all();
        new AheadBounds(s).all();
        new UndoBounds(s).all();
        new CallBounds(s).all();
        s.end("BoundsTest");
    }
}
